theorem dX10_mean_0 : decode cX10_mean 0 = .ok (.aload_n 0, 1) := by decide +kernel
theorem dX10_mean_1 : decode cX10_mean 1 = .ok (.iload_n 1, 1) := by decide +kernel
theorem dX10_mean_2 : decode cX10_mean 2 = .ok (.invokevirtual 166, 3) := by decide +kernel
theorem dX10_mean_5 : decode cX10_mean 5 = .ok (.aload_n 0, 1) := by decide +kernel
theorem dX10_mean_6 : decode cX10_mean 6 = .ok (.iconst 3, 1) := by decide +kernel
theorem dX10_mean_7 : decode cX10_mean 7 = .ok (.aload_n 0, 1) := by decide +kernel
theorem dX10_mean_8 : decode cX10_mean 8 = .ok (.getfield 24, 3) := by decide +kernel
theorem dX10_mean_11 : decode cX10_mean 11 = .ok (.getfield 173, 3) := by decide +kernel
theorem dX10_mean_14 : decode cX10_mean 14 = .ok (.iload_n 1, 1) := by decide +kernel
theorem dX10_mean_15 : decode cX10_mean 15 = .ok (.iaload, 1) := by decide +kernel
theorem dX10_mean_16 : decode cX10_mean 16 = .ok (.invokevirtual 343, 3) := by decide +kernel
theorem dX10_mean_19 : decode cX10_mean 19 = .ok (.ireturn, 1) := by decide +kernel
def VX10_mean_0 (d : Nat) (Q : Out → MS → Prop) (x0 : Nat) (x1 : Int) (S : MS) : Prop :=
  S.K x0 = 10 ∧ Mw hX10_needScale yX10_needScale d [vA x0, vI x1] S (xV (fun S1 => S1.K x0 = 10 ∧ ∃ b2, S1.R x0 2 = some b2 ∧ (S1.K b2 = 7 ∧ ∃ b3, S1.R b2 1 = some b3 ∧ ((S1.K b3 = 13 ∧ 0 ≤ x1 ∧ x1 < S1.N b3) ∧ (S1.K x0 = 10 ∧ Mw hX10_walked yX10_walked d [vA x0, vI 3, vI (S1.I b3 (x1).toNat)] S1 (oI (fun r4 S4 => Q (.inl (some (vI r4))) S4)))))) (fun E S9 => Q (.inr E) S9))
theorem JX10_mean_0 {d : Nat} {S0 : MS} {Q : Out → MS → Prop} (x0 : Nat) (x1 : Int) (S : MS) (h : VX10_mean_0 d Q x0 x1 S) : Jw FinM RX10 cX10_mean 2 (some .int) [] yX10_mean (d + 1) S0 S 0 [(0, vA x0), (1, vI x1)] [] Q :=
  j_aload_n 0 dX10_mean_0 rfl (j_iload_n 1 dX10_mean_1 rfl (j_callV (rest := []) 10 [vI x1] k_RX10_166 ⟨w_5_99, p_2_13⟩ ⟨_, _, rfl⟩ (by decide) rfl rfl (Nat.le_of_ble_eq_true rfl) dX10_mean_2 h (kV (fun S1 h => j_aload_n 0 dX10_mean_5 rfl (j_iconst dX10_mean_6 (j_aload_n 0 dX10_mean_7 rfl (j_getR 10 2 f_RX10_24 dX10_mean_8 h (fun b2 h => j_getR 7 1 f_RX10_173 dX10_mean_11 h (fun b3 h => j_iload_n 1 dX10_mean_14 rfl (j_iald dX10_mean_15 h (fun h => j_callV (rest := []) 10 [vI 3, vI (S1.I b3 (x1).toNat)] k_RX10_343 ⟨w_3_157, p_1_12⟩ ⟨_, _, rfl⟩ (by decide) rfl rfl (Nat.le_of_ble_eq_true rfl) dX10_mean_16 h (kI (fun r4 S4 h => j_iret rfl dX10_mean_19 h)) (fun _ _ h => h.elim)))))))))) (fun _ _ h => jx_out h)))
theorem MX10_mean {d : Nat} {x0 : Nat} {x1 : Int} {S : MS} {Q : Out → MS → Prop} (h : VX10_mean_0 d Q x0 x1 S) : Mw hX10_mean yX10_mean (d + 1) [vA x0, vI x1] S Q := Mw.ofJ (by decide) (Nat.le_of_ble_eq_true rfl) (JX10_mean_0 _ _ S h)
theorem dX10_cheapest_0 : decode cX10_cheapest 0 = .ok (.iconst (-1), 1) := by decide +kernel
theorem dX10_cheapest_1 : decode cX10_cheapest 1 = .ok (.istore_n 2, 1) := by decide +kernel
theorem dX10_cheapest_2 : decode cX10_cheapest 2 = .ok (.iconst (-1), 1) := by decide +kernel
theorem dX10_cheapest_3 : decode cX10_cheapest 3 = .ok (.istore_n 3, 1) := by decide +kernel
theorem dX10_cheapest_4 : decode cX10_cheapest 4 = .ok (.iconst 0, 1) := by decide +kernel
theorem dX10_cheapest_5 : decode cX10_cheapest 5 = .ok (.istore 4, 2) := by decide +kernel
theorem dX10_cheapest_7 : decode cX10_cheapest 7 = .ok (.iload 4, 2) := by decide +kernel
theorem dX10_cheapest_9 : decode cX10_cheapest 9 = .ok (.aload_n 0, 1) := by decide +kernel
theorem dX10_cheapest_10 : decode cX10_cheapest 10 = .ok (.getfield 24, 3) := by decide +kernel
theorem dX10_cheapest_13 : decode cX10_cheapest 13 = .ok (.getfield 149, 3) := by decide +kernel
theorem dX10_cheapest_16 : decode cX10_cheapest 16 = .ok (.if_icmp .ge 74, 3) := by decide +kernel
theorem dX10_cheapest_19 : decode cX10_cheapest 19 = .ok (.aload_n 0, 1) := by decide +kernel
theorem dX10_cheapest_20 : decode cX10_cheapest 20 = .ok (.getfield 24, 3) := by decide +kernel
theorem dX10_cheapest_23 : decode cX10_cheapest 23 = .ok (.getfield 398, 3) := by decide +kernel
theorem dX10_cheapest_26 : decode cX10_cheapest 26 = .ok (.iload 4, 2) := by decide +kernel
theorem dX10_cheapest_28 : decode cX10_cheapest 28 = .ok (.iaload, 1) := by decide +kernel
theorem dX10_cheapest_29 : decode cX10_cheapest 29 = .ok (.aload_n 0, 1) := by decide +kernel
theorem dX10_cheapest_30 : decode cX10_cheapest 30 = .ok (.iconst 0, 1) := by decide +kernel
theorem dX10_cheapest_31 : decode cX10_cheapest 31 = .ok (.aload_n 0, 1) := by decide +kernel
theorem dX10_cheapest_32 : decode cX10_cheapest 32 = .ok (.getfield 24, 3) := by decide +kernel
theorem dX10_cheapest_35 : decode cX10_cheapest 35 = .ok (.getfield 173, 3) := by decide +kernel
theorem dX10_cheapest_38 : decode cX10_cheapest 38 = .ok (.iload 4, 2) := by decide +kernel
theorem dX10_cheapest_40 : decode cX10_cheapest 40 = .ok (.iaload, 1) := by decide +kernel
theorem dX10_cheapest_41 : decode cX10_cheapest 41 = .ok (.invokevirtual 343, 3) := by decide +kernel
theorem dX10_cheapest_44 : decode cX10_cheapest 44 = .ok (.imul, 1) := by decide +kernel
theorem dX10_cheapest_45 : decode cX10_cheapest 45 = .ok (.istore 5, 2) := by decide +kernel
theorem dX10_cheapest_47 : decode cX10_cheapest 47 = .ok (.aload_n 0, 1) := by decide +kernel
theorem dX10_cheapest_48 : decode cX10_cheapest 48 = .ok (.bipush 6, 2) := by decide +kernel
theorem dX10_cheapest_50 : decode cX10_cheapest 50 = .ok (.aload_n 0, 1) := by decide +kernel
theorem dX10_cheapest_51 : decode cX10_cheapest 51 = .ok (.getfield 24, 3) := by decide +kernel
theorem dX10_cheapest_54 : decode cX10_cheapest 54 = .ok (.getfield 173, 3) := by decide +kernel
theorem dX10_cheapest_57 : decode cX10_cheapest 57 = .ok (.iload 4, 2) := by decide +kernel
theorem dX10_cheapest_59 : decode cX10_cheapest 59 = .ok (.iaload, 1) := by decide +kernel
theorem dX10_cheapest_60 : decode cX10_cheapest 60 = .ok (.invokevirtual 343, 3) := by decide +kernel
theorem dX10_cheapest_63 : decode cX10_cheapest 63 = .ok (.iconst 1, 1) := by decide +kernel
theorem dX10_cheapest_64 : decode cX10_cheapest 64 = .ok (.if_icmp .ne 20, 3) := by decide +kernel
theorem dX10_cheapest_67 : decode cX10_cheapest 67 = .ok (.iload_n 2, 1) := by decide +kernel
theorem dX10_cheapest_68 : decode cX10_cheapest 68 = .ok (.iconst (-1), 1) := by decide +kernel
theorem dX10_cheapest_69 : decode cX10_cheapest 69 = .ok (.if_icmp .eq 9, 3) := by decide +kernel
theorem dX10_cheapest_72 : decode cX10_cheapest 72 = .ok (.iload 5, 2) := by decide +kernel
theorem dX10_cheapest_74 : decode cX10_cheapest 74 = .ok (.iload_n 3, 1) := by decide +kernel
theorem dX10_cheapest_75 : decode cX10_cheapest 75 = .ok (.if_icmp .ge 9, 3) := by decide +kernel
theorem dX10_cheapest_78 : decode cX10_cheapest 78 = .ok (.iload 4, 2) := by decide +kernel
theorem dX10_cheapest_80 : decode cX10_cheapest 80 = .ok (.istore_n 2, 1) := by decide +kernel
theorem dX10_cheapest_81 : decode cX10_cheapest 81 = .ok (.iload 5, 2) := by decide +kernel
theorem dX10_cheapest_83 : decode cX10_cheapest 83 = .ok (.istore_n 3, 1) := by decide +kernel
theorem dX10_cheapest_84 : decode cX10_cheapest 84 = .ok (.iinc 4 1, 3) := by decide +kernel
theorem dX10_cheapest_87 : decode cX10_cheapest 87 = .ok (.goto (-80), 3) := by decide +kernel
theorem dX10_cheapest_90 : decode cX10_cheapest 90 = .ok (.iload_n 1, 1) := by decide +kernel
theorem dX10_cheapest_91 : decode cX10_cheapest 91 = .ok (.ifCond .eq 7, 3) := by decide +kernel
theorem dX10_cheapest_94 : decode cX10_cheapest 94 = .ok (.iload_n 3, 1) := by decide +kernel
theorem dX10_cheapest_95 : decode cX10_cheapest 95 = .ok (.goto 4, 3) := by decide +kernel
theorem dX10_cheapest_98 : decode cX10_cheapest 98 = .ok (.iload_n 2, 1) := by decide +kernel
theorem dX10_cheapest_99 : decode cX10_cheapest 99 = .ok (.ireturn, 1) := by decide +kernel
def VX10_cheapest_84 (d : Nat) (c7 : Nat → Int → Int → Int → Int → MS → Prop) (Q : Out → MS → Prop) (x0 : Nat) (x1 : Int) (x2 : Int) (x3 : Int) (x4 : Int) (S : MS) : Prop :=
  c7 x0 x1 x2 x3 (x4 + 1) S
theorem JX10_cheapest_84 {d : Nat} {c7 : Nat → Int → Int → Int → Int → MS → Prop} {S0 : MS} {Q : Out → MS → Prop} (hc7 : ∀ (x0 : Nat) (x1 : Int) (x2 : Int) (x3 : Int) (x4 : Int) (S : MS), c7 x0 x1 x2 x3 x4 S → Jw FinM RX10 cX10_cheapest 6 (some .int) [] yX10_cheapest (d + 1) S0 S 7 [(0, vA x0), (1, vI x1), (2, vI x2), (3, vI x3), (4, vI x4)] [] Q) (x0 : Nat) (x1 : Int) (x2 : Int) (x3 : Int) (x4 : Int) (S : MS) (h : VX10_cheapest_84 d c7 Q x0 x1 x2 x3 x4 S) : Jw FinM RX10 cX10_cheapest 6 (some .int) [] yX10_cheapest (d + 1) S0 S 84 [(0, vA x0), (1, vI x1), (2, vI x2), (3, vI x3), (4, vI x4)] [] Q :=
  j_iinc 4 (lv2 := [(4, vI (x4 + 1)), (0, vA x0), (1, vI x1), (2, vI x2), (3, vI x3)]) dX10_cheapest_84 rfl (by decide) rfl (j_goto (tgt := 7) dX10_cheapest_87 (by decide) (j_sub [1, 2, 3, 4, 0] rfl (hc7 _ _ _ _ _ _ h)))
def VX10_cheapest_78 (d : Nat) (c7 : Nat → Int → Int → Int → Int → MS → Prop) (Q : Out → MS → Prop) (x0 : Nat) (x1 : Int) (x4 : Int) (x5 : Int) (S : MS) : Prop :=
  VX10_cheapest_84 d c7 Q x0 x1 x4 x5 x4 S
theorem JX10_cheapest_78 {d : Nat} {c7 : Nat → Int → Int → Int → Int → MS → Prop} {S0 : MS} {Q : Out → MS → Prop} (hc7 : ∀ (x0 : Nat) (x1 : Int) (x2 : Int) (x3 : Int) (x4 : Int) (S : MS), c7 x0 x1 x2 x3 x4 S → Jw FinM RX10 cX10_cheapest 6 (some .int) [] yX10_cheapest (d + 1) S0 S 7 [(0, vA x0), (1, vI x1), (2, vI x2), (3, vI x3), (4, vI x4)] [] Q) (x0 : Nat) (x1 : Int) (x4 : Int) (x5 : Int) (S : MS) (h : VX10_cheapest_78 d c7 Q x0 x1 x4 x5 S) : Jw FinM RX10 cX10_cheapest 6 (some .int) [] yX10_cheapest (d + 1) S0 S 78 [(0, vA x0), (1, vI x1), (4, vI x4), (5, vI x5)] [] Q :=
  j_iload 2 dX10_cheapest_78 rfl (j_istore_n (lv2 := [(2, vI x4), (0, vA x0), (1, vI x1), (4, vI x4), (5, vI x5)]) dX10_cheapest_80 (by decide) rfl (j_iload 4 dX10_cheapest_81 rfl (j_istore_n (lv2 := [(3, vI x5), (2, vI x4), (0, vA x0), (1, vI x1), (4, vI x4), (5, vI x5)]) dX10_cheapest_83 (by decide) rfl (j_sub [2, 3, 1, 0, 4] rfl (JX10_cheapest_84 hc7 _ _ _ _ _ _ h)))))
def VX10_cheapest_7 (d : Nat) (Q : Out → MS → Prop) : Nat → Nat → Int → Int → Int → Int → MS → Prop
  | 0, _, _, _, _, _, _ => False
  | n + 1, x0, x1, x2, x3, x4, S => S.K x0 = 10 ∧ ∃ b1, S.R x0 2 = some b1 ∧ (S.K b1 = 7 ∧ ((R32 x4 ∧ R32 (S.I b1 8)) ∧ (((S.I b1 8) ≤ x4) → R32 x1 ∧ ((x1 = 0) → Q (.inl (some (vI x2))) S) ∧ (¬ (x1 = 0) → Q (.inl (some (vI x3))) S)) ∧ (¬ ((S.I b1 8) ≤ x4) → S.K x0 = 10 ∧ ∃ b2, S.R x0 2 = some b2 ∧ (S.K b2 = 7 ∧ ∃ b3, S.R b2 2 = some b3 ∧ ((S.K b3 = 13 ∧ 0 ≤ x4 ∧ x4 < S.N b3) ∧ (S.K x0 = 10 ∧ ∃ b4, S.R x0 2 = some b4 ∧ (S.K b4 = 7 ∧ ∃ b5, S.R b4 1 = some b5 ∧ ((S.K b5 = 13 ∧ 0 ≤ x4 ∧ x4 < S.N b5) ∧ (S.K x0 = 10 ∧ Mw hX10_walked yX10_walked d [vA x0, vI 0, vI (S.I b5 (x4).toNat)] S (oI (fun r6 S6 => S6.K x0 = 10 ∧ ∃ b7, S6.R x0 2 = some b7 ∧ (S6.K b7 = 7 ∧ ∃ b8, S6.R b7 1 = some b8 ∧ ((S6.K b8 = 13 ∧ 0 ≤ x4 ∧ x4 < S6.N b8) ∧ (S6.K x0 = 10 ∧ Mw hX10_walked yX10_walked d [vA x0, vI 6, vI (S6.I b8 (x4).toNat)] S6 (oI (fun r9 S9 => (R32 r9 ∧ R32 (1 : Int)) ∧ (¬ (r9 = (1 : Int)) → VX10_cheapest_84 d (VX10_cheapest_7 d Q n) Q x0 x1 x2 x3 x4 S9) ∧ ((r9 = (1 : Int)) → (R32 x2 ∧ R32 ((-1) : Int)) ∧ ((x2 = ((-1) : Int)) → VX10_cheapest_78 d (VX10_cheapest_7 d Q n) Q x0 x1 x4 ((S.I b3 (x4).toNat) * r6) S9) ∧ (¬ (x2 = ((-1) : Int)) → (R32 ((S.I b3 (x4).toNat) * r6) ∧ R32 x3) ∧ ((x3 ≤ ((S.I b3 (x4).toNat) * r6)) → VX10_cheapest_84 d (VX10_cheapest_7 d Q n) Q x0 x1 x2 x3 x4 S9) ∧ (¬ (x3 ≤ ((S.I b3 (x4).toNat) * r6)) → VX10_cheapest_78 d (VX10_cheapest_7 d Q n) Q x0 x1 x4 ((S.I b3 (x4).toNat) * r6) S9)))))))))))))))))))
theorem JX10_cheapest_7 {d : Nat} {S0 : MS} {Q : Out → MS → Prop} : ∀ (n : Nat) (x0 : Nat) (x1 : Int) (x2 : Int) (x3 : Int) (x4 : Int) (S : MS), VX10_cheapest_7 d Q n x0 x1 x2 x3 x4 S → Jw FinM RX10 cX10_cheapest 6 (some .int) [] yX10_cheapest (d + 1) S0 S 7 [(0, vA x0), (1, vI x1), (2, vI x2), (3, vI x3), (4, vI x4)] [] Q := by
  intro n
  induction n with
  | zero => intro x0 x1 x2 x3 x4 S h; exact h.elim
  | succ n ih =>
    intro x0 x1 x2 x3 x4 S h
    exact j_iload 4 dX10_cheapest_7 rfl (j_aload_n 0 dX10_cheapest_9 rfl (j_getR 10 2 f_RX10_24 dX10_cheapest_10 h (fun b1 h => j_getI 7 8 f_RX10_149 dX10_cheapest_13 h (fun h => j_icmp_ge (tgt := 90) dX10_cheapest_16 (by decide) h (fun h => j_iload_n 1 dX10_cheapest_90 rfl (j_if_eq (tgt := 98) dX10_cheapest_91 (by decide) h (fun h => j_iload_n 2 dX10_cheapest_98 rfl (j_iret rfl dX10_cheapest_99 h)) (fun h => j_iload_n 3 dX10_cheapest_94 rfl (j_goto (tgt := 99) dX10_cheapest_95 (by decide) (j_iret rfl dX10_cheapest_99 h))))) (fun h => j_aload_n 0 dX10_cheapest_19 rfl (j_getR 10 2 f_RX10_24 dX10_cheapest_20 h (fun b2 h => j_getR 7 2 f_RX10_398 dX10_cheapest_23 h (fun b3 h => j_iload 4 dX10_cheapest_26 rfl (j_iald dX10_cheapest_28 h (fun h => j_aload_n 0 dX10_cheapest_29 rfl (j_iconst dX10_cheapest_30 (j_aload_n 0 dX10_cheapest_31 rfl (j_getR 10 2 f_RX10_24 dX10_cheapest_32 h (fun b4 h => j_getR 7 1 f_RX10_173 dX10_cheapest_35 h (fun b5 h => j_iload 4 dX10_cheapest_38 rfl (j_iald dX10_cheapest_40 h (fun h => j_callV (rest := [vI (S.I b3 (x4).toNat)]) 10 [vI 0, vI (S.I b5 (x4).toNat)] k_RX10_343 ⟨w_3_157, p_1_12⟩ ⟨_, _, rfl⟩ (by decide) rfl rfl (Nat.le_of_ble_eq_true rfl) dX10_cheapest_41 h (kI (fun r6 S6 h => j_imul dX10_cheapest_44 (j_istore (lv2 := [(5, vI ((S.I b3 (x4).toNat) * r6)), (0, vA x0), (1, vI x1), (2, vI x2), (3, vI x3), (4, vI x4)]) dX10_cheapest_45 (by decide) rfl (j_aload_n 1 dX10_cheapest_47 rfl (j_bipush dX10_cheapest_48 rfl (j_aload_n 1 dX10_cheapest_50 rfl (j_getR 10 2 f_RX10_24 dX10_cheapest_51 h (fun b7 h => j_getR 7 1 f_RX10_173 dX10_cheapest_54 h (fun b8 h => j_iload 5 dX10_cheapest_57 rfl (j_iald dX10_cheapest_59 h (fun h => j_callV (rest := []) 10 [vI 6, vI (S6.I b8 (x4).toNat)] k_RX10_343 ⟨w_3_157, p_1_12⟩ ⟨_, _, rfl⟩ (by decide) rfl rfl (Nat.le_of_ble_eq_true rfl) dX10_cheapest_60 h (kI (fun r9 S9 h => j_iconst dX10_cheapest_63 (j_icmp_ne (tgt := 84) dX10_cheapest_64 (by decide) h (fun h => j_sub [1, 2, 3, 4, 5] rfl (JX10_cheapest_84 ih _ _ _ _ _ _ h)) (fun h => j_iload_n 3 dX10_cheapest_67 rfl (j_iconst dX10_cheapest_68 (j_icmp_eq (tgt := 78) dX10_cheapest_69 (by decide) h (fun h => j_sub [1, 2, 5, 0] rfl (JX10_cheapest_78 ih _ _ _ _ _ h)) (fun h => j_iload 0 dX10_cheapest_72 rfl (j_iload_n 4 dX10_cheapest_74 rfl (j_icmp_ge (tgt := 84) dX10_cheapest_75 (by decide) h (fun h => j_sub [1, 2, 3, 4, 5] rfl (JX10_cheapest_84 ih _ _ _ _ _ _ h)) (fun h => j_sub [1, 2, 5, 0] rfl (JX10_cheapest_78 ih _ _ _ _ _ h))))))))))) (fun _ _ h => h.elim)))))))))))) (fun _ _ h => h.elim))))))))))))))))))
def VX10_cheapest_0 (d : Nat) (Q : Out → MS → Prop) (x0 : Nat) (x1 : Int) (S : MS) : Prop :=
  ∃ m, VX10_cheapest_7 d Q m x0 x1 ((-1)) ((-1)) 0 S
theorem JX10_cheapest_0 {d : Nat} {S0 : MS} {Q : Out → MS → Prop} (x0 : Nat) (x1 : Int) (S : MS) (h : VX10_cheapest_0 d Q x0 x1 S) : Jw FinM RX10 cX10_cheapest 6 (some .int) [] yX10_cheapest (d + 1) S0 S 0 [(0, vA x0), (1, vI x1)] [] Q :=
  j_iconst dX10_cheapest_0 (j_istore_n (lv2 := [(2, vI ((-1))), (0, vA x0), (1, vI x1)]) dX10_cheapest_1 (by decide) rfl (j_iconst dX10_cheapest_2 (j_istore_n (lv2 := [(3, vI ((-1))), (2, vI ((-1))), (0, vA x0), (1, vI x1)]) dX10_cheapest_3 (by decide) rfl (j_iconst dX10_cheapest_4 (j_istore (lv2 := [(4, vI 0), (3, vI ((-1))), (2, vI ((-1))), (0, vA x0), (1, vI x1)]) dX10_cheapest_5 (by decide) rfl (Exists.elim h (fun m h => j_sub [3, 4, 2, 1, 0] rfl (JX10_cheapest_7 m _ _ _ _ _ _ h))))))))
theorem MX10_cheapest {d : Nat} {x0 : Nat} {x1 : Int} {S : MS} {Q : Out → MS → Prop} (h : VX10_cheapest_0 d Q x0 x1 S) : Mw hX10_cheapest yX10_cheapest (d + 1) [vA x0, vI x1] S Q := Mw.ofJ (by decide) (Nat.le_of_ble_eq_true rfl) (JX10_cheapest_0 _ _ S h)
theorem dX10_where_0 : decode cX10_where 0 = .ok (.aload_n 0, 1) := by decide +kernel
theorem dX10_where_1 : decode cX10_where 1 = .ok (.iload_n 1, 1) := by decide +kernel
theorem dX10_where_2 : decode cX10_where 2 = .ok (.invokevirtual 158, 3) := by decide +kernel
theorem dX10_where_5 : decode cX10_where 5 = .ok (.aload_n 0, 1) := by decide +kernel
theorem dX10_where_6 : decode cX10_where 6 = .ok (.iload_n 2, 1) := by decide +kernel
theorem dX10_where_7 : decode cX10_where 7 = .ok (.invokevirtual 166, 3) := by decide +kernel
theorem dX10_where_10 : decode cX10_where 10 = .ok (.aload_n 0, 1) := by decide +kernel
theorem dX10_where_11 : decode cX10_where 11 = .ok (.invokevirtual 214, 3) := by decide +kernel
theorem dX10_where_14 : decode cX10_where 14 = .ok (.astore_n 3, 1) := by decide +kernel
theorem dX10_where_15 : decode cX10_where 15 = .ok (.bipush 12, 2) := by decide +kernel
theorem dX10_where_17 : decode cX10_where 17 = .ok (.aload_n 0, 1) := by decide +kernel
theorem dX10_where_18 : decode cX10_where 18 = .ok (.getfield 24, 3) := by decide +kernel
theorem dX10_where_21 : decode cX10_where 21 = .ok (.getfield 173, 3) := by decide +kernel
theorem dX10_where_24 : decode cX10_where 24 = .ok (.iload_n 2, 1) := by decide +kernel
theorem dX10_where_25 : decode cX10_where 25 = .ok (.iaload, 1) := by decide +kernel
theorem dX10_where_26 : decode cX10_where 26 = .ok (.bipush 7, 2) := by decide +kernel
theorem dX10_where_28 : decode cX10_where 28 = .ok (.imul, 1) := by decide +kernel
theorem dX10_where_29 : decode cX10_where 29 = .ok (.iadd, 1) := by decide +kernel
theorem dX10_where_30 : decode cX10_where 30 = .ok (.iload_n 1, 1) := by decide +kernel
theorem dX10_where_31 : decode cX10_where 31 = .ok (.iadd, 1) := by decide +kernel
theorem dX10_where_32 : decode cX10_where 32 = .ok (.istore 4, 2) := by decide +kernel
theorem dX10_where_34 : decode cX10_where 34 = .ok (.aload_n 0, 1) := by decide +kernel
theorem dX10_where_35 : decode cX10_where 35 = .ok (.getfield 76, 3) := by decide +kernel
theorem dX10_where_38 : decode cX10_where 38 = .ok (.iload 4, 2) := by decide +kernel
theorem dX10_where_40 : decode cX10_where 40 = .ok (.iaload, 1) := by decide +kernel
theorem dX10_where_41 : decode cX10_where 41 = .ok (.bipush (-3), 2) := by decide +kernel
theorem dX10_where_43 : decode cX10_where 43 = .ok (.if_icmp .ne 56, 3) := by decide +kernel
theorem dX10_where_46 : decode cX10_where 46 = .ok (.aload_n 0, 1) := by decide +kernel
theorem dX10_where_47 : decode cX10_where 47 = .ok (.getfield 58, 3) := by decide +kernel
theorem dX10_where_50 : decode cX10_where 50 = .ok (.invokevirtual 401, 3) := by decide +kernel
theorem dX10_where_53 : decode cX10_where 53 = .ok (.aload_n 0, 1) := by decide +kernel
theorem dX10_where_54 : decode cX10_where 54 = .ok (.getfield 51, 3) := by decide +kernel
theorem dX10_where_57 : decode cX10_where 57 = .ok (.iconst 0, 1) := by decide +kernel
theorem dX10_where_58 : decode cX10_where 58 = .ok (.aaload, 1) := by decide +kernel
theorem dX10_where_59 : decode cX10_where 59 = .ok (.aload_n 3, 1) := by decide +kernel
theorem dX10_where_60 : decode cX10_where 60 = .ok (.invokevirtual 379, 3) := by decide +kernel
theorem dX10_where_63 : decode cX10_where 63 = .ok (.aload_n 0, 1) := by decide +kernel
theorem dX10_where_64 : decode cX10_where 64 = .ok (.getfield 58, 3) := by decide +kernel
theorem dX10_where_67 : decode cX10_where 67 = .ok (.aload_n 0, 1) := by decide +kernel
theorem dX10_where_68 : decode cX10_where 68 = .ok (.invokevirtual 229, 3) := by decide +kernel
theorem dX10_where_71 : decode cX10_where 71 = .ok (.aload_n 0, 1) := by decide +kernel
theorem dX10_where_72 : decode cX10_where 72 = .ok (.iload_n 2, 1) := by decide +kernel
theorem dX10_where_73 : decode cX10_where 73 = .ok (.invokevirtual 307, 3) := by decide +kernel
theorem dX10_where_76 : decode cX10_where 76 = .ok (.aload_n 0, 1) := by decide +kernel
theorem dX10_where_77 : decode cX10_where 77 = .ok (.getfield 51, 3) := by decide +kernel
theorem dX10_where_80 : decode cX10_where 80 = .ok (.iconst 0, 1) := by decide +kernel
theorem dX10_where_81 : decode cX10_where 81 = .ok (.iload_n 1, 1) := by decide +kernel
theorem dX10_where_82 : decode cX10_where 82 = .ok (.invokevirtual 404, 3) := by decide +kernel
theorem dX10_where_85 : decode cX10_where 85 = .ok (.aload_n 0, 1) := by decide +kernel
theorem dX10_where_86 : decode cX10_where 86 = .ok (.getfield 76, 3) := by decide +kernel
theorem dX10_where_89 : decode cX10_where 89 = .ok (.iload 4, 2) := by decide +kernel
theorem dX10_where_91 : decode cX10_where 91 = .ok (.aload_n 0, 1) := by decide +kernel
theorem dX10_where_92 : decode cX10_where 92 = .ok (.getfield 58, 3) := by decide +kernel
theorem dX10_where_95 : decode cX10_where 95 = .ok (.getfield 408, 3) := by decide +kernel
theorem dX10_where_98 : decode cX10_where 98 = .ok (.iastore, 1) := by decide +kernel
theorem dX10_where_99 : decode cX10_where 99 = .ok (.aload_n 0, 1) := by decide +kernel
theorem dX10_where_100 : decode cX10_where 100 = .ok (.getfield 76, 3) := by decide +kernel
theorem dX10_where_103 : decode cX10_where 103 = .ok (.iload 4, 2) := by decide +kernel
theorem dX10_where_105 : decode cX10_where 105 = .ok (.iaload, 1) := by decide +kernel
theorem dX10_where_106 : decode cX10_where 106 = .ok (.ireturn, 1) := by decide +kernel
def VX10_where_99 (d : Nat) (Q : Out → MS → Prop) (x0 : Nat) (x4 : Int) (S : MS) : Prop :=
  S.K x0 = 10 ∧ ∃ b1, S.R x0 11 = some b1 ∧ ((S.K b1 = 13 ∧ 0 ≤ x4 ∧ x4 < S.N b1) ∧ (Q (.inl (some (vI (S.I b1 (x4).toNat)))) S))
theorem JX10_where_99 {d : Nat} {S0 : MS} {Q : Out → MS → Prop} (x0 : Nat) (x4 : Int) (S : MS) (h : VX10_where_99 d Q x0 x4 S) : Jw FinM RX10 cX10_where 5 (some .int) [] yX10_where (d + 1) S0 S 99 [(0, vA x0), (4, vI x4)] [] Q :=
  j_aload_n 0 dX10_where_99 rfl (j_getR 10 11 f_RX10_76 dX10_where_100 h (fun b1 h => j_iload 1 dX10_where_103 rfl (j_iald dX10_where_105 h (fun h => j_iret rfl dX10_where_106 h))))
def VX10_where_0 (d : Nat) (Q : Out → MS → Prop) (x0 : Nat) (x1 : Int) (x2 : Int) (S : MS) : Prop :=
  S.K x0 = 10 ∧ Mw hX10_needThing yX10_needThing d [vA x0, vI x1] S (xV (fun S1 => S1.K x0 = 10 ∧ Mw hX10_needScale yX10_needScale d [vA x0, vI x2] S1 (xV (fun S2 => S2.K x0 = 10 ∧ Mw hX10_rowsLeft yX10_rowsLeft d [vA x0] S2 (oA (fun r3 S3 => S3.K x0 = 10 ∧ ∃ b4, S3.R x0 2 = some b4 ∧ (S3.K b4 = 7 ∧ ∃ b5, S3.R b4 1 = some b5 ∧ ((S3.K b5 = 13 ∧ 0 ≤ x2 ∧ x2 < S3.N b5) ∧ (S3.K x0 = 10 ∧ ∃ b6, S3.R x0 11 = some b6 ∧ ((S3.K b6 = 13 ∧ 0 ≤ ((12 + ((S3.I b5 (x2).toNat) * 7)) + x1) ∧ ((12 + ((S3.I b5 (x2).toNat) * 7)) + x1) < S3.N b6) ∧ ((R32 (S3.I b6 (((12 + ((S3.I b5 (x2).toNat) * 7)) + x1)).toNat) ∧ R32 ((-3) : Int)) ∧ (¬ ((S3.I b6 (((12 + ((S3.I b5 (x2).toNat) * 7)) + x1)).toNat) = ((-3) : Int)) → VX10_where_99 d Q x0 ((12 + ((S3.I b5 (x2).toNat) * 7)) + x1) S3) ∧ (((S3.I b6 (((12 + ((S3.I b5 (x2).toNat) * 7)) + x1)).toNat) = ((-3) : Int)) → S3.K x0 = 10 ∧ ∃ b7, S3.R x0 8 = some b7 ∧ (S3.K b7 = 9 ∧ Mw hX9_start yX9_start d [vA b7] S3 (oV (fun S8 => S8.K x0 = 10 ∧ ∃ b9, S8.R x0 7 = some b9 ∧ ((S8.K b9 = 19 ∧ (17 ≤ 19 ∧ 19 < 21) ∧ 0 ≤ (0 : Int) ∧ (0 : Int) < S8.N b9) ∧ ∃ b10, S8.R b9 ((0 : Int)).toNat = some b10 ∧ (S8.K b10 = 5 ∧ Mw hX5_copy yX5_copy d [vA b10, vA r3] S8 (oV (fun S11 => S11.K x0 = 10 ∧ ∃ b12, S11.R x0 8 = some b12 ∧ (S11.K x0 = 10 ∧ Mw hX10_allRows yX10_allRows d [vA x0] S11 (oA (fun r13 S13 => S13.K x0 = 10 ∧ Mw hX10_layingsOf yX10_layingsOf d [vA x0, vI x2] S13 (oA (fun r14 S14 => S14.K x0 = 10 ∧ ∃ b15, S14.R x0 7 = some b15 ∧ (S14.K b12 = 9 ∧ Mw hX9_go yX9_go d [vA b12, vA r13, vA r14, vA b15, vI 0, vI x1] S14 (oV (fun S16 => S16.K x0 = 10 ∧ ∃ b17, S16.R x0 11 = some b17 ∧ (S16.K x0 = 10 ∧ ∃ b18, S16.R x0 8 = some b18 ∧ (S16.K b18 = 9 ∧ ((S16.K b17 = 13 ∧ 0 ≤ ((12 + ((S3.I b5 (x2).toNat) * 7)) + x1) ∧ ((12 + ((S3.I b5 (x2).toNat) * 7)) + x1) < S16.N b17) ∧ (VX10_where_99 d Q x0 ((12 + ((S3.I b5 (x2).toNat) * 7)) + x1) (S16.setI b17 (((12 + ((S3.I b5 (x2).toNat) * 7)) + x1)).toNat (S16.I b18 0)))))))))))))))))))))))))))))) (fun E S9 => Q (.inr E) S9))) (fun E S9 => Q (.inr E) S9))
theorem JX10_where_0 {d : Nat} {S0 : MS} {Q : Out → MS → Prop} (x0 : Nat) (x1 : Int) (x2 : Int) (S : MS) (h : VX10_where_0 d Q x0 x1 x2 S) : Jw FinM RX10 cX10_where 5 (some .int) [] yX10_where (d + 1) S0 S 0 [(0, vA x0), (1, vI x1), (2, vI x2)] [] Q :=
  j_aload_n 0 dX10_where_0 rfl (j_iload_n 1 dX10_where_1 rfl (j_callV (rest := []) 10 [vI x1] k_RX10_158 ⟨w_5_67, p_2_12⟩ ⟨_, _, rfl⟩ (by decide) rfl rfl (Nat.le_of_ble_eq_true rfl) dX10_where_2 h (kV (fun S1 h => j_aload_n 0 dX10_where_5 rfl (j_iload_n 2 dX10_where_6 rfl (j_callV (rest := []) 10 [vI x2] k_RX10_166 ⟨w_5_99, p_2_13⟩ ⟨_, _, rfl⟩ (by decide) rfl rfl (Nat.le_of_ble_eq_true rfl) dX10_where_7 h (kV (fun S2 h => j_aload_n 0 dX10_where_10 rfl (j_callV (rest := []) 10 [] k_RX10_214 ⟨w_2_57, p_1_0⟩ ⟨_, _, rfl⟩ (by decide) rfl rfl (Nat.le_of_ble_eq_true rfl) dX10_where_11 h (kA (fun r3 S3 h => j_astore_n (lv2 := [(3, vA r3), (0, vA x0), (1, vI x1), (2, vI x2)]) dX10_where_14 (by decide) rfl (j_bipush dX10_where_15 rfl (j_aload_n 1 dX10_where_17 rfl (j_getR 10 2 f_RX10_24 dX10_where_18 h (fun b4 h => j_getR 7 1 f_RX10_173 dX10_where_21 h (fun b5 h => j_iload_n 3 dX10_where_24 rfl (j_iald dX10_where_25 h (fun h => j_bipush dX10_where_26 rfl (j_imul dX10_where_28 (j_iadd dX10_where_29 (j_iload_n 2 dX10_where_30 rfl (j_iadd dX10_where_31 (j_istore (lv2 := [(4, vI ((12 + ((S3.I b5 (x2).toNat) * 7)) + x1)), (3, vA r3), (0, vA x0), (1, vI x1), (2, vI x2)]) dX10_where_32 (by decide) rfl (j_aload_n 2 dX10_where_34 rfl (j_getR 10 11 f_RX10_76 dX10_where_35 h (fun b6 h => j_iload 0 dX10_where_38 rfl (j_iald dX10_where_40 h (fun h => j_bipush dX10_where_41 rfl (j_icmp_ne (tgt := 99) dX10_where_43 (by decide) h (fun h => j_sub [2, 0] rfl (JX10_where_99 _ _ _ h)) (fun h => j_aload_n 2 dX10_where_46 rfl (j_getR 10 8 f_RX10_58 dX10_where_47 h (fun b7 h => j_callV (rest := []) 9 [] k_RX10_401 ⟨w_3_160, w_3_161⟩ ⟨_, _, rfl⟩ (by decide) rfl rfl (Nat.le_of_ble_eq_true rfl) dX10_where_50 h (kV (fun S8 h => j_aload_n 2 dX10_where_53 rfl (j_getR 10 7 f_RX10_51 dX10_where_54 h (fun b9 h => j_iconst dX10_where_57 (j_aald 19 dX10_where_58 h (fun b10 h => j_aload_n 1 dX10_where_59 rfl (j_callV (rest := []) 5 [vA r3] k_RX10_379 ⟨w_3_164, w_3_165⟩ ⟨_, _, rfl⟩ (by decide) rfl rfl (Nat.le_of_ble_eq_true rfl) dX10_where_60 h (kV (fun S11 h => j_aload_n 2 dX10_where_63 rfl (j_getR 10 8 f_RX10_58 dX10_where_64 h (fun b12 h => j_aload_n 2 dX10_where_67 rfl (j_callV (rest := [vA b12]) 10 [] k_RX10_229 ⟨w_2_61, p_1_1⟩ ⟨_, _, rfl⟩ (by decide) rfl rfl (Nat.le_of_ble_eq_true rfl) dX10_where_68 h (kA (fun r13 S13 h => j_aload_n 2 dX10_where_71 rfl (j_iload_n 4 dX10_where_72 rfl (j_callV (rest := [vA r13, vA b12]) 10 [vI x2] k_RX10_307 ⟨w_6_35, p_3_5⟩ ⟨_, _, rfl⟩ (by decide) rfl rfl (Nat.le_of_ble_eq_true rfl) dX10_where_73 h (kA (fun r14 S14 h => j_aload_n 2 dX10_where_76 rfl (j_getR 10 7 f_RX10_51 dX10_where_77 h (fun b15 h => j_iconst dX10_where_80 (j_iload_n 3 dX10_where_81 rfl (j_callVN (rest := []) 9 [vA r13, vA r14, vA b15, vI 0, vI x1] k_RX10_404 ⟨w_3_169, p_1_13⟩ ⟨_, _, rfl⟩ (by decide) rfl rfl (Nat.le_of_ble_eq_true rfl) dX10_where_82 h (kV (fun S16 h => j_aload_n 2 dX10_where_85 rfl (j_getR 10 11 f_RX10_76 dX10_where_86 h (fun b17 h => j_iload 0 dX10_where_89 rfl (j_aload_n 2 dX10_where_91 rfl (j_getR 10 8 f_RX10_58 dX10_where_92 h (fun b18 h => j_getI 9 0 f_RX10_408 dX10_where_95 h (fun h => j_iast dX10_where_98 h (fun h => j_sub [2, 0] rfl (JX10_where_99 _ _ _ h)))))))))))))))) (fun _ _ h => h.elim))))) (fun _ _ h => h.elim)))))) (fun _ _ h => h.elim)))))))) (fun _ _ h => h.elim)))))))))))))))))))))))) (fun _ _ h => h.elim)))) (fun _ _ h => jx_out h))))) (fun _ _ h => jx_out h)))
theorem MX10_where {d : Nat} {x0 : Nat} {x1 : Int} {x2 : Int} {S : MS} {Q : Out → MS → Prop} (h : VX10_where_0 d Q x0 x1 x2 S) : Mw hX10_where yX10_where (d + 1) [vA x0, vI x1, vI x2] S Q := Mw.ofJ (by decide) (Nat.le_of_ble_eq_true rfl) (JX10_where_0 _ _ _ S h)
theorem dX10_tree_0 : decode cX10_tree 0 = .ok (.aload_n 0, 1) := by decide +kernel
theorem dX10_tree_1 : decode cX10_tree 1 = .ok (.getfield 20, 3) := by decide +kernel
theorem dX10_tree_4 : decode cX10_tree 4 = .ok (.invokevirtual 107, 3) := by decide +kernel
theorem dX10_tree_7 : decode cX10_tree 7 = .ok (.istore_n 3, 1) := by decide +kernel
theorem dX10_tree_8 : decode cX10_tree 8 = .ok (.aload_n 0, 1) := by decide +kernel
theorem dX10_tree_9 : decode cX10_tree 9 = .ok (.iload_n 1, 1) := by decide +kernel
theorem dX10_tree_10 : decode cX10_tree 10 = .ok (.invokevirtual 166, 3) := by decide +kernel
theorem dX10_tree_13 : decode cX10_tree 13 = .ok (.aload_n 0, 1) := by decide +kernel
theorem dX10_tree_14 : decode cX10_tree 14 = .ok (.invokevirtual 229, 3) := by decide +kernel
theorem dX10_tree_17 : decode cX10_tree 17 = .ok (.astore 4, 2) := by decide +kernel
theorem dX10_tree_19 : decode cX10_tree 19 = .ok (.aload_n 0, 1) := by decide +kernel
theorem dX10_tree_20 : decode cX10_tree 20 = .ok (.iload_n 1, 1) := by decide +kernel
theorem dX10_tree_21 : decode cX10_tree 21 = .ok (.invokevirtual 307, 3) := by decide +kernel
theorem dX10_tree_24 : decode cX10_tree 24 = .ok (.astore 5, 2) := by decide +kernel
theorem dX10_tree_26 : decode cX10_tree 26 = .ok (.aload_n 0, 1) := by decide +kernel
theorem dX10_tree_27 : decode cX10_tree 27 = .ok (.getfield 51, 3) := by decide +kernel
theorem dX10_tree_30 : decode cX10_tree 30 = .ok (.iconst 0, 1) := by decide +kernel
theorem dX10_tree_31 : decode cX10_tree 31 = .ok (.aaload, 1) := by decide +kernel
theorem dX10_tree_32 : decode cX10_tree 32 = .ok (.astore 6, 2) := by decide +kernel
theorem dX10_tree_34 : decode cX10_tree 34 = .ok (.aload 6, 2) := by decide +kernel
theorem dX10_tree_36 : decode cX10_tree 36 = .ok (.aload_n 0, 1) := by decide +kernel
theorem dX10_tree_37 : decode cX10_tree 37 = .ok (.invokevirtual 214, 3) := by decide +kernel
theorem dX10_tree_40 : decode cX10_tree 40 = .ok (.invokevirtual 379, 3) := by decide +kernel
theorem dX10_tree_43 : decode cX10_tree 43 = .ok (.iconst 0, 1) := by decide +kernel
theorem dX10_tree_44 : decode cX10_tree 44 = .ok (.istore 7, 2) := by decide +kernel
theorem dX10_tree_46 : decode cX10_tree 46 = .ok (.iload 7, 2) := by decide +kernel
theorem dX10_tree_48 : decode cX10_tree 48 = .ok (.iload_n 3, 1) := by decide +kernel
theorem dX10_tree_49 : decode cX10_tree 49 = .ok (.if_icmp .ge 92, 3) := by decide +kernel
theorem dX10_tree_52 : decode cX10_tree 52 = .ok (.aload 5, 2) := by decide +kernel
theorem dX10_tree_54 : decode cX10_tree 54 = .ok (.aload 5, 2) := by decide +kernel
theorem dX10_tree_56 : decode cX10_tree 56 = .ok (.aload 4, 2) := by decide +kernel
theorem dX10_tree_58 : decode cX10_tree 58 = .ok (.aload 6, 2) := by decide +kernel
theorem dX10_tree_60 : decode cX10_tree 60 = .ok (.invokevirtual 411, 3) := by decide +kernel
theorem dX10_tree_63 : decode cX10_tree 63 = .ok (.invokevirtual 330, 3) := by decide +kernel
theorem dX10_tree_66 : decode cX10_tree 66 = .ok (.istore 8, 2) := by decide +kernel
theorem dX10_tree_68 : decode cX10_tree 68 = .ok (.aload_n 0, 1) := by decide +kernel
theorem dX10_tree_69 : decode cX10_tree 69 = .ok (.getfield 20, 3) := by decide +kernel
theorem dX10_tree_72 : decode cX10_tree 72 = .ok (.iload 7, 2) := by decide +kernel
theorem dX10_tree_74 : decode cX10_tree 74 = .ok (.invokevirtual 415, 3) := by decide +kernel
theorem dX10_tree_77 : decode cX10_tree 77 = .ok (.bipush 48, 2) := by decide +kernel
theorem dX10_tree_79 : decode cX10_tree 79 = .ok (.isub, 1) := by decide +kernel
theorem dX10_tree_80 : decode cX10_tree 80 = .ok (.istore 9, 2) := by decide +kernel
theorem dX10_tree_82 : decode cX10_tree 82 = .ok (.iload 8, 2) := by decide +kernel
theorem dX10_tree_84 : decode cX10_tree 84 = .ok (.iconst (-1), 1) := by decide +kernel
theorem dX10_tree_85 : decode cX10_tree 85 = .ok (.if_icmp .eq 25, 3) := by decide +kernel
theorem dX10_tree_88 : decode cX10_tree 88 = .ok (.aload_n 0, 1) := by decide +kernel
theorem dX10_tree_89 : decode cX10_tree 89 = .ok (.getfield 24, 3) := by decide +kernel
theorem dX10_tree_92 : decode cX10_tree 92 = .ok (.iload 9, 2) := by decide +kernel
theorem dX10_tree_94 : decode cX10_tree 94 = .ok (.invokevirtual 180, 3) := by decide +kernel
theorem dX10_tree_97 : decode cX10_tree 97 = .ok (.ifCond .eq 13, 3) := by decide +kernel
theorem dX10_tree_100 : decode cX10_tree 100 = .ok (.iload 8, 2) := by decide +kernel
theorem dX10_tree_102 : decode cX10_tree 102 = .ok (.iload 9, 2) := by decide +kernel
theorem dX10_tree_104 : decode cX10_tree 104 = .ok (.invokestatic 184, 3) := by decide +kernel
theorem dX10_tree_107 : decode cX10_tree 107 = .ok (.ifCond .ne 14, 3) := by decide +kernel
theorem dX10_tree_110 : decode cX10_tree 110 = .ok (.new 115, 3) := by decide +kernel
theorem dX10_tree_113 : decode cX10_tree 113 = .ok (.dup, 1) := by decide +kernel
theorem dX10_tree_114 : decode cX10_tree 114 = .ok (.ldc_w 417, 3) := by decide +kernel
theorem dX10_tree_117 : decode cX10_tree 117 = .ok (.invokespecial 119, 3) := by decide +kernel
theorem dX10_tree_120 : decode cX10_tree 120 = .ok (.athrow, 1) := by decide +kernel
theorem dX10_tree_121 : decode cX10_tree 121 = .ok (.aload 6, 2) := by decide +kernel
theorem dX10_tree_123 : decode cX10_tree 123 = .ok (.aload 5, 2) := by decide +kernel
theorem dX10_tree_125 : decode cX10_tree 125 = .ok (.iload 8, 2) := by decide +kernel
theorem dX10_tree_127 : decode cX10_tree 127 = .ok (.iload 9, 2) := by decide +kernel
theorem dX10_tree_129 : decode cX10_tree 129 = .ok (.invokevirtual 419, 3) := by decide +kernel
theorem dX10_tree_132 : decode cX10_tree 132 = .ok (.invokevirtual 422, 3) := by decide +kernel
theorem dX10_tree_135 : decode cX10_tree 135 = .ok (.iinc 7 1, 3) := by decide +kernel
theorem dX10_tree_138 : decode cX10_tree 138 = .ok (.goto (-92), 3) := by decide +kernel
theorem dX10_tree_141 : decode cX10_tree 141 = .ok (.iload_n 2, 1) := by decide +kernel
theorem dX10_tree_142 : decode cX10_tree 142 = .ok (.ifCond .eq 20, 3) := by decide +kernel
theorem dX10_tree_145 : decode cX10_tree 145 = .ok (.aload 5, 2) := by decide +kernel
theorem dX10_tree_147 : decode cX10_tree 147 = .ok (.aload 5, 2) := by decide +kernel
theorem dX10_tree_149 : decode cX10_tree 149 = .ok (.aload 4, 2) := by decide +kernel
theorem dX10_tree_151 : decode cX10_tree 151 = .ok (.aload 6, 2) := by decide +kernel
theorem dX10_tree_153 : decode cX10_tree 153 = .ok (.invokevirtual 411, 3) := by decide +kernel
theorem dX10_tree_156 : decode cX10_tree 156 = .ok (.invokevirtual 330, 3) := by decide +kernel
theorem dX10_tree_159 : decode cX10_tree 159 = .ok (.goto 8, 3) := by decide +kernel
theorem dX10_tree_162 : decode cX10_tree 162 = .ok (.aload 6, 2) := by decide +kernel
theorem dX10_tree_164 : decode cX10_tree 164 = .ok (.getfield 218, 3) := by decide +kernel
theorem dX10_tree_167 : decode cX10_tree 167 = .ok (.ireturn, 1) := by decide +kernel
def VX10_tree_110 (d : Nat) (Q : Out → MS → Prop) (S : MS) : Prop :=
  5 ≤ d ∧ Q (.inr "java/lang/IllegalArgumentException") (S.junk 6)
theorem JX10_tree_110 {d : Nat} {S0 : MS} {Q : Out → MS → Prop} (S : MS) (h : VX10_tree_110 d Q S) : Jw FinM RX10 cX10_tree 10 (some .int) [] yX10_tree (d + 1) S0 S 110 [] [] Q :=
  j_throwW t_RX10_115_119 (List.mem_of_getElem? (i := 13) rfl) dX10_tree_110 dX10_tree_113 dX10_tree_114 dX10_tree_117 dX10_tree_120 (Nat.le_of_ble_eq_true rfl) rfl h
def VX10_tree_46 (d : Nat) (Q : Out → MS → Prop) : Nat → Nat → Int → Int → Nat → Nat → Nat → Int → MS → Prop
  | 0, _, _, _, _, _, _, _, _ => False
  | n + 1, x0, x2, x3, x4, x5, x6, x7, S => (R32 x7 ∧ R32 x3) ∧ ((x3 ≤ x7) → R32 x2 ∧ ((x2 = 0) → S.K x6 = 5 ∧ (Q (.inl (some (vI (S.I x6 0)))) S)) ∧ (¬ (x2 = 0) → S.K x5 = 2 ∧ Mw hX2_parting yX2_parting d [vA x5, vA x4, vA x6] S (oI (fun r1 S1 => S1.K x5 = 2 ∧ Mw hX2_setAt yX2_setAt d [vA x5, vI r1] S1 (oI (fun r2 S2 => Q (.inl (some (vI r2))) S2)))))) ∧ (¬ (x3 ≤ x7) → S.K x5 = 2 ∧ Mw hX2_parting yX2_parting d [vA x5, vA x4, vA x6] S (oI (fun r3 S3 => S3.K x5 = 2 ∧ Mw hX2_setAt yX2_setAt d [vA x5, vI r3] S3 (oI (fun r4 S4 => S4.K x0 = 10 ∧ ∃ b5, S4.R x0 1 = some b5 ∧ (S4.K b5 = 8 ∧ Mw hX8_at yX8_at d [vA b5, vI x7] S4 (oI (fun r6 S6 => (R32 r4 ∧ R32 ((-1) : Int)) ∧ ((r4 = ((-1) : Int)) → VX10_tree_110 d Q S6) ∧ (¬ (r4 = ((-1) : Int)) → S6.K x0 = 10 ∧ ∃ b7, S6.R x0 2 = some b7 ∧ (S6.K b7 = 7 ∧ Mw hX7_isThing yX7_isThing d [vA b7, vI (r6 - 48)] S6 (oI (fun r8 S8 => R32 r8 ∧ ((r8 = 0) → VX10_tree_110 d Q S8) ∧ (¬ (r8 = 0) → Mw hX10_holds yX10_holds d [vI r4, vI (r6 - 48)] S8 (oI (fun r9 S9 => R32 r9 ∧ (¬ (r9 = 0) → S9.K x5 = 2 ∧ Mw hX2_rising yX2_rising d [vA x5, vI r4, vI (r6 - 48)] S9 (oA (fun r10 S10 => S10.K x6 = 5 ∧ Mw hX5_narrow yX5_narrow d [vA x6, vA r10] S10 (oV (fun S11 => (VX10_tree_46 d Q n) x0 x2 x3 x4 x5 x6 (x7 + 1) S11))))) ∧ ((r9 = 0) → VX10_tree_110 d Q S9))))))))))))))))
theorem JX10_tree_46 {d : Nat} {S0 : MS} {Q : Out → MS → Prop} : ∀ (n : Nat) (x0 : Nat) (x2 : Int) (x3 : Int) (x4 : Nat) (x5 : Nat) (x6 : Nat) (x7 : Int) (S : MS), VX10_tree_46 d Q n x0 x2 x3 x4 x5 x6 x7 S → Jw FinM RX10 cX10_tree 10 (some .int) [] yX10_tree (d + 1) S0 S 46 [(0, vA x0), (2, vI x2), (3, vI x3), (4, vA x4), (5, vA x5), (6, vA x6), (7, vI x7)] [] Q := by
  intro n
  induction n with
  | zero => intro x0 x2 x3 x4 x5 x6 x7 S h; exact h.elim
  | succ n ih =>
    intro x0 x2 x3 x4 x5 x6 x7 S h
    exact j_iload 6 dX10_tree_46 rfl (j_iload_n 2 dX10_tree_48 rfl (j_icmp_ge (tgt := 141) dX10_tree_49 (by decide) h (fun h => j_iload_n 1 dX10_tree_141 rfl (j_if_eq (tgt := 162) dX10_tree_142 (by decide) h (fun h => j_aload 5 dX10_tree_162 rfl (j_getI 5 0 f_RX10_218 dX10_tree_164 h (fun h => j_iret rfl dX10_tree_167 h))) (fun h => j_aload 4 dX10_tree_145 rfl (j_aload 4 dX10_tree_147 rfl (j_aload 3 dX10_tree_149 rfl (j_aload 5 dX10_tree_151 rfl (j_callV (rest := [vA x5]) 2 [vA x4, vA x6] k_RX10_411 ⟨w_3_182, w_3_183⟩ ⟨_, _, rfl⟩ (by decide) rfl rfl (Nat.le_of_ble_eq_true rfl) dX10_tree_153 h (kI (fun r1 S1 h => j_callV (rest := []) 2 [vI r1] k_RX10_330 ⟨w_6_48, w_6_49⟩ ⟨_, _, rfl⟩ (by decide) rfl rfl (Nat.le_of_ble_eq_true rfl) dX10_tree_156 h (kI (fun r2 S2 h => j_goto (tgt := 167) dX10_tree_159 (by decide) (j_iret rfl dX10_tree_167 h))) (fun _ _ h => h.elim))) (fun _ _ h => h.elim)))))))) (fun h => j_aload 4 dX10_tree_52 rfl (j_aload 4 dX10_tree_54 rfl (j_aload 3 dX10_tree_56 rfl (j_aload 5 dX10_tree_58 rfl (j_callV (rest := [vA x5]) 2 [vA x4, vA x6] k_RX10_411 ⟨w_3_182, w_3_183⟩ ⟨_, _, rfl⟩ (by decide) rfl rfl (Nat.le_of_ble_eq_true rfl) dX10_tree_60 h (kI (fun r3 S3 h => j_callV (rest := []) 2 [vI r3] k_RX10_330 ⟨w_6_48, w_6_49⟩ ⟨_, _, rfl⟩ (by decide) rfl rfl (Nat.le_of_ble_eq_true rfl) dX10_tree_63 h (kI (fun r4 S4 h => j_istore (lv2 := [(8, vI r4), (0, vA x0), (2, vI x2), (3, vI x3), (4, vA x4), (5, vA x5), (6, vA x6), (7, vI x7)]) dX10_tree_66 (by decide) rfl (j_aload_n 1 dX10_tree_68 rfl (j_getR 10 1 f_RX10_20 dX10_tree_69 h (fun b5 h => j_iload 7 dX10_tree_72 rfl (j_callV (rest := []) 8 [vI x7] k_RX10_415 ⟨w_4_48, w_4_49⟩ ⟨_, _, rfl⟩ (by decide) rfl rfl (Nat.le_of_ble_eq_true rfl) dX10_tree_74 h (kI (fun r6 S6 h => j_bipush dX10_tree_77 rfl (j_isub dX10_tree_79 (j_istore (lv2 := [(9, vI (r6 - 48)), (8, vI r4), (0, vA x0), (2, vI x2), (3, vI x3), (4, vA x4), (5, vA x5), (6, vA x6), (7, vI x7)]) dX10_tree_80 (by decide) rfl (j_iload 1 dX10_tree_82 rfl (j_iconst dX10_tree_84 (j_icmp_eq (tgt := 110) dX10_tree_85 (by decide) h (fun h => j_sub [] rfl (JX10_tree_110 _ h)) (fun h => j_aload_n 2 dX10_tree_88 rfl (j_getR 10 2 f_RX10_24 dX10_tree_89 h (fun b7 h => j_iload 0 dX10_tree_92 rfl (j_callV (rest := []) 7 [vI (r6 - 48)] k_RX10_180 ⟨w_5_70, w_5_71⟩ ⟨_, _, rfl⟩ (by decide) rfl rfl (Nat.le_of_ble_eq_true rfl) dX10_tree_94 h (kI (fun r8 S8 h => j_if_eq (tgt := 110) dX10_tree_97 (by decide) h (fun h => j_sub [] rfl (JX10_tree_110 _ h)) (fun h => j_iload 1 dX10_tree_100 rfl (j_iload 0 dX10_tree_102 rfl (j_callS (rest := []) [vI r4, vI (r6 - 48)] k_RX10_184 w_2_192 rfl rfl (Nat.le_of_ble_eq_true rfl) dX10_tree_104 h (kI (fun r9 S9 h => j_if_ne (tgt := 121) dX10_tree_107 (by decide) h (fun h => j_aload 7 dX10_tree_121 rfl (j_aload 6 dX10_tree_123 rfl (j_iload 1 dX10_tree_125 rfl (j_iload 0 dX10_tree_127 rfl (j_callV (rest := [vA x6]) 2 [vI r4, vI (r6 - 48)] k_RX10_419 ⟨w_2_225, w_2_226⟩ ⟨_, _, rfl⟩ (by decide) rfl rfl (Nat.le_of_ble_eq_true rfl) dX10_tree_129 h (kA (fun r10 S10 h => j_callV (rest := []) 5 [vA r10] k_RX10_422 ⟨w_3_110, w_3_111⟩ ⟨_, _, rfl⟩ (by decide) rfl rfl (Nat.le_of_ble_eq_true rfl) dX10_tree_132 h (kV (fun S11 h => j_iinc 8 (lv2 := [(7, vI (x7 + 1)), (9, vI (r6 - 48)), (8, vI r4), (0, vA x0), (2, vI x2), (3, vI x3), (4, vA x4), (5, vA x5), (6, vA x6)]) dX10_tree_135 rfl (by decide) rfl (j_goto (tgt := 46) dX10_tree_138 (by decide) (j_sub [3, 4, 5, 6, 7, 8, 0] rfl (ih _ _ _ _ _ _ _ _ h))))) (fun _ _ h => h.elim))) (fun _ _ h => h.elim)))))) (fun h => j_sub [] rfl (JX10_tree_110 _ h)))) (fun _ _ h => h.elim)))))) (fun _ _ h => h.elim)))))))))))) (fun _ _ h => h.elim))))))) (fun _ _ h => h.elim))) (fun _ _ h => h.elim))))))))
def VX10_tree_0 (d : Nat) (Q : Out → MS → Prop) (x0 : Nat) (x1 : Int) (x2 : Int) (S : MS) : Prop :=
  S.K x0 = 10 ∧ ∃ b1, S.R x0 1 = some b1 ∧ (S.K b1 = 8 ∧ Mw hX8_useUp yX8_useUp d [vA b1] S (oI (fun r2 S2 => S2.K x0 = 10 ∧ Mw hX10_needScale yX10_needScale d [vA x0, vI x1] S2 (xV (fun S3 => S3.K x0 = 10 ∧ Mw hX10_allRows yX10_allRows d [vA x0] S3 (oA (fun r4 S4 => S4.K x0 = 10 ∧ Mw hX10_layingsOf yX10_layingsOf d [vA x0, vI x1] S4 (oA (fun r5 S5 => S5.K x0 = 10 ∧ ∃ b6, S5.R x0 7 = some b6 ∧ ((S5.K b6 = 19 ∧ (17 ≤ 19 ∧ 19 < 21) ∧ 0 ≤ (0 : Int) ∧ (0 : Int) < S5.N b6) ∧ ∃ b7, S5.R b6 ((0 : Int)).toNat = some b7 ∧ (S5.K x0 = 10 ∧ Mw hX10_rowsLeft yX10_rowsLeft d [vA x0] S5 (oA (fun r8 S8 => S8.K b7 = 5 ∧ Mw hX5_copy yX5_copy d [vA b7, vA r8] S8 (oV (fun S9 => ∃ m, VX10_tree_46 d Q m x0 x2 r2 r4 r5 b7 0 S9))))))))))) (fun E S9 => Q (.inr E) S9)))))
theorem JX10_tree_0 {d : Nat} {S0 : MS} {Q : Out → MS → Prop} (x0 : Nat) (x1 : Int) (x2 : Int) (S : MS) (h : VX10_tree_0 d Q x0 x1 x2 S) : Jw FinM RX10 cX10_tree 10 (some .int) [] yX10_tree (d + 1) S0 S 0 [(0, vA x0), (1, vI x1), (2, vI x2)] [] Q :=
  j_aload_n 0 dX10_tree_0 rfl (j_getR 10 1 f_RX10_20 dX10_tree_1 h (fun b1 h => j_callV (rest := []) 8 [] k_RX10_107 ⟨w_4_36, w_4_37⟩ ⟨_, _, rfl⟩ (by decide) rfl rfl (Nat.le_of_ble_eq_true rfl) dX10_tree_4 h (kI (fun r2 S2 h => j_istore_n (lv2 := [(3, vI r2), (0, vA x0), (1, vI x1), (2, vI x2)]) dX10_tree_7 (by decide) rfl (j_aload_n 1 dX10_tree_8 rfl (j_iload_n 2 dX10_tree_9 rfl (j_callV (rest := []) 10 [vI x1] k_RX10_166 ⟨w_5_99, p_2_13⟩ ⟨_, _, rfl⟩ (by decide) rfl rfl (Nat.le_of_ble_eq_true rfl) dX10_tree_10 h (kV (fun S3 h => j_aload_n 1 dX10_tree_13 rfl (j_callV (rest := []) 10 [] k_RX10_229 ⟨w_2_61, p_1_1⟩ ⟨_, _, rfl⟩ (by decide) rfl rfl (Nat.le_of_ble_eq_true rfl) dX10_tree_14 h (kA (fun r4 S4 h => j_astore (lv2 := [(4, vA r4), (3, vI r2), (0, vA x0), (1, vI x1), (2, vI x2)]) dX10_tree_17 (by decide) rfl (j_aload_n 2 dX10_tree_19 rfl (j_iload_n 3 dX10_tree_20 rfl (j_callV (rest := []) 10 [vI x1] k_RX10_307 ⟨w_6_35, p_3_5⟩ ⟨_, _, rfl⟩ (by decide) rfl rfl (Nat.le_of_ble_eq_true rfl) dX10_tree_21 h (kA (fun r5 S5 h => j_astore (lv2 := [(5, vA r5), (4, vA r4), (3, vI r2), (0, vA x0), (1, vI x1), (2, vI x2)]) dX10_tree_24 (by decide) rfl (j_aload_n 3 dX10_tree_26 rfl (j_getR 10 7 f_RX10_51 dX10_tree_27 h (fun b6 h => j_iconst dX10_tree_30 (j_aald 19 dX10_tree_31 h (fun b7 h => j_astore (lv2 := [(6, vA b7), (5, vA r5), (4, vA r4), (3, vI r2), (0, vA x0), (1, vI x1), (2, vI x2)]) dX10_tree_32 (by decide) rfl (j_aload 0 dX10_tree_34 rfl (j_aload_n 4 dX10_tree_36 rfl (j_callV (rest := [vA b7]) 10 [] k_RX10_214 ⟨w_2_57, p_1_0⟩ ⟨_, _, rfl⟩ (by decide) rfl rfl (Nat.le_of_ble_eq_true rfl) dX10_tree_37 h (kA (fun r8 S8 h => j_callV (rest := []) 5 [vA r8] k_RX10_379 ⟨w_3_164, w_3_165⟩ ⟨_, _, rfl⟩ (by decide) rfl rfl (Nat.le_of_ble_eq_true rfl) dX10_tree_40 h (kV (fun S9 h => j_iconst dX10_tree_43 (j_istore (lv2 := [(7, vI 0), (6, vA b7), (5, vA r5), (4, vA r4), (3, vI r2), (0, vA x0), (1, vI x1), (2, vI x2)]) dX10_tree_44 (by decide) rfl (Exists.elim h (fun m h => j_sub [5, 7, 4, 3, 2, 1, 0] rfl (JX10_tree_46 m _ _ _ _ _ _ _ _ h)))))) (fun _ _ h => h.elim))) (fun _ _ h => h.elim))))))))))) (fun _ _ h => h.elim)))))) (fun _ _ h => h.elim)))) (fun _ _ h => jx_out h)))))) (fun _ _ h => h.elim)))
theorem MX10_tree {d : Nat} {x0 : Nat} {x1 : Int} {x2 : Int} {S : MS} {Q : Out → MS → Prop} (h : VX10_tree_0 d Q x0 x1 x2 S) : Mw hX10_tree yX10_tree (d + 1) [vA x0, vI x1, vI x2] S Q := Mw.ofJ (by decide) (Nat.le_of_ble_eq_true rfl) (JX10_tree_0 _ _ _ S h)
theorem dX10_needless_0 : decode cX10_needless 0 = .ok (.aload_n 0, 1) := by decide +kernel
theorem dX10_needless_1 : decode cX10_needless 1 = .ok (.invokevirtual 214, 3) := by decide +kernel
theorem dX10_needless_4 : decode cX10_needless 4 = .ok (.getfield 218, 3) := by decide +kernel
theorem dX10_needless_7 : decode cX10_needless 7 = .ok (.istore_n 1, 1) := by decide +kernel
theorem dX10_needless_8 : decode cX10_needless 8 = .ok (.iconst 0, 1) := by decide +kernel
theorem dX10_needless_9 : decode cX10_needless 9 = .ok (.istore_n 2, 1) := by decide +kernel
theorem dX10_needless_10 : decode cX10_needless 10 = .ok (.iconst 0, 1) := by decide +kernel
theorem dX10_needless_11 : decode cX10_needless 11 = .ok (.istore_n 3, 1) := by decide +kernel
theorem dX10_needless_12 : decode cX10_needless 12 = .ok (.iload_n 3, 1) := by decide +kernel
theorem dX10_needless_13 : decode cX10_needless 13 = .ok (.aload_n 0, 1) := by decide +kernel
theorem dX10_needless_14 : decode cX10_needless 14 = .ok (.getfield 24, 3) := by decide +kernel
theorem dX10_needless_17 : decode cX10_needless 17 = .ok (.getfield 132, 3) := by decide +kernel
theorem dX10_needless_20 : decode cX10_needless 20 = .ok (.if_icmp .ge 28, 3) := by decide +kernel
theorem dX10_needless_23 : decode cX10_needless 23 = .ok (.iload_n 2, 1) := by decide +kernel
theorem dX10_needless_24 : decode cX10_needless 24 = .ok (.aload_n 0, 1) := by decide +kernel
theorem dX10_needless_25 : decode cX10_needless 25 = .ok (.iload_n 3, 1) := by decide +kernel
theorem dX10_needless_26 : decode cX10_needless 26 = .ok (.invokevirtual 295, 3) := by decide +kernel
theorem dX10_needless_29 : decode cX10_needless 29 = .ok (.iload_n 1, 1) := by decide +kernel
theorem dX10_needless_30 : decode cX10_needless 30 = .ok (.if_icmp .ne 9, 3) := by decide +kernel
theorem dX10_needless_33 : decode cX10_needless 33 = .ok (.iconst 1, 1) := by decide +kernel
theorem dX10_needless_34 : decode cX10_needless 34 = .ok (.iload_n 3, 1) := by decide +kernel
theorem dX10_needless_35 : decode cX10_needless 35 = .ok (.ishl, 1) := by decide +kernel
theorem dX10_needless_36 : decode cX10_needless 36 = .ok (.goto 4, 3) := by decide +kernel
theorem dX10_needless_39 : decode cX10_needless 39 = .ok (.iconst 0, 1) := by decide +kernel
theorem dX10_needless_40 : decode cX10_needless 40 = .ok (.ior, 1) := by decide +kernel
theorem dX10_needless_41 : decode cX10_needless 41 = .ok (.istore_n 2, 1) := by decide +kernel
theorem dX10_needless_42 : decode cX10_needless 42 = .ok (.iinc 3 1, 3) := by decide +kernel
theorem dX10_needless_45 : decode cX10_needless 45 = .ok (.goto (-33), 3) := by decide +kernel
theorem dX10_needless_48 : decode cX10_needless 48 = .ok (.iload_n 2, 1) := by decide +kernel
theorem dX10_needless_49 : decode cX10_needless 49 = .ok (.ireturn, 1) := by decide +kernel
def VX10_needless_40 (d : Nat) (c12 : Nat → Int → Int → Int → MS → Prop) (Q : Out → MS → Prop) (x0 : Nat) (x1 : Int) (x3 : Int) (t0 : Int) (t1 : Int) (S : MS) : Prop :=
  c12 x0 x1 (iOr t1 t0) (x3 + 1) S
theorem JX10_needless_40 {d : Nat} {c12 : Nat → Int → Int → Int → MS → Prop} {S0 : MS} {Q : Out → MS → Prop} (hc12 : ∀ (x0 : Nat) (x1 : Int) (x2 : Int) (x3 : Int) (S : MS), c12 x0 x1 x2 x3 S → Jw FinM RX10 cX10_needless 4 (some .int) [] yX10_needless (d + 1) S0 S 12 [(0, vA x0), (1, vI x1), (2, vI x2), (3, vI x3)] [] Q) (x0 : Nat) (x1 : Int) (x3 : Int) (t0 : Int) (t1 : Int) (S : MS) (h : VX10_needless_40 d c12 Q x0 x1 x3 t0 t1 S) : Jw FinM RX10 cX10_needless 4 (some .int) [] yX10_needless (d + 1) S0 S 40 [(0, vA x0), (1, vI x1), (3, vI x3)] [vI t0, vI t1] Q :=
  j_ior dX10_needless_40 (j_istore_n (lv2 := [(2, vI (iOr t1 t0)), (0, vA x0), (1, vI x1), (3, vI x3)]) dX10_needless_41 (by decide) rfl (j_iinc 3 (lv2 := [(3, vI (x3 + 1)), (2, vI (iOr t1 t0)), (0, vA x0), (1, vI x1)]) dX10_needless_42 rfl (by decide) rfl (j_goto (tgt := 12) dX10_needless_45 (by decide) (j_sub [2, 3, 1, 0] rfl (hc12 _ _ _ _ _ h)))))
def VX10_needless_12 (d : Nat) (Q : Out → MS → Prop) : Nat → Nat → Int → Int → Int → MS → Prop
  | 0, _, _, _, _, _ => False
  | n + 1, x0, x1, x2, x3, S => S.K x0 = 10 ∧ ∃ b1, S.R x0 2 = some b1 ∧ (S.K b1 = 7 ∧ ((R32 x3 ∧ R32 (S.I b1 9)) ∧ (((S.I b1 9) ≤ x3) → Q (.inl (some (vI x2))) S) ∧ (¬ ((S.I b1 9) ≤ x3) → S.K x0 = 10 ∧ Mw hX10_sizeWithout yX10_sizeWithout d [vA x0, vI x3] S (oI (fun r2 S2 => (R32 r2 ∧ R32 x1) ∧ (¬ (r2 = x1) → VX10_needless_40 d (VX10_needless_12 d Q n) Q x0 x1 x3 0 x2 S2) ∧ ((r2 = x1) → VX10_needless_40 d (VX10_needless_12 d Q n) Q x0 x1 x3 (iShl 1 x3) x2 S2))))))
theorem JX10_needless_12 {d : Nat} {S0 : MS} {Q : Out → MS → Prop} : ∀ (n : Nat) (x0 : Nat) (x1 : Int) (x2 : Int) (x3 : Int) (S : MS), VX10_needless_12 d Q n x0 x1 x2 x3 S → Jw FinM RX10 cX10_needless 4 (some .int) [] yX10_needless (d + 1) S0 S 12 [(0, vA x0), (1, vI x1), (2, vI x2), (3, vI x3)] [] Q := by
  intro n
  induction n with
  | zero => intro x0 x1 x2 x3 S h; exact h.elim
  | succ n ih =>
    intro x0 x1 x2 x3 S h
    exact j_iload_n 3 dX10_needless_12 rfl (j_aload_n 0 dX10_needless_13 rfl (j_getR 10 2 f_RX10_24 dX10_needless_14 h (fun b1 h => j_getI 7 9 f_RX10_132 dX10_needless_17 h (fun h => j_icmp_ge (tgt := 48) dX10_needless_20 (by decide) h (fun h => j_iload_n 2 dX10_needless_48 rfl (j_iret rfl dX10_needless_49 h)) (fun h => j_iload_n 2 dX10_needless_23 rfl (j_aload_n 0 dX10_needless_24 rfl (j_iload_n 3 dX10_needless_25 rfl (j_callV (rest := [vI x2]) 10 [vI x3] k_RX10_295 ⟨w_3_128, p_1_10⟩ ⟨_, _, rfl⟩ (by decide) rfl rfl (Nat.le_of_ble_eq_true rfl) dX10_needless_26 h (kI (fun r2 S2 h => j_iload_n 1 dX10_needless_29 rfl (j_icmp_ne (tgt := 39) dX10_needless_30 (by decide) h (fun h => j_iconst dX10_needless_39 (j_sub [0, 1, 3] rfl (JX10_needless_40 ih _ _ _ _ _ _ h))) (fun h => j_iconst dX10_needless_33 (j_iload_n 3 dX10_needless_34 rfl (j_ishl dX10_needless_35 (j_goto (tgt := 40) dX10_needless_36 (by decide) (j_sub [0, 1, 3] rfl (JX10_needless_40 ih _ _ _ _ _ _ h))))))))) (fun _ _ h => h.elim)))))))))
def VX10_needless_0 (d : Nat) (Q : Out → MS → Prop) (x0 : Nat) (S : MS) : Prop :=
  S.K x0 = 10 ∧ Mw hX10_rowsLeft yX10_rowsLeft d [vA x0] S (oA (fun r1 S1 => S1.K r1 = 5 ∧ (∃ m, VX10_needless_12 d Q m x0 (S1.I r1 0) 0 0 S1)))
theorem JX10_needless_0 {d : Nat} {S0 : MS} {Q : Out → MS → Prop} (x0 : Nat) (S : MS) (h : VX10_needless_0 d Q x0 S) : Jw FinM RX10 cX10_needless 4 (some .int) [] yX10_needless (d + 1) S0 S 0 [(0, vA x0)] [] Q :=
  j_aload_n 0 dX10_needless_0 rfl (j_callV (rest := []) 10 [] k_RX10_214 ⟨w_2_57, p_1_0⟩ ⟨_, _, rfl⟩ (by decide) rfl rfl (Nat.le_of_ble_eq_true rfl) dX10_needless_1 h (kA (fun r1 S1 h => j_getI 5 0 f_RX10_218 dX10_needless_4 h (fun h => j_istore_n (lv2 := [(1, vI (S1.I r1 0)), (0, vA x0)]) dX10_needless_7 (by decide) rfl (j_iconst dX10_needless_8 (j_istore_n (lv2 := [(2, vI 0), (1, vI (S1.I r1 0)), (0, vA x0)]) dX10_needless_9 (by decide) rfl (j_iconst dX10_needless_10 (j_istore_n (lv2 := [(3, vI 0), (2, vI 0), (1, vI (S1.I r1 0)), (0, vA x0)]) dX10_needless_11 (by decide) rfl (Exists.elim h (fun m h => j_sub [3, 2, 1, 0] rfl (JX10_needless_12 m _ _ _ _ _ h)))))))))) (fun _ _ h => h.elim))
theorem MX10_needless {d : Nat} {x0 : Nat} {S : MS} {Q : Out → MS → Prop} (h : VX10_needless_0 d Q x0 S) : Mw hX10_needless yX10_needless (d + 1) [vA x0] S Q := Mw.ofJ (by decide) (Nat.le_of_ble_eq_true rfl) (JX10_needless_0 _ S h)
theorem dX10_stands_0 : decode cX10_stands 0 = .ok (.aload_n 0, 1) := by decide +kernel
theorem dX10_stands_1 : decode cX10_stands 1 = .ok (.iload_n 1, 1) := by decide +kernel
theorem dX10_stands_2 : decode cX10_stands 2 = .ok (.invokevirtual 158, 3) := by decide +kernel
theorem dX10_stands_5 : decode cX10_stands 5 = .ok (.aload_n 0, 1) := by decide +kernel
theorem dX10_stands_6 : decode cX10_stands 6 = .ok (.invokevirtual 214, 3) := by decide +kernel
theorem dX10_stands_9 : decode cX10_stands 9 = .ok (.getfield 218, 3) := by decide +kernel
theorem dX10_stands_12 : decode cX10_stands 12 = .ok (.istore_n 3, 1) := by decide +kernel
theorem dX10_stands_13 : decode cX10_stands 13 = .ok (.iload_n 3, 1) := by decide +kernel
theorem dX10_stands_14 : decode cX10_stands 14 = .ok (.ifCond .ne 5, 3) := by decide +kernel
theorem dX10_stands_17 : decode cX10_stands 17 = .ok (.iconst (-1), 1) := by decide +kernel
theorem dX10_stands_18 : decode cX10_stands 18 = .ok (.ireturn, 1) := by decide +kernel
theorem dX10_stands_19 : decode cX10_stands 19 = .ok (.iconst 0, 1) := by decide +kernel
theorem dX10_stands_20 : decode cX10_stands 20 = .ok (.istore 4, 2) := by decide +kernel
theorem dX10_stands_22 : decode cX10_stands 22 = .ok (.iconst 0, 1) := by decide +kernel
theorem dX10_stands_23 : decode cX10_stands 23 = .ok (.istore 5, 2) := by decide +kernel
theorem dX10_stands_25 : decode cX10_stands 25 = .ok (.iload 5, 2) := by decide +kernel
theorem dX10_stands_27 : decode cX10_stands 27 = .ok (.aload_n 0, 1) := by decide +kernel
theorem dX10_stands_28 : decode cX10_stands 28 = .ok (.getfield 24, 3) := by decide +kernel
theorem dX10_stands_31 : decode cX10_stands 31 = .ok (.getfield 261, 3) := by decide +kernel
theorem dX10_stands_34 : decode cX10_stands 34 = .ok (.if_icmp .ge 34, 3) := by decide +kernel
theorem dX10_stands_37 : decode cX10_stands 37 = .ok (.iload 4, 2) := by decide +kernel
theorem dX10_stands_39 : decode cX10_stands 39 = .ok (.iload 5, 2) := by decide +kernel
theorem dX10_stands_41 : decode cX10_stands 41 = .ok (.aload_n 0, 1) := by decide +kernel
theorem dX10_stands_42 : decode cX10_stands 42 = .ok (.invokevirtual 214, 3) := by decide +kernel
theorem dX10_stands_45 : decode cX10_stands 45 = .ok (.aload_n 0, 1) := by decide +kernel
theorem dX10_stands_46 : decode cX10_stands 46 = .ok (.invokevirtual 229, 3) := by decide +kernel
theorem dX10_stands_49 : decode cX10_stands 49 = .ok (.iload_n 1, 1) := by decide +kernel
theorem dX10_stands_50 : decode cX10_stands 50 = .ok (.iload 5, 2) := by decide +kernel
theorem dX10_stands_52 : decode cX10_stands 52 = .ok (.invokevirtual 271, 3) := by decide +kernel
theorem dX10_stands_55 : decode cX10_stands 55 = .ok (.invokevirtual 426, 3) := by decide +kernel
theorem dX10_stands_58 : decode cX10_stands 58 = .ok (.imul, 1) := by decide +kernel
theorem dX10_stands_59 : decode cX10_stands 59 = .ok (.iadd, 1) := by decide +kernel
theorem dX10_stands_60 : decode cX10_stands 60 = .ok (.istore 4, 2) := by decide +kernel
theorem dX10_stands_62 : decode cX10_stands 62 = .ok (.iinc 5 1, 3) := by decide +kernel
theorem dX10_stands_65 : decode cX10_stands 65 = .ok (.goto (-40), 3) := by decide +kernel
theorem dX10_stands_68 : decode cX10_stands 68 = .ok (.iload 4, 2) := by decide +kernel
theorem dX10_stands_70 : decode cX10_stands 70 = .ok (.iload_n 3, 1) := by decide +kernel
theorem dX10_stands_71 : decode cX10_stands 71 = .ok (.invokestatic 430, 3) := by decide +kernel
theorem dX10_stands_74 : decode cX10_stands 74 = .ok (.istore 5, 2) := by decide +kernel
theorem dX10_stands_76 : decode cX10_stands 76 = .ok (.iload_n 2, 1) := by decide +kernel
theorem dX10_stands_77 : decode cX10_stands 77 = .ok (.ifCond .eq 7, 3) := by decide +kernel
theorem dX10_stands_80 : decode cX10_stands 80 = .ok (.iload_n 3, 1) := by decide +kernel
theorem dX10_stands_81 : decode cX10_stands 81 = .ok (.goto 5, 3) := by decide +kernel
theorem dX10_stands_84 : decode cX10_stands 84 = .ok (.iload 4, 2) := by decide +kernel
theorem dX10_stands_86 : decode cX10_stands 86 = .ok (.iload 5, 2) := by decide +kernel
theorem dX10_stands_88 : decode cX10_stands 88 = .ok (.ifCond .le 8, 3) := by decide +kernel
theorem dX10_stands_91 : decode cX10_stands 91 = .ok (.iload 5, 2) := by decide +kernel
theorem dX10_stands_93 : decode cX10_stands 93 = .ok (.goto 4, 3) := by decide +kernel
theorem dX10_stands_96 : decode cX10_stands 96 = .ok (.iconst 1, 1) := by decide +kernel
theorem dX10_stands_97 : decode cX10_stands 97 = .ok (.idiv, 1) := by decide +kernel
theorem dX10_stands_98 : decode cX10_stands 98 = .ok (.ireturn, 1) := by decide +kernel
def VX10_stands_97 (d : Nat) (Q : Out → MS → Prop) (t0 : Int) (t1 : Int) (S : MS) : Prop :=
  (R32 t0 ∧ t0 ≠ 0) ∧ (Q (.inl (some (vI (iDiv t1 t0)))) S)
theorem JX10_stands_97 {d : Nat} {S0 : MS} {Q : Out → MS → Prop} (t0 : Int) (t1 : Int) (S : MS) (h : VX10_stands_97 d Q t0 t1 S) : Jw FinM RX10 cX10_stands 6 (some .int) [] yX10_stands (d + 1) S0 S 97 [] [vI t0, vI t1] Q :=
  j_idiv dX10_stands_97 h (fun h => j_iret rfl dX10_stands_98 h)
def VX10_stands_86 (d : Nat) (Q : Out → MS → Prop) (x5 : Int) (t0 : Int) (S : MS) : Prop :=
  R32 x5 ∧ ((x5 ≤ 0) → VX10_stands_97 d Q 1 t0 S) ∧ (¬ (x5 ≤ 0) → VX10_stands_97 d Q x5 t0 S)
theorem JX10_stands_86 {d : Nat} {S0 : MS} {Q : Out → MS → Prop} (x5 : Int) (t0 : Int) (S : MS) (h : VX10_stands_86 d Q x5 t0 S) : Jw FinM RX10 cX10_stands 6 (some .int) [] yX10_stands (d + 1) S0 S 86 [(5, vI x5)] [vI t0] Q :=
  j_iload 0 dX10_stands_86 rfl (j_if_le (tgt := 96) dX10_stands_88 (by decide) h (fun h => j_iconst dX10_stands_96 (j_sub [] rfl (JX10_stands_97 _ _ _ h))) (fun h => j_iload 0 dX10_stands_91 rfl (j_goto (tgt := 97) dX10_stands_93 (by decide) (j_sub [] rfl (JX10_stands_97 _ _ _ h)))))
def VX10_stands_25 (d : Nat) (Q : Out → MS → Prop) : Nat → Nat → Int → Int → Int → Int → Int → MS → Prop
  | 0, _, _, _, _, _, _, _ => False
  | n + 1, x0, x1, x2, x3, x4, x5, S => S.K x0 = 10 ∧ ∃ b1, S.R x0 2 = some b1 ∧ (S.K b1 = 7 ∧ ((R32 x5 ∧ R32 (S.I b1 7)) ∧ (((S.I b1 7) ≤ x5) → Mw hX10_commonPart yX10_commonPart d [vI x4, vI x3] S (oI (fun r2 S2 => R32 x2 ∧ ((x2 = 0) → VX10_stands_86 d Q r2 x4 S2) ∧ (¬ (x2 = 0) → VX10_stands_86 d Q r2 x3 S2)))) ∧ (¬ ((S.I b1 7) ≤ x5) → S.K x0 = 10 ∧ Mw hX10_rowsLeft yX10_rowsLeft d [vA x0] S (oA (fun r3 S3 => S3.K x0 = 10 ∧ Mw hX10_allRows yX10_allRows d [vA x0] S3 (oA (fun r4 S4 => S4.K r4 = 0 ∧ Mw hX0_standing yX0_standing d [vA r4, vI x1, vI x5] S4 (oA (fun r5 S5 => S5.K r3 = 5 ∧ Mw hX5_shared yX5_shared d [vA r3, vA r5] S5 (oI (fun r6 S6 => (VX10_stands_25 d Q n) x0 x1 x2 x3 (x4 + (x5 * r6)) (x5 + 1) S6)))))))))))
theorem JX10_stands_25 {d : Nat} {S0 : MS} {Q : Out → MS → Prop} : ∀ (n : Nat) (x0 : Nat) (x1 : Int) (x2 : Int) (x3 : Int) (x4 : Int) (x5 : Int) (S : MS), VX10_stands_25 d Q n x0 x1 x2 x3 x4 x5 S → Jw FinM RX10 cX10_stands 6 (some .int) [] yX10_stands (d + 1) S0 S 25 [(0, vA x0), (1, vI x1), (2, vI x2), (3, vI x3), (4, vI x4), (5, vI x5)] [] Q := by
  intro n
  induction n with
  | zero => intro x0 x1 x2 x3 x4 x5 S h; exact h.elim
  | succ n ih =>
    intro x0 x1 x2 x3 x4 x5 S h
    exact j_iload 5 dX10_stands_25 rfl (j_aload_n 0 dX10_stands_27 rfl (j_getR 10 2 f_RX10_24 dX10_stands_28 h (fun b1 h => j_getI 7 7 f_RX10_261 dX10_stands_31 h (fun h => j_icmp_ge (tgt := 68) dX10_stands_34 (by decide) h (fun h => j_iload 4 dX10_stands_68 rfl (j_iload_n 3 dX10_stands_70 rfl (j_callS (rest := []) [vI x4, vI x3] k_RX10_430 w_6_200 rfl rfl (Nat.le_of_ble_eq_true rfl) dX10_stands_71 h (kI (fun r2 S2 h => j_istore (lv2 := [(5, vI r2), (0, vA x0), (1, vI x1), (2, vI x2), (3, vI x3), (4, vI x4)]) dX10_stands_74 (by decide) rfl (j_iload_n 3 dX10_stands_76 rfl (j_if_eq (tgt := 84) dX10_stands_77 (by decide) h (fun h => j_iload 5 dX10_stands_84 rfl (j_sub [0] rfl (JX10_stands_86 _ _ _ h))) (fun h => j_iload_n 4 dX10_stands_80 rfl (j_goto (tgt := 86) dX10_stands_81 (by decide) (j_sub [0] rfl (JX10_stands_86 _ _ _ h)))))))) (fun _ _ h => h.elim)))) (fun h => j_iload 4 dX10_stands_37 rfl (j_iload 5 dX10_stands_39 rfl (j_aload_n 0 dX10_stands_41 rfl (j_callV (rest := [vI x5, vI x4]) 10 [] k_RX10_214 ⟨w_2_57, p_1_0⟩ ⟨_, _, rfl⟩ (by decide) rfl rfl (Nat.le_of_ble_eq_true rfl) dX10_stands_42 h (kA (fun r3 S3 h => j_aload_n 0 dX10_stands_45 rfl (j_callV (rest := [vA r3, vI x5, vI x4]) 10 [] k_RX10_229 ⟨w_2_61, p_1_1⟩ ⟨_, _, rfl⟩ (by decide) rfl rfl (Nat.le_of_ble_eq_true rfl) dX10_stands_46 h (kA (fun r4 S4 h => j_iload_n 1 dX10_stands_49 rfl (j_iload 5 dX10_stands_50 rfl (j_callV (rest := [vA r3, vI x5, vI x4]) 0 [vI x1, vI x5] k_RX10_271 ⟨w_3_29, w_3_30⟩ ⟨_, _, rfl⟩ (by decide) rfl rfl (Nat.le_of_ble_eq_true rfl) dX10_stands_52 h (kA (fun r5 S5 h => j_callV (rest := [vI x5, vI x4]) 5 [vA r5] k_RX10_426 ⟨w_3_46, w_3_47⟩ ⟨_, _, rfl⟩ (by decide) rfl rfl (Nat.le_of_ble_eq_true rfl) dX10_stands_55 h (kI (fun r6 S6 h => j_imul dX10_stands_58 (j_iadd dX10_stands_59 (j_istore (lv2 := [(4, vI (x4 + (x5 * r6))), (0, vA x0), (1, vI x1), (2, vI x2), (3, vI x3), (5, vI x5)]) dX10_stands_60 (by decide) rfl (j_iinc 5 (lv2 := [(5, vI (x5 + 1)), (4, vI (x4 + (x5 * r6))), (0, vA x0), (1, vI x1), (2, vI x2), (3, vI x3)]) dX10_stands_62 rfl (by decide) rfl (j_goto (tgt := 25) dX10_stands_65 (by decide) (j_sub [2, 3, 4, 5, 1, 0] rfl (ih _ _ _ _ _ _ _ h)))))))) (fun _ _ h => h.elim))) (fun _ _ h => h.elim))))) (fun _ _ h => h.elim)))) (fun _ _ h => h.elim)))))))))
def VX10_stands_0 (d : Nat) (Q : Out → MS → Prop) (x0 : Nat) (x1 : Int) (x2 : Int) (S : MS) : Prop :=
  S.K x0 = 10 ∧ Mw hX10_needThing yX10_needThing d [vA x0, vI x1] S (xV (fun S1 => S1.K x0 = 10 ∧ Mw hX10_rowsLeft yX10_rowsLeft d [vA x0] S1 (oA (fun r2 S2 => S2.K r2 = 5 ∧ (R32 (S2.I r2 0) ∧ (¬ ((S2.I r2 0) = 0) → ∃ m, VX10_stands_25 d Q m x0 x1 x2 (S2.I r2 0) 0 0 S2) ∧ (((S2.I r2 0) = 0) → Q (.inl (some (vI ((-1))))) S2))))) (fun E S9 => Q (.inr E) S9))
theorem JX10_stands_0 {d : Nat} {S0 : MS} {Q : Out → MS → Prop} (x0 : Nat) (x1 : Int) (x2 : Int) (S : MS) (h : VX10_stands_0 d Q x0 x1 x2 S) : Jw FinM RX10 cX10_stands 6 (some .int) [] yX10_stands (d + 1) S0 S 0 [(0, vA x0), (1, vI x1), (2, vI x2)] [] Q :=
  j_aload_n 0 dX10_stands_0 rfl (j_iload_n 1 dX10_stands_1 rfl (j_callV (rest := []) 10 [vI x1] k_RX10_158 ⟨w_5_67, p_2_12⟩ ⟨_, _, rfl⟩ (by decide) rfl rfl (Nat.le_of_ble_eq_true rfl) dX10_stands_2 h (kV (fun S1 h => j_aload_n 0 dX10_stands_5 rfl (j_callV (rest := []) 10 [] k_RX10_214 ⟨w_2_57, p_1_0⟩ ⟨_, _, rfl⟩ (by decide) rfl rfl (Nat.le_of_ble_eq_true rfl) dX10_stands_6 h (kA (fun r2 S2 h => j_getI 5 0 f_RX10_218 dX10_stands_9 h (fun h => j_istore_n (lv2 := [(3, vI (S2.I r2 0)), (0, vA x0), (1, vI x1), (2, vI x2)]) dX10_stands_12 (by decide) rfl (j_iload_n 0 dX10_stands_13 rfl (j_if_ne (tgt := 19) dX10_stands_14 (by decide) h (fun h => j_iconst dX10_stands_19 (j_istore (lv2 := [(4, vI 0), (3, vI (S2.I r2 0)), (0, vA x0), (1, vI x1), (2, vI x2)]) dX10_stands_20 (by decide) rfl (j_iconst dX10_stands_22 (j_istore (lv2 := [(5, vI 0), (4, vI 0), (3, vI (S2.I r2 0)), (0, vA x0), (1, vI x1), (2, vI x2)]) dX10_stands_23 (by decide) rfl (Exists.elim h (fun m h => j_sub [3, 4, 5, 2, 1, 0] rfl (JX10_stands_25 m _ _ _ _ _ _ _ h))))))) (fun h => j_iconst dX10_stands_17 (j_iret rfl dX10_stands_18 h))))))) (fun _ _ h => h.elim)))) (fun _ _ h => jx_out h)))
theorem MX10_stands {d : Nat} {x0 : Nat} {x1 : Int} {x2 : Int} {S : MS} {Q : Out → MS → Prop} (h : VX10_stands_0 d Q x0 x1 x2 S) : Mw hX10_stands yX10_stands (d + 1) [vA x0, vI x1, vI x2] S Q := Mw.ofJ (by decide) (Nat.le_of_ble_eq_true rfl) (JX10_stands_0 _ _ _ S h)
theorem dX10_laid_0 : decode cX10_laid 0 = .ok (.aload_n 0, 1) := by decide +kernel
theorem dX10_laid_1 : decode cX10_laid 1 = .ok (.iload_n 1, 1) := by decide +kernel
theorem dX10_laid_2 : decode cX10_laid 2 = .ok (.invokevirtual 158, 3) := by decide +kernel
theorem dX10_laid_5 : decode cX10_laid 5 = .ok (.iconst 0, 1) := by decide +kernel
theorem dX10_laid_6 : decode cX10_laid 6 = .ok (.istore_n 3, 1) := by decide +kernel
theorem dX10_laid_7 : decode cX10_laid 7 = .ok (.iconst 0, 1) := by decide +kernel
theorem dX10_laid_8 : decode cX10_laid 8 = .ok (.istore 4, 2) := by decide +kernel
theorem dX10_laid_10 : decode cX10_laid 10 = .ok (.iload 4, 2) := by decide +kernel
theorem dX10_laid_12 : decode cX10_laid 12 = .ok (.aload_n 0, 1) := by decide +kernel
theorem dX10_laid_13 : decode cX10_laid 13 = .ok (.getfield 24, 3) := by decide +kernel
theorem dX10_laid_16 : decode cX10_laid 16 = .ok (.getfield 132, 3) := by decide +kernel
theorem dX10_laid_19 : decode cX10_laid 19 = .ok (.if_icmp .ge 64, 3) := by decide +kernel
theorem dX10_laid_22 : decode cX10_laid 22 = .ok (.iload_n 2, 1) := by decide +kernel
theorem dX10_laid_23 : decode cX10_laid 23 = .ok (.ifCond .eq 25, 3) := by decide +kernel
theorem dX10_laid_26 : decode cX10_laid 26 = .ok (.aload_n 0, 1) := by decide +kernel
theorem dX10_laid_27 : decode cX10_laid 27 = .ok (.getfield 24, 3) := by decide +kernel
theorem dX10_laid_30 : decode cX10_laid 30 = .ok (.getfield 203, 3) := by decide +kernel
theorem dX10_laid_33 : decode cX10_laid 33 = .ok (.iload 4, 2) := by decide +kernel
theorem dX10_laid_35 : decode cX10_laid 35 = .ok (.iaload, 1) := by decide +kernel
theorem dX10_laid_36 : decode cX10_laid 36 = .ok (.iload_n 1, 1) := by decide +kernel
theorem dX10_laid_37 : decode cX10_laid 37 = .ok (.if_icmp .ne 7, 3) := by decide +kernel
theorem dX10_laid_40 : decode cX10_laid 40 = .ok (.iconst 1, 1) := by decide +kernel
theorem dX10_laid_41 : decode cX10_laid 41 = .ok (.goto 21, 3) := by decide +kernel
theorem dX10_laid_44 : decode cX10_laid 44 = .ok (.iconst 0, 1) := by decide +kernel
theorem dX10_laid_45 : decode cX10_laid 45 = .ok (.goto 17, 3) := by decide +kernel
theorem dX10_laid_48 : decode cX10_laid 48 = .ok (.aload_n 0, 1) := by decide +kernel
theorem dX10_laid_49 : decode cX10_laid 49 = .ok (.getfield 24, 3) := by decide +kernel
theorem dX10_laid_52 : decode cX10_laid 52 = .ok (.getfield 200, 3) := by decide +kernel
theorem dX10_laid_55 : decode cX10_laid 55 = .ok (.iload 4, 2) := by decide +kernel
theorem dX10_laid_57 : decode cX10_laid 57 = .ok (.iaload, 1) := by decide +kernel
theorem dX10_laid_58 : decode cX10_laid 58 = .ok (.iload_n 1, 1) := by decide +kernel
theorem dX10_laid_59 : decode cX10_laid 59 = .ok (.invokestatic 184, 3) := by decide +kernel
theorem dX10_laid_62 : decode cX10_laid 62 = .ok (.istore 5, 2) := by decide +kernel
theorem dX10_laid_64 : decode cX10_laid 64 = .ok (.iload_n 3, 1) := by decide +kernel
theorem dX10_laid_65 : decode cX10_laid 65 = .ok (.iload 5, 2) := by decide +kernel
theorem dX10_laid_67 : decode cX10_laid 67 = .ok (.ifCond .eq 7, 3) := by decide +kernel
theorem dX10_laid_70 : decode cX10_laid 70 = .ok (.iconst 1, 1) := by decide +kernel
theorem dX10_laid_71 : decode cX10_laid 71 = .ok (.goto 4, 3) := by decide +kernel
theorem dX10_laid_74 : decode cX10_laid 74 = .ok (.iconst 0, 1) := by decide +kernel
theorem dX10_laid_75 : decode cX10_laid 75 = .ok (.iadd, 1) := by decide +kernel
theorem dX10_laid_76 : decode cX10_laid 76 = .ok (.istore_n 3, 1) := by decide +kernel
theorem dX10_laid_77 : decode cX10_laid 77 = .ok (.iinc 4 1, 3) := by decide +kernel
theorem dX10_laid_80 : decode cX10_laid 80 = .ok (.goto (-70), 3) := by decide +kernel
theorem dX10_laid_83 : decode cX10_laid 83 = .ok (.iload_n 3, 1) := by decide +kernel
theorem dX10_laid_84 : decode cX10_laid 84 = .ok (.ireturn, 1) := by decide +kernel
def VX10_laid_75 (d : Nat) (c10 : Nat → Int → Int → Int → Int → MS → Prop) (Q : Out → MS → Prop) (x0 : Nat) (x1 : Int) (x2 : Int) (x4 : Int) (t0 : Int) (t1 : Int) (S : MS) : Prop :=
  c10 x0 x1 x2 (t1 + t0) (x4 + 1) S
theorem JX10_laid_75 {d : Nat} {c10 : Nat → Int → Int → Int → Int → MS → Prop} {S0 : MS} {Q : Out → MS → Prop} (hc10 : ∀ (x0 : Nat) (x1 : Int) (x2 : Int) (x3 : Int) (x4 : Int) (S : MS), c10 x0 x1 x2 x3 x4 S → Jw FinM RX10 cX10_laid 6 (some .int) [] yX10_laid (d + 1) S0 S 10 [(0, vA x0), (1, vI x1), (2, vI x2), (3, vI x3), (4, vI x4)] [] Q) (x0 : Nat) (x1 : Int) (x2 : Int) (x4 : Int) (t0 : Int) (t1 : Int) (S : MS) (h : VX10_laid_75 d c10 Q x0 x1 x2 x4 t0 t1 S) : Jw FinM RX10 cX10_laid 6 (some .int) [] yX10_laid (d + 1) S0 S 75 [(0, vA x0), (1, vI x1), (2, vI x2), (4, vI x4)] [vI t0, vI t1] Q :=
  j_iadd dX10_laid_75 (j_istore_n (lv2 := [(3, vI (t1 + t0)), (0, vA x0), (1, vI x1), (2, vI x2), (4, vI x4)]) dX10_laid_76 (by decide) rfl (j_iinc 4 (lv2 := [(4, vI (x4 + 1)), (3, vI (t1 + t0)), (0, vA x0), (1, vI x1), (2, vI x2)]) dX10_laid_77 rfl (by decide) rfl (j_goto (tgt := 10) dX10_laid_80 (by decide) (j_sub [2, 3, 4, 1, 0] rfl (hc10 _ _ _ _ _ _ h)))))
def VX10_laid_62 (d : Nat) (c10 : Nat → Int → Int → Int → Int → MS → Prop) (Q : Out → MS → Prop) (x0 : Nat) (x1 : Int) (x2 : Int) (x3 : Int) (x4 : Int) (t0 : Int) (S : MS) : Prop :=
  R32 t0 ∧ ((t0 = 0) → VX10_laid_75 d c10 Q x0 x1 x2 x4 0 x3 S) ∧ (¬ (t0 = 0) → VX10_laid_75 d c10 Q x0 x1 x2 x4 1 x3 S)
theorem JX10_laid_62 {d : Nat} {c10 : Nat → Int → Int → Int → Int → MS → Prop} {S0 : MS} {Q : Out → MS → Prop} (hc10 : ∀ (x0 : Nat) (x1 : Int) (x2 : Int) (x3 : Int) (x4 : Int) (S : MS), c10 x0 x1 x2 x3 x4 S → Jw FinM RX10 cX10_laid 6 (some .int) [] yX10_laid (d + 1) S0 S 10 [(0, vA x0), (1, vI x1), (2, vI x2), (3, vI x3), (4, vI x4)] [] Q) (x0 : Nat) (x1 : Int) (x2 : Int) (x3 : Int) (x4 : Int) (t0 : Int) (S : MS) (h : VX10_laid_62 d c10 Q x0 x1 x2 x3 x4 t0 S) : Jw FinM RX10 cX10_laid 6 (some .int) [] yX10_laid (d + 1) S0 S 62 [(0, vA x0), (1, vI x1), (2, vI x2), (3, vI x3), (4, vI x4)] [vI t0] Q :=
  j_istore (lv2 := [(5, vI t0), (0, vA x0), (1, vI x1), (2, vI x2), (3, vI x3), (4, vI x4)]) dX10_laid_62 (by decide) rfl (j_iload_n 4 dX10_laid_64 rfl (j_iload 0 dX10_laid_65 rfl (j_if_eq (tgt := 74) dX10_laid_67 (by decide) h (fun h => j_iconst dX10_laid_74 (j_sub [1, 2, 3, 5] rfl (JX10_laid_75 hc10 _ _ _ _ _ _ _ h))) (fun h => j_iconst dX10_laid_70 (j_goto (tgt := 75) dX10_laid_71 (by decide) (j_sub [1, 2, 3, 5] rfl (JX10_laid_75 hc10 _ _ _ _ _ _ _ h)))))))
def VX10_laid_10 (d : Nat) (Q : Out → MS → Prop) : Nat → Nat → Int → Int → Int → Int → MS → Prop
  | 0, _, _, _, _, _, _ => False
  | n + 1, x0, x1, x2, x3, x4, S => S.K x0 = 10 ∧ ∃ b1, S.R x0 2 = some b1 ∧ (S.K b1 = 7 ∧ ((R32 x4 ∧ R32 (S.I b1 9)) ∧ (((S.I b1 9) ≤ x4) → Q (.inl (some (vI x3))) S) ∧ (¬ ((S.I b1 9) ≤ x4) → R32 x2 ∧ ((x2 = 0) → S.K x0 = 10 ∧ ∃ b2, S.R x0 2 = some b2 ∧ (S.K b2 = 7 ∧ ∃ b3, S.R b2 5 = some b3 ∧ ((S.K b3 = 13 ∧ 0 ≤ x4 ∧ x4 < S.N b3) ∧ (Mw hX10_holds yX10_holds d [vI (S.I b3 (x4).toNat), vI x1] S (oI (fun r4 S4 => VX10_laid_62 d (VX10_laid_10 d Q n) Q x0 x1 x2 x3 x4 r4 S4)))))) ∧ (¬ (x2 = 0) → S.K x0 = 10 ∧ ∃ b5, S.R x0 2 = some b5 ∧ (S.K b5 = 7 ∧ ∃ b6, S.R b5 6 = some b6 ∧ ((S.K b6 = 13 ∧ 0 ≤ x4 ∧ x4 < S.N b6) ∧ ((R32 (S.I b6 (x4).toNat) ∧ R32 x1) ∧ (¬ ((S.I b6 (x4).toNat) = x1) → VX10_laid_62 d (VX10_laid_10 d Q n) Q x0 x1 x2 x3 x4 0 S) ∧ (((S.I b6 (x4).toNat) = x1) → VX10_laid_62 d (VX10_laid_10 d Q n) Q x0 x1 x2 x3 x4 1 S))))))))
theorem JX10_laid_10 {d : Nat} {S0 : MS} {Q : Out → MS → Prop} : ∀ (n : Nat) (x0 : Nat) (x1 : Int) (x2 : Int) (x3 : Int) (x4 : Int) (S : MS), VX10_laid_10 d Q n x0 x1 x2 x3 x4 S → Jw FinM RX10 cX10_laid 6 (some .int) [] yX10_laid (d + 1) S0 S 10 [(0, vA x0), (1, vI x1), (2, vI x2), (3, vI x3), (4, vI x4)] [] Q := by
  intro n
  induction n with
  | zero => intro x0 x1 x2 x3 x4 S h; exact h.elim
  | succ n ih =>
    intro x0 x1 x2 x3 x4 S h
    exact j_iload 4 dX10_laid_10 rfl (j_aload_n 0 dX10_laid_12 rfl (j_getR 10 2 f_RX10_24 dX10_laid_13 h (fun b1 h => j_getI 7 9 f_RX10_132 dX10_laid_16 h (fun h => j_icmp_ge (tgt := 83) dX10_laid_19 (by decide) h (fun h => j_iload_n 3 dX10_laid_83 rfl (j_iret rfl dX10_laid_84 h)) (fun h => j_iload_n 2 dX10_laid_22 rfl (j_if_eq (tgt := 48) dX10_laid_23 (by decide) h (fun h => j_aload_n 0 dX10_laid_48 rfl (j_getR 10 2 f_RX10_24 dX10_laid_49 h (fun b2 h => j_getR 7 5 f_RX10_200 dX10_laid_52 h (fun b3 h => j_iload 4 dX10_laid_55 rfl (j_iald dX10_laid_57 h (fun h => j_iload_n 1 dX10_laid_58 rfl (j_callS (rest := []) [vI (S.I b3 (x4).toNat), vI x1] k_RX10_184 w_2_192 rfl rfl (Nat.le_of_ble_eq_true rfl) dX10_laid_59 h (kI (fun r4 S4 h => JX10_laid_62 ih _ _ _ _ _ _ _ h)) (fun _ _ h => h.elim)))))))) (fun h => j_aload_n 0 dX10_laid_26 rfl (j_getR 10 2 f_RX10_24 dX10_laid_27 h (fun b5 h => j_getR 7 6 f_RX10_203 dX10_laid_30 h (fun b6 h => j_iload 4 dX10_laid_33 rfl (j_iald dX10_laid_35 h (fun h => j_iload_n 1 dX10_laid_36 rfl (j_icmp_ne (tgt := 44) dX10_laid_37 (by decide) h (fun h => j_iconst dX10_laid_44 (j_goto (tgt := 62) dX10_laid_45 (by decide) (JX10_laid_62 ih _ _ _ _ _ _ _ h))) (fun h => j_iconst dX10_laid_40 (j_goto (tgt := 62) dX10_laid_41 (by decide) (JX10_laid_62 ih _ _ _ _ _ _ _ h))))))))))))))))
def VX10_laid_0 (d : Nat) (Q : Out → MS → Prop) (x0 : Nat) (x1 : Int) (x2 : Int) (S : MS) : Prop :=
  S.K x0 = 10 ∧ Mw hX10_needThing yX10_needThing d [vA x0, vI x1] S (xV (fun S1 => ∃ m, VX10_laid_10 d Q m x0 x1 x2 0 0 S1) (fun E S9 => Q (.inr E) S9))
theorem JX10_laid_0 {d : Nat} {S0 : MS} {Q : Out → MS → Prop} (x0 : Nat) (x1 : Int) (x2 : Int) (S : MS) (h : VX10_laid_0 d Q x0 x1 x2 S) : Jw FinM RX10 cX10_laid 6 (some .int) [] yX10_laid (d + 1) S0 S 0 [(0, vA x0), (1, vI x1), (2, vI x2)] [] Q :=
  j_aload_n 0 dX10_laid_0 rfl (j_iload_n 1 dX10_laid_1 rfl (j_callV (rest := []) 10 [vI x1] k_RX10_158 ⟨w_5_67, p_2_12⟩ ⟨_, _, rfl⟩ (by decide) rfl rfl (Nat.le_of_ble_eq_true rfl) dX10_laid_2 h (kV (fun S1 h => j_iconst dX10_laid_5 (j_istore_n (lv2 := [(3, vI 0), (0, vA x0), (1, vI x1), (2, vI x2)]) dX10_laid_6 (by decide) rfl (j_iconst dX10_laid_7 (j_istore (lv2 := [(4, vI 0), (3, vI 0), (0, vA x0), (1, vI x1), (2, vI x2)]) dX10_laid_8 (by decide) rfl (Exists.elim h (fun m h => j_sub [2, 3, 4, 1, 0] rfl (JX10_laid_10 m _ _ _ _ _ _ h)))))))) (fun _ _ h => jx_out h)))
theorem MX10_laid {d : Nat} {x0 : Nat} {x1 : Int} {x2 : Int} {S : MS} {Q : Out → MS → Prop} (h : VX10_laid_0 d Q x0 x1 x2 S) : Mw hX10_laid yX10_laid (d + 1) [vA x0, vI x1, vI x2] S Q := Mw.ofJ (by decide) (Nat.le_of_ble_eq_true rfl) (JX10_laid_0 _ _ _ S h)
theorem dX10_image_0 : decode cX10_image 0 = .ok (.aload_n 0, 1) := by decide +kernel
theorem dX10_image_1 : decode cX10_image 1 = .ok (.getfield 28, 3) := by decide +kernel
theorem dX10_image_4 : decode cX10_image 4 = .ok (.aload_n 0, 1) := by decide +kernel
theorem dX10_image_5 : decode cX10_image 5 = .ok (.getfield 24, 3) := by decide +kernel
theorem dX10_image_8 : decode cX10_image 8 = .ok (.invokevirtual 103, 3) := by decide +kernel
theorem dX10_image_11 : decode cX10_image 11 = .ok (.aload_n 0, 1) := by decide +kernel
theorem dX10_image_12 : decode cX10_image 12 = .ok (.iconst 1, 1) := by decide +kernel
theorem dX10_image_13 : decode cX10_image 13 = .ok (.putfield 84, 3) := by decide +kernel
theorem dX10_image_16 : decode cX10_image 16 = .ok (.return_, 1) := by decide +kernel
def VX10_image_0 (d : Nat) (Q : Out → MS → Prop) (x0 : Nat) (S : MS) : Prop :=
  S.K x0 = 10 ∧ ∃ b1, S.R x0 3 = some b1 ∧ (S.K x0 = 10 ∧ ∃ b2, S.R x0 2 = some b2 ∧ (S.K b1 = 7 ∧ Mw hX7_takeOver yX7_takeOver d [vA b1, vA b2] S (oV (fun S3 => (S3.K x0 = 10 ∧ B01 1) ∧ (Q (.inl none) (S3.setI x0 13 1))))))
theorem JX10_image_0 {d : Nat} {S0 : MS} {Q : Out → MS → Prop} (x0 : Nat) (S : MS) (h : VX10_image_0 d Q x0 S) : Jw FinM RX10 cX10_image 1 none [] yX10_image (d + 1) S0 S 0 [(0, vA x0)] [] Q :=
  j_aload_n 0 dX10_image_0 rfl (j_getR 10 3 f_RX10_28 dX10_image_1 h (fun b1 h => j_aload_n 0 dX10_image_4 rfl (j_getR 10 2 f_RX10_24 dX10_image_5 h (fun b2 h => j_callV (rest := []) 7 [vA b2] k_RX10_103 ⟨w_3_214, w_3_215⟩ ⟨_, _, rfl⟩ (by decide) rfl rfl (Nat.le_of_ble_eq_true rfl) dX10_image_8 h (kV (fun S3 h => j_aload_n 0 dX10_image_11 rfl (j_iconst dX10_image_12 (j_putZ 10 13 f_RX10_84 dX10_image_13 h (fun h => j_vret rfl dX10_image_16 h))))) (fun _ _ h => h.elim)))))
theorem MX10_image {d : Nat} {x0 : Nat} {S : MS} {Q : Out → MS → Prop} (h : VX10_image_0 d Q x0 S) : Mw hX10_image yX10_image (d + 1) [vA x0] S Q := Mw.ofJ (by decide) (Nat.le_of_ble_eq_true rfl) (JX10_image_0 _ S h)
theorem dX10_back_0 : decode cX10_back 0 = .ok (.aload_n 0, 1) := by decide +kernel
theorem dX10_back_1 : decode cX10_back 1 = .ok (.getfield 84, 3) := by decide +kernel
theorem dX10_back_4 : decode cX10_back 4 = .ok (.ifCond .ne 5, 3) := by decide +kernel
theorem dX10_back_7 : decode cX10_back 7 = .ok (.iconst 0, 1) := by decide +kernel
theorem dX10_back_8 : decode cX10_back 8 = .ok (.ireturn, 1) := by decide +kernel
theorem dX10_back_9 : decode cX10_back 9 = .ok (.aload_n 0, 1) := by decide +kernel
theorem dX10_back_10 : decode cX10_back 10 = .ok (.getfield 24, 3) := by decide +kernel
theorem dX10_back_13 : decode cX10_back 13 = .ok (.aload_n 0, 1) := by decide +kernel
theorem dX10_back_14 : decode cX10_back 14 = .ok (.getfield 28, 3) := by decide +kernel
theorem dX10_back_17 : decode cX10_back 17 = .ok (.invokevirtual 103, 3) := by decide +kernel
theorem dX10_back_20 : decode cX10_back 20 = .ok (.aload_n 0, 1) := by decide +kernel
theorem dX10_back_21 : decode cX10_back 21 = .ok (.iconst 0, 1) := by decide +kernel
theorem dX10_back_22 : decode cX10_back 22 = .ok (.putfield 80, 3) := by decide +kernel
theorem dX10_back_25 : decode cX10_back 25 = .ok (.iconst 1, 1) := by decide +kernel
theorem dX10_back_26 : decode cX10_back 26 = .ok (.ireturn, 1) := by decide +kernel
def VX10_back_0 (d : Nat) (Q : Out → MS → Prop) (x0 : Nat) (S : MS) : Prop :=
  S.K x0 = 10 ∧ (R32 (S.I x0 13) ∧ (¬ ((S.I x0 13) = 0) → S.K x0 = 10 ∧ ∃ b1, S.R x0 2 = some b1 ∧ (S.K x0 = 10 ∧ ∃ b2, S.R x0 3 = some b2 ∧ (S.K b1 = 7 ∧ Mw hX7_takeOver yX7_takeOver d [vA b1, vA b2] S (oV (fun S3 => (S3.K x0 = 10 ∧ B01 0) ∧ (B01 1 ∧ Q (.inl (some (vI 1))) (S3.setI x0 12 0))))))) ∧ (((S.I x0 13) = 0) → B01 0 ∧ Q (.inl (some (vI 0))) S))
theorem JX10_back_0 {d : Nat} {S0 : MS} {Q : Out → MS → Prop} (x0 : Nat) (S : MS) (h : VX10_back_0 d Q x0 S) : Jw FinM RX10 cX10_back 1 (some .boolean) [] yX10_back (d + 1) S0 S 0 [(0, vA x0)] [] Q :=
  j_aload_n 0 dX10_back_0 rfl (j_getI 10 13 f_RX10_84 dX10_back_1 h (fun h => j_if_ne (tgt := 9) dX10_back_4 (by decide) h (fun h => j_aload_n 0 dX10_back_9 rfl (j_getR 10 2 f_RX10_24 dX10_back_10 h (fun b1 h => j_aload_n 0 dX10_back_13 rfl (j_getR 10 3 f_RX10_28 dX10_back_14 h (fun b2 h => j_callV (rest := []) 7 [vA b2] k_RX10_103 ⟨w_3_214, w_3_215⟩ ⟨_, _, rfl⟩ (by decide) rfl rfl (Nat.le_of_ble_eq_true rfl) dX10_back_17 h (kV (fun S3 h => j_aload_n 0 dX10_back_20 rfl (j_iconst dX10_back_21 (j_putZ 10 12 f_RX10_80 dX10_back_22 h (fun h => j_iconst dX10_back_25 (j_zret rfl dX10_back_26 h)))))) (fun _ _ h => h.elim)))))) (fun h => j_iconst dX10_back_7 (j_zret rfl dX10_back_8 h))))
theorem MX10_back {d : Nat} {x0 : Nat} {S : MS} {Q : Out → MS → Prop} (h : VX10_back_0 d Q x0 S) : Mw hX10_back yX10_back (d + 1) [vA x0] S Q := Mw.ofJ (by decide) (Nat.le_of_ble_eq_true rfl) (JX10_back_0 _ S h)
theorem dX10_count_0 : decode cX10_count 0 = .ok (.iload_n 1, 1) := by decide +kernel
theorem dX10_count_1 : decode cX10_count 1 = .ok (.tableswitch 103 0 6 #[43, 51, 59, 67, 75, 83, 95], 43) := by decide +kernel
theorem dX10_count_44 : decode cX10_count 44 = .ok (.aload_n 0, 1) := by decide +kernel
theorem dX10_count_45 : decode cX10_count 45 = .ok (.getfield 24, 3) := by decide +kernel
theorem dX10_count_48 : decode cX10_count 48 = .ok (.getfield 261, 3) := by decide +kernel
theorem dX10_count_51 : decode cX10_count 51 = .ok (.ireturn, 1) := by decide +kernel
theorem dX10_count_52 : decode cX10_count 52 = .ok (.aload_n 0, 1) := by decide +kernel
theorem dX10_count_53 : decode cX10_count 53 = .ok (.getfield 24, 3) := by decide +kernel
theorem dX10_count_56 : decode cX10_count 56 = .ok (.getfield 149, 3) := by decide +kernel
theorem dX10_count_59 : decode cX10_count 59 = .ok (.ireturn, 1) := by decide +kernel
theorem dX10_count_60 : decode cX10_count 60 = .ok (.aload_n 0, 1) := by decide +kernel
theorem dX10_count_61 : decode cX10_count 61 = .ok (.getfield 24, 3) := by decide +kernel
theorem dX10_count_64 : decode cX10_count 64 = .ok (.getfield 132, 3) := by decide +kernel
theorem dX10_count_67 : decode cX10_count 67 = .ok (.ireturn, 1) := by decide +kernel
theorem dX10_count_68 : decode cX10_count 68 = .ok (.aload_n 0, 1) := by decide +kernel
theorem dX10_count_69 : decode cX10_count 69 = .ok (.getfield 24, 3) := by decide +kernel
theorem dX10_count_72 : decode cX10_count 72 = .ok (.getfield 122, 3) := by decide +kernel
theorem dX10_count_75 : decode cX10_count 75 = .ok (.ireturn, 1) := by decide +kernel
theorem dX10_count_76 : decode cX10_count 76 = .ok (.aload_n 0, 1) := by decide +kernel
theorem dX10_count_77 : decode cX10_count 77 = .ok (.getfield 24, 3) := by decide +kernel
theorem dX10_count_80 : decode cX10_count 80 = .ok (.invokevirtual 433, 3) := by decide +kernel
theorem dX10_count_83 : decode cX10_count 83 = .ok (.ireturn, 1) := by decide +kernel
theorem dX10_count_84 : decode cX10_count 84 = .ok (.aload_n 0, 1) := by decide +kernel
theorem dX10_count_85 : decode cX10_count 85 = .ok (.invokevirtual 229, 3) := by decide +kernel
theorem dX10_count_88 : decode cX10_count 88 = .ok (.aload_n 0, 1) := by decide +kernel
theorem dX10_count_89 : decode cX10_count 89 = .ok (.invokevirtual 214, 3) := by decide +kernel
theorem dX10_count_92 : decode cX10_count 92 = .ok (.invokevirtual 436, 3) := by decide +kernel
theorem dX10_count_95 : decode cX10_count 95 = .ok (.ireturn, 1) := by decide +kernel
theorem dX10_count_96 : decode cX10_count 96 = .ok (.aload_n 0, 1) := by decide +kernel
theorem dX10_count_97 : decode cX10_count 97 = .ok (.getfield 24, 3) := by decide +kernel
theorem dX10_count_100 : decode cX10_count 100 = .ok (.invokevirtual 439, 3) := by decide +kernel
theorem dX10_count_103 : decode cX10_count 103 = .ok (.ireturn, 1) := by decide +kernel
theorem dX10_count_104 : decode cX10_count 104 = .ok (.iconst (-1), 1) := by decide +kernel
theorem dX10_count_105 : decode cX10_count 105 = .ok (.ireturn, 1) := by decide +kernel
def VX10_count_0 (d : Nat) (Q : Out → MS → Prop) (x0 : Nat) (x1 : Int) (S : MS) : Prop :=
  R32 x1 ∧ ((x1 = 0 → S.K x0 = 10 ∧ ∃ b1, S.R x0 2 = some b1 ∧ (S.K b1 = 7 ∧ (Q (.inl (some (vI (S.I b1 7)))) S))) ∧ ((x1 = 1 → S.K x0 = 10 ∧ ∃ b2, S.R x0 2 = some b2 ∧ (S.K b2 = 7 ∧ (Q (.inl (some (vI (S.I b2 8)))) S))) ∧ ((x1 = 2 → S.K x0 = 10 ∧ ∃ b3, S.R x0 2 = some b3 ∧ (S.K b3 = 7 ∧ (Q (.inl (some (vI (S.I b3 9)))) S))) ∧ ((x1 = 3 → S.K x0 = 10 ∧ ∃ b4, S.R x0 2 = some b4 ∧ (S.K b4 = 7 ∧ (Q (.inl (some (vI (S.I b4 10)))) S))) ∧ ((x1 = 4 → S.K x0 = 10 ∧ ∃ b5, S.R x0 2 = some b5 ∧ (S.K b5 = 7 ∧ Mw hX7_spentCoin yX7_spentCoin d [vA b5] S (oI (fun r6 S6 => Q (.inl (some (vI r6))) S6)))) ∧ ((x1 = 5 → S.K x0 = 10 ∧ Mw hX10_allRows yX10_allRows d [vA x0] S (oA (fun r7 S7 => S7.K x0 = 10 ∧ Mw hX10_rowsLeft yX10_rowsLeft d [vA x0] S7 (oA (fun r8 S8 => S8.K r7 = 0 ∧ Mw hX0_mirrored yX0_mirrored d [vA r7, vA r8] S8 (oI (fun r9 S9 => Q (.inl (some (vI r9))) S9))))))) ∧ ((x1 = 6 → S.K x0 = 10 ∧ ∃ b10, S.R x0 2 = some b10 ∧ (S.K b10 = 7 ∧ Mw hX7_falseNotes yX7_falseNotes d [vA b10] S (oI (fun r11 S11 => Q (.inl (some (vI r11))) S11)))) ∧ ((x1 < 0 ∨ 6 < x1) → Q (.inl (some (vI ((-1))))) S))))))))
theorem JX10_count_0 {d : Nat} {S0 : MS} {Q : Out → MS → Prop} (x0 : Nat) (x1 : Int) (S : MS) (h : VX10_count_0 d Q x0 x1 S) : Jw FinM RX10 cX10_count 2 (some .int) [] yX10_count (d + 1) S0 S 0 [(0, vA x0), (1, vI x1)] [] Q :=
  j_iload_n 1 dX10_count_0 rfl ((have hr := h.1; have h := h.2; j_tswC (cv := 0) (tgt := 44) dX10_count_1 hr (by decide) (by decide) rfl (by decide) h (fun h => j_aload_n 0 dX10_count_44 rfl (j_getR 10 2 f_RX10_24 dX10_count_45 h (fun b1 h => j_getI 7 7 f_RX10_261 dX10_count_48 h (fun h => j_iret rfl dX10_count_51 h)))) (fun hne0 h => j_tswC (cv := 1) (tgt := 52) dX10_count_1 hr (by decide) (by decide) rfl (by decide) h (fun h => j_aload_n 0 dX10_count_52 rfl (j_getR 10 2 f_RX10_24 dX10_count_53 h (fun b2 h => j_getI 7 8 f_RX10_149 dX10_count_56 h (fun h => j_iret rfl dX10_count_59 h)))) (fun hne1 h => j_tswC (cv := 2) (tgt := 60) dX10_count_1 hr (by decide) (by decide) rfl (by decide) h (fun h => j_aload_n 0 dX10_count_60 rfl (j_getR 10 2 f_RX10_24 dX10_count_61 h (fun b3 h => j_getI 7 9 f_RX10_132 dX10_count_64 h (fun h => j_iret rfl dX10_count_67 h)))) (fun hne2 h => j_tswC (cv := 3) (tgt := 68) dX10_count_1 hr (by decide) (by decide) rfl (by decide) h (fun h => j_aload_n 0 dX10_count_68 rfl (j_getR 10 2 f_RX10_24 dX10_count_69 h (fun b4 h => j_getI 7 10 f_RX10_122 dX10_count_72 h (fun h => j_iret rfl dX10_count_75 h)))) (fun hne3 h => j_tswC (cv := 4) (tgt := 76) dX10_count_1 hr (by decide) (by decide) rfl (by decide) h (fun h => j_aload_n 0 dX10_count_76 rfl (j_getR 10 2 f_RX10_24 dX10_count_77 h (fun b5 h => j_callV (rest := []) 7 [] k_RX10_433 ⟨w_3_229, w_3_230⟩ ⟨_, _, rfl⟩ (by decide) rfl rfl (Nat.le_of_ble_eq_true rfl) dX10_count_80 h (kI (fun r6 S6 h => j_iret rfl dX10_count_83 h)) (fun _ _ h => h.elim)))) (fun hne4 h => j_tswC (cv := 5) (tgt := 84) dX10_count_1 hr (by decide) (by decide) rfl (by decide) h (fun h => j_aload_n 0 dX10_count_84 rfl (j_callV (rest := []) 10 [] k_RX10_229 ⟨w_2_61, p_1_1⟩ ⟨_, _, rfl⟩ (by decide) rfl rfl (Nat.le_of_ble_eq_true rfl) dX10_count_85 h (kA (fun r7 S7 h => j_aload_n 0 dX10_count_88 rfl (j_callV (rest := [vA r7]) 10 [] k_RX10_214 ⟨w_2_57, p_1_0⟩ ⟨_, _, rfl⟩ (by decide) rfl rfl (Nat.le_of_ble_eq_true rfl) dX10_count_89 h (kA (fun r8 S8 h => j_callV (rest := []) 0 [vA r8] k_RX10_436 ⟨w_3_233, w_3_234⟩ ⟨_, _, rfl⟩ (by decide) rfl rfl (Nat.le_of_ble_eq_true rfl) dX10_count_92 h (kI (fun r9 S9 h => j_iret rfl dX10_count_95 h)) (fun _ _ h => h.elim))) (fun _ _ h => h.elim)))) (fun _ _ h => h.elim))) (fun hne5 h => j_tswC (cv := 6) (tgt := 96) dX10_count_1 hr (by decide) (by decide) rfl (by decide) h (fun h => j_aload_n 0 dX10_count_96 rfl (j_getR 10 2 f_RX10_24 dX10_count_97 h (fun b10 h => j_callV (rest := []) 7 [] k_RX10_439 ⟨w_4_9, w_4_10⟩ ⟨_, _, rfl⟩ (by decide) rfl rfl (Nat.le_of_ble_eq_true rfl) dX10_count_100 h (kI (fun r11 S11 h => j_iret rfl dX10_count_103 h)) (fun _ _ h => h.elim)))) (fun hne6 h => j_tswD (tgt := 104) dX10_count_1 hr (tsw_6 hne0 hne1 hne2 hne3 hne4 hne5 hne6) (by decide) h (fun h => j_iconst dX10_count_104 (j_iret rfl dX10_count_105 h)))))))))))
theorem MX10_count {d : Nat} {x0 : Nat} {x1 : Int} {S : MS} {Q : Out → MS → Prop} (h : VX10_count_0 d Q x0 x1 S) : Mw hX10_count yX10_count (d + 1) [vA x0, vI x1] S Q := Mw.ofJ (by decide) (Nat.le_of_ble_eq_true rfl) (JX10_count_0 _ _ S h)
theorem dX10_needThing_0 : decode cX10_needThing 0 = .ok (.aload_n 0, 1) := by decide +kernel
theorem dX10_needThing_1 : decode cX10_needThing 1 = .ok (.getfield 24, 3) := by decide +kernel
theorem dX10_needThing_4 : decode cX10_needThing 4 = .ok (.iload_n 1, 1) := by decide +kernel
theorem dX10_needThing_5 : decode cX10_needThing 5 = .ok (.invokevirtual 180, 3) := by decide +kernel
theorem dX10_needThing_8 : decode cX10_needThing 8 = .ok (.ifCond .ne 14, 3) := by decide +kernel
theorem dX10_needThing_11 : decode cX10_needThing 11 = .ok (.new 221, 3) := by decide +kernel
theorem dX10_needThing_14 : decode cX10_needThing 14 = .ok (.dup, 1) := by decide +kernel
theorem dX10_needThing_15 : decode cX10_needThing 15 = .ok (.ldc_w 442, 3) := by decide +kernel
theorem dX10_needThing_18 : decode cX10_needThing 18 = .ok (.invokespecial 225, 3) := by decide +kernel
theorem dX10_needThing_21 : decode cX10_needThing 21 = .ok (.athrow, 1) := by decide +kernel
theorem dX10_needThing_22 : decode cX10_needThing 22 = .ok (.return_, 1) := by decide +kernel
def VX10_needThing_0 (d : Nat) (Q : Out → MS → Prop) (x0 : Nat) (x1 : Int) (S : MS) : Prop :=
  S.K x0 = 10 ∧ ∃ b1, S.R x0 2 = some b1 ∧ (S.K b1 = 7 ∧ Mw hX7_isThing yX7_isThing d [vA b1, vI x1] S (oI (fun r2 S2 => R32 r2 ∧ (¬ (r2 = 0) → Q (.inl none) S2) ∧ ((r2 = 0) → 5 ≤ d ∧ Q (.inr "java/lang/IndexOutOfBoundsException") (S2.junk 6)))))
theorem JX10_needThing_0 {d : Nat} {S0 : MS} {Q : Out → MS → Prop} (x0 : Nat) (x1 : Int) (S : MS) (h : VX10_needThing_0 d Q x0 x1 S) : Jw FinM RX10 cX10_needThing 2 none [] yX10_needThing (d + 1) S0 S 0 [(0, vA x0), (1, vI x1)] [] Q :=
  j_aload_n 0 dX10_needThing_0 rfl (j_getR 10 2 f_RX10_24 dX10_needThing_1 h (fun b1 h => j_iload_n 1 dX10_needThing_4 rfl (j_callV (rest := []) 7 [vI x1] k_RX10_180 ⟨w_5_70, w_5_71⟩ ⟨_, _, rfl⟩ (by decide) rfl rfl (Nat.le_of_ble_eq_true rfl) dX10_needThing_5 h (kI (fun r2 S2 h => j_if_ne (tgt := 22) dX10_needThing_8 (by decide) h (fun h => j_vret rfl dX10_needThing_22 h) (fun h => j_throwW t_RX10_221_225 (List.mem_of_getElem? (i := 14) rfl) dX10_needThing_11 dX10_needThing_14 dX10_needThing_15 dX10_needThing_18 dX10_needThing_21 (Nat.le_of_ble_eq_true rfl) rfl h))) (fun _ _ h => h.elim))))
theorem MX10_needThing {d : Nat} {x0 : Nat} {x1 : Int} {S : MS} {Q : Out → MS → Prop} (h : VX10_needThing_0 d Q x0 x1 S) : Mw hX10_needThing yX10_needThing (d + 1) [vA x0, vI x1] S Q := Mw.ofJ (by decide) (Nat.le_of_ble_eq_true rfl) (JX10_needThing_0 _ _ S h)
theorem dX10_needScale_0 : decode cX10_needScale 0 = .ok (.iload_n 1, 1) := by decide +kernel
theorem dX10_needScale_1 : decode cX10_needScale 1 = .ok (.ifCond .lt 14, 3) := by decide +kernel
theorem dX10_needScale_4 : decode cX10_needScale 4 = .ok (.iload_n 1, 1) := by decide +kernel
theorem dX10_needScale_5 : decode cX10_needScale 5 = .ok (.aload_n 0, 1) := by decide +kernel
theorem dX10_needScale_6 : decode cX10_needScale 6 = .ok (.getfield 24, 3) := by decide +kernel
theorem dX10_needScale_9 : decode cX10_needScale 9 = .ok (.getfield 149, 3) := by decide +kernel
theorem dX10_needScale_12 : decode cX10_needScale 12 = .ok (.if_icmp .lt 14, 3) := by decide +kernel
theorem dX10_needScale_15 : decode cX10_needScale 15 = .ok (.new 221, 3) := by decide +kernel
theorem dX10_needScale_18 : decode cX10_needScale 18 = .ok (.dup, 1) := by decide +kernel
theorem dX10_needScale_19 : decode cX10_needScale 19 = .ok (.ldc_w 444, 3) := by decide +kernel
theorem dX10_needScale_22 : decode cX10_needScale 22 = .ok (.invokespecial 225, 3) := by decide +kernel
theorem dX10_needScale_25 : decode cX10_needScale 25 = .ok (.athrow, 1) := by decide +kernel
theorem dX10_needScale_26 : decode cX10_needScale 26 = .ok (.return_, 1) := by decide +kernel
def VX10_needScale_15 (d : Nat) (Q : Out → MS → Prop) (S : MS) : Prop :=
  5 ≤ d ∧ Q (.inr "java/lang/IndexOutOfBoundsException") (S.junk 6)
theorem JX10_needScale_15 {d : Nat} {S0 : MS} {Q : Out → MS → Prop} (S : MS) (h : VX10_needScale_15 d Q S) : Jw FinM RX10 cX10_needScale 2 none [] yX10_needScale (d + 1) S0 S 15 [] [] Q :=
  j_throwW t_RX10_221_225 (List.mem_of_getElem? (i := 15) rfl) dX10_needScale_15 dX10_needScale_18 dX10_needScale_19 dX10_needScale_22 dX10_needScale_25 (Nat.le_of_ble_eq_true rfl) rfl h
def VX10_needScale_0 (d : Nat) (Q : Out → MS → Prop) (x0 : Nat) (x1 : Int) (S : MS) : Prop :=
  R32 x1 ∧ ((x1 < 0) → VX10_needScale_15 d Q S) ∧ (¬ (x1 < 0) → S.K x0 = 10 ∧ ∃ b1, S.R x0 2 = some b1 ∧ (S.K b1 = 7 ∧ ((R32 x1 ∧ R32 (S.I b1 8)) ∧ ((x1 < (S.I b1 8)) → Q (.inl none) S) ∧ (¬ (x1 < (S.I b1 8)) → VX10_needScale_15 d Q S))))
theorem JX10_needScale_0 {d : Nat} {S0 : MS} {Q : Out → MS → Prop} (x0 : Nat) (x1 : Int) (S : MS) (h : VX10_needScale_0 d Q x0 x1 S) : Jw FinM RX10 cX10_needScale 2 none [] yX10_needScale (d + 1) S0 S 0 [(0, vA x0), (1, vI x1)] [] Q :=
  j_iload_n 1 dX10_needScale_0 rfl (j_if_lt (tgt := 15) dX10_needScale_1 (by decide) h (fun h => j_sub [] rfl (JX10_needScale_15 _ h)) (fun h => j_iload_n 1 dX10_needScale_4 rfl (j_aload_n 0 dX10_needScale_5 rfl (j_getR 10 2 f_RX10_24 dX10_needScale_6 h (fun b1 h => j_getI 7 8 f_RX10_149 dX10_needScale_9 h (fun h => j_icmp_lt (tgt := 26) dX10_needScale_12 (by decide) h (fun h => j_vret rfl dX10_needScale_26 h) (fun h => j_sub [] rfl (JX10_needScale_15 _ h))))))))
theorem MX10_needScale {d : Nat} {x0 : Nat} {x1 : Int} {S : MS} {Q : Out → MS → Prop} (h : VX10_needScale_0 d Q x0 x1 S) : Mw hX10_needScale yX10_needScale (d + 1) [vA x0, vI x1] S Q := Mw.ofJ (by decide) (Nat.le_of_ble_eq_true rfl) (JX10_needScale_0 _ _ S h)
theorem dX10_needNote_0 : decode cX10_needNote 0 = .ok (.iload_n 1, 1) := by decide +kernel
theorem dX10_needNote_1 : decode cX10_needNote 1 = .ok (.ifCond .lt 14, 3) := by decide +kernel
theorem dX10_needNote_4 : decode cX10_needNote 4 = .ok (.iload_n 1, 1) := by decide +kernel
theorem dX10_needNote_5 : decode cX10_needNote 5 = .ok (.aload_n 0, 1) := by decide +kernel
theorem dX10_needNote_6 : decode cX10_needNote 6 = .ok (.getfield 24, 3) := by decide +kernel
theorem dX10_needNote_9 : decode cX10_needNote 9 = .ok (.getfield 132, 3) := by decide +kernel
theorem dX10_needNote_12 : decode cX10_needNote 12 = .ok (.if_icmp .lt 14, 3) := by decide +kernel
theorem dX10_needNote_15 : decode cX10_needNote 15 = .ok (.new 221, 3) := by decide +kernel
theorem dX10_needNote_18 : decode cX10_needNote 18 = .ok (.dup, 1) := by decide +kernel
theorem dX10_needNote_19 : decode cX10_needNote 19 = .ok (.ldc_w 446, 3) := by decide +kernel
theorem dX10_needNote_22 : decode cX10_needNote 22 = .ok (.invokespecial 225, 3) := by decide +kernel
theorem dX10_needNote_25 : decode cX10_needNote 25 = .ok (.athrow, 1) := by decide +kernel
theorem dX10_needNote_26 : decode cX10_needNote 26 = .ok (.return_, 1) := by decide +kernel
def VX10_needNote_15 (d : Nat) (Q : Out → MS → Prop) (S : MS) : Prop :=
  5 ≤ d ∧ Q (.inr "java/lang/IndexOutOfBoundsException") (S.junk 6)
theorem JX10_needNote_15 {d : Nat} {S0 : MS} {Q : Out → MS → Prop} (S : MS) (h : VX10_needNote_15 d Q S) : Jw FinM RX10 cX10_needNote 2 none [] yX10_needNote (d + 1) S0 S 15 [] [] Q :=
  j_throwW t_RX10_221_225 (List.mem_of_getElem? (i := 16) rfl) dX10_needNote_15 dX10_needNote_18 dX10_needNote_19 dX10_needNote_22 dX10_needNote_25 (Nat.le_of_ble_eq_true rfl) rfl h
def VX10_needNote_0 (d : Nat) (Q : Out → MS → Prop) (x0 : Nat) (x1 : Int) (S : MS) : Prop :=
  R32 x1 ∧ ((x1 < 0) → VX10_needNote_15 d Q S) ∧ (¬ (x1 < 0) → S.K x0 = 10 ∧ ∃ b1, S.R x0 2 = some b1 ∧ (S.K b1 = 7 ∧ ((R32 x1 ∧ R32 (S.I b1 9)) ∧ ((x1 < (S.I b1 9)) → Q (.inl none) S) ∧ (¬ (x1 < (S.I b1 9)) → VX10_needNote_15 d Q S))))
theorem JX10_needNote_0 {d : Nat} {S0 : MS} {Q : Out → MS → Prop} (x0 : Nat) (x1 : Int) (S : MS) (h : VX10_needNote_0 d Q x0 x1 S) : Jw FinM RX10 cX10_needNote 2 none [] yX10_needNote (d + 1) S0 S 0 [(0, vA x0), (1, vI x1)] [] Q :=
  j_iload_n 1 dX10_needNote_0 rfl (j_if_lt (tgt := 15) dX10_needNote_1 (by decide) h (fun h => j_sub [] rfl (JX10_needNote_15 _ h)) (fun h => j_iload_n 1 dX10_needNote_4 rfl (j_aload_n 0 dX10_needNote_5 rfl (j_getR 10 2 f_RX10_24 dX10_needNote_6 h (fun b1 h => j_getI 7 9 f_RX10_132 dX10_needNote_9 h (fun h => j_icmp_lt (tgt := 26) dX10_needNote_12 (by decide) h (fun h => j_vret rfl dX10_needNote_26 h) (fun h => j_sub [] rfl (JX10_needNote_15 _ h))))))))
theorem MX10_needNote {d : Nat} {x0 : Nat} {x1 : Int} {S : MS} {Q : Out → MS → Prop} (h : VX10_needNote_0 d Q x0 x1 S) : Mw hX10_needNote yX10_needNote (d + 1) [vA x0, vI x1] S Q := Mw.ofJ (by decide) (Nat.le_of_ble_eq_true rfl) (JX10_needNote_0 _ _ S h)
theorem dX10_needLoad_0 : decode cX10_needLoad 0 = .ok (.aload_n 0, 1) := by decide +kernel
theorem dX10_needLoad_1 : decode cX10_needLoad 1 = .ok (.getfield 24, 3) := by decide +kernel
theorem dX10_needLoad_4 : decode cX10_needLoad 4 = .ok (.iload_n 2, 1) := by decide +kernel
theorem dX10_needLoad_5 : decode cX10_needLoad 5 = .ok (.aload_n 0, 1) := by decide +kernel
theorem dX10_needLoad_6 : decode cX10_needLoad 6 = .ok (.getfield 24, 3) := by decide +kernel
theorem dX10_needLoad_9 : decode cX10_needLoad 9 = .ok (.getfield 173, 3) := by decide +kernel
theorem dX10_needLoad_12 : decode cX10_needLoad 12 = .ok (.iload_n 1, 1) := by decide +kernel
theorem dX10_needLoad_13 : decode cX10_needLoad 13 = .ok (.iaload, 1) := by decide +kernel
theorem dX10_needLoad_14 : decode cX10_needLoad 14 = .ok (.invokestatic 337, 3) := by decide +kernel
theorem dX10_needLoad_17 : decode cX10_needLoad 17 = .ok (.invokevirtual 448, 3) := by decide +kernel
theorem dX10_needLoad_20 : decode cX10_needLoad 20 = .ok (.ifCond .ne 14, 3) := by decide +kernel
theorem dX10_needLoad_23 : decode cX10_needLoad 23 = .ok (.new 115, 3) := by decide +kernel
theorem dX10_needLoad_26 : decode cX10_needLoad 26 = .ok (.dup, 1) := by decide +kernel
theorem dX10_needLoad_27 : decode cX10_needLoad 27 = .ok (.ldc_w 451, 3) := by decide +kernel
theorem dX10_needLoad_30 : decode cX10_needLoad 30 = .ok (.invokespecial 119, 3) := by decide +kernel
theorem dX10_needLoad_33 : decode cX10_needLoad 33 = .ok (.athrow, 1) := by decide +kernel
theorem dX10_needLoad_34 : decode cX10_needLoad 34 = .ok (.return_, 1) := by decide +kernel
def VX10_needLoad_0 (d : Nat) (Q : Out → MS → Prop) (x0 : Nat) (x1 : Int) (x2 : Int) (S : MS) : Prop :=
  S.K x0 = 10 ∧ ∃ b1, S.R x0 2 = some b1 ∧ (S.K x0 = 10 ∧ ∃ b2, S.R x0 2 = some b2 ∧ (S.K b2 = 7 ∧ ∃ b3, S.R b2 1 = some b3 ∧ ((S.K b3 = 13 ∧ 0 ≤ x1 ∧ x1 < S.N b3) ∧ (Mw hX10_pansOf yX10_pansOf d [vI (S.I b3 (x1).toNat)] S (oI (fun r4 S4 => S4.K b1 = 7 ∧ Mw hX7_isSet yX7_isSet d [vA b1, vI x2, vI r4] S4 (oI (fun r5 S5 => R32 r5 ∧ (¬ (r5 = 0) → Q (.inl none) S5) ∧ ((r5 = 0) → 5 ≤ d ∧ Q (.inr "java/lang/IllegalArgumentException") (S5.junk 6))))))))))
theorem JX10_needLoad_0 {d : Nat} {S0 : MS} {Q : Out → MS → Prop} (x0 : Nat) (x1 : Int) (x2 : Int) (S : MS) (h : VX10_needLoad_0 d Q x0 x1 x2 S) : Jw FinM RX10 cX10_needLoad 3 none [] yX10_needLoad (d + 1) S0 S 0 [(0, vA x0), (1, vI x1), (2, vI x2)] [] Q :=
  j_aload_n 0 dX10_needLoad_0 rfl (j_getR 10 2 f_RX10_24 dX10_needLoad_1 h (fun b1 h => j_iload_n 2 dX10_needLoad_4 rfl (j_aload_n 0 dX10_needLoad_5 rfl (j_getR 10 2 f_RX10_24 dX10_needLoad_6 h (fun b2 h => j_getR 7 1 f_RX10_173 dX10_needLoad_9 h (fun b3 h => j_iload_n 1 dX10_needLoad_12 rfl (j_iald dX10_needLoad_13 h (fun h => j_callS (rest := [vI x2, vA b1]) [vI (S.I b3 (x1).toNat)] k_RX10_337 w_2_83 rfl rfl (Nat.le_of_ble_eq_true rfl) dX10_needLoad_14 h (kI (fun r4 S4 h => j_callV (rest := []) 7 [vI x2, vI r4] k_RX10_448 ⟨w_5_108, w_5_109⟩ ⟨_, _, rfl⟩ (by decide) rfl rfl (Nat.le_of_ble_eq_true rfl) dX10_needLoad_17 h (kI (fun r5 S5 h => j_if_ne (tgt := 34) dX10_needLoad_20 (by decide) h (fun h => j_vret rfl dX10_needLoad_34 h) (fun h => j_throwW t_RX10_115_119 (List.mem_of_getElem? (i := 17) rfl) dX10_needLoad_23 dX10_needLoad_26 dX10_needLoad_27 dX10_needLoad_30 dX10_needLoad_33 (Nat.le_of_ble_eq_true rfl) rfl h))) (fun _ _ h => h.elim))) (fun _ _ h => h.elim)))))))))
theorem MX10_needLoad {d : Nat} {x0 : Nat} {x1 : Int} {x2 : Int} {S : MS} {Q : Out → MS → Prop} (h : VX10_needLoad_0 d Q x0 x1 x2 S) : Mw hX10_needLoad yX10_needLoad (d + 1) [vA x0, vI x1, vI x2] S Q := Mw.ofJ (by decide) (Nat.le_of_ble_eq_true rfl) (JX10_needLoad_0 _ _ _ S h)
theorem dX10_needThree_0 : decode cX10_needThree 0 = .ok (.aload_n 0, 1) := by decide +kernel
theorem dX10_needThree_1 : decode cX10_needThree 1 = .ok (.getfield 24, 3) := by decide +kernel
theorem dX10_needThree_4 : decode cX10_needThree 4 = .ok (.iload_n 1, 1) := by decide +kernel
theorem dX10_needThree_5 : decode cX10_needThree 5 = .ok (.iconst 3, 1) := by decide +kernel
theorem dX10_needThree_6 : decode cX10_needThree 6 = .ok (.invokevirtual 448, 3) := by decide +kernel
theorem dX10_needThree_9 : decode cX10_needThree 9 = .ok (.ifCond .ne 14, 3) := by decide +kernel
theorem dX10_needThree_12 : decode cX10_needThree 12 = .ok (.new 115, 3) := by decide +kernel
theorem dX10_needThree_15 : decode cX10_needThree 15 = .ok (.dup, 1) := by decide +kernel
theorem dX10_needThree_16 : decode cX10_needThree 16 = .ok (.ldc_w 453, 3) := by decide +kernel
theorem dX10_needThree_19 : decode cX10_needThree 19 = .ok (.invokespecial 119, 3) := by decide +kernel
theorem dX10_needThree_22 : decode cX10_needThree 22 = .ok (.athrow, 1) := by decide +kernel
theorem dX10_needThree_23 : decode cX10_needThree 23 = .ok (.return_, 1) := by decide +kernel
def VX10_needThree_0 (d : Nat) (Q : Out → MS → Prop) (x0 : Nat) (x1 : Int) (S : MS) : Prop :=
  S.K x0 = 10 ∧ ∃ b1, S.R x0 2 = some b1 ∧ (S.K b1 = 7 ∧ Mw hX7_isSet yX7_isSet d [vA b1, vI x1, vI 3] S (oI (fun r2 S2 => R32 r2 ∧ (¬ (r2 = 0) → Q (.inl none) S2) ∧ ((r2 = 0) → 5 ≤ d ∧ Q (.inr "java/lang/IllegalArgumentException") (S2.junk 6)))))
theorem JX10_needThree_0 {d : Nat} {S0 : MS} {Q : Out → MS → Prop} (x0 : Nat) (x1 : Int) (S : MS) (h : VX10_needThree_0 d Q x0 x1 S) : Jw FinM RX10 cX10_needThree 2 none [] yX10_needThree (d + 1) S0 S 0 [(0, vA x0), (1, vI x1)] [] Q :=
  j_aload_n 0 dX10_needThree_0 rfl (j_getR 10 2 f_RX10_24 dX10_needThree_1 h (fun b1 h => j_iload_n 1 dX10_needThree_4 rfl (j_iconst dX10_needThree_5 (j_callV (rest := []) 7 [vI x1, vI 3] k_RX10_448 ⟨w_5_108, w_5_109⟩ ⟨_, _, rfl⟩ (by decide) rfl rfl (Nat.le_of_ble_eq_true rfl) dX10_needThree_6 h (kI (fun r2 S2 h => j_if_ne (tgt := 23) dX10_needThree_9 (by decide) h (fun h => j_vret rfl dX10_needThree_23 h) (fun h => j_throwW t_RX10_115_119 (List.mem_of_getElem? (i := 18) rfl) dX10_needThree_12 dX10_needThree_15 dX10_needThree_16 dX10_needThree_19 dX10_needThree_22 (Nat.le_of_ble_eq_true rfl) rfl h))) (fun _ _ h => h.elim)))))
theorem MX10_needThree {d : Nat} {x0 : Nat} {x1 : Int} {S : MS} {Q : Out → MS → Prop} (h : VX10_needThree_0 d Q x0 x1 S) : Mw hX10_needThree yX10_needThree (d + 1) [vA x0, vI x1] S Q := Mw.ofJ (by decide) (Nat.le_of_ble_eq_true rfl) (JX10_needThree_0 _ _ S h)
theorem dX10_toldRow_0 : decode cX10_toldRow 0 = .ok (.aload_n 0, 1) := by decide +kernel
theorem dX10_toldRow_1 : decode cX10_toldRow 1 = .ok (.getfield 20, 3) := by decide +kernel
theorem dX10_toldRow_4 : decode cX10_toldRow 4 = .ok (.aload_n 0, 1) := by decide +kernel
theorem dX10_toldRow_5 : decode cX10_toldRow 5 = .ok (.getfield 20, 3) := by decide +kernel
theorem dX10_toldRow_8 : decode cX10_toldRow 8 = .ok (.invokevirtual 107, 3) := by decide +kernel
theorem dX10_toldRow_11 : decode cX10_toldRow 11 = .ok (.aload_n 0, 1) := by decide +kernel
theorem dX10_toldRow_12 : decode cX10_toldRow 12 = .ok (.getfield 24, 3) := by decide +kernel
theorem dX10_toldRow_15 : decode cX10_toldRow 15 = .ok (.getfield 261, 3) := by decide +kernel
theorem dX10_toldRow_18 : decode cX10_toldRow 18 = .ok (.invokevirtual 455, 3) := by decide +kernel
theorem dX10_toldRow_21 : decode cX10_toldRow 21 = .ok (.istore_n 1, 1) := by decide +kernel
theorem dX10_toldRow_22 : decode cX10_toldRow 22 = .ok (.iload_n 1, 1) := by decide +kernel
theorem dX10_toldRow_23 : decode cX10_toldRow 23 = .ok (.iconst (-1), 1) := by decide +kernel
theorem dX10_toldRow_24 : decode cX10_toldRow 24 = .ok (.if_icmp .ne 14, 3) := by decide +kernel
theorem dX10_toldRow_27 : decode cX10_toldRow 27 = .ok (.new 115, 3) := by decide +kernel
theorem dX10_toldRow_30 : decode cX10_toldRow 30 = .ok (.dup, 1) := by decide +kernel
theorem dX10_toldRow_31 : decode cX10_toldRow 31 = .ok (.ldc_w 458, 3) := by decide +kernel
theorem dX10_toldRow_34 : decode cX10_toldRow 34 = .ok (.invokespecial 119, 3) := by decide +kernel
theorem dX10_toldRow_37 : decode cX10_toldRow 37 = .ok (.athrow, 1) := by decide +kernel
theorem dX10_toldRow_38 : decode cX10_toldRow 38 = .ok (.iload_n 1, 1) := by decide +kernel
theorem dX10_toldRow_39 : decode cX10_toldRow 39 = .ok (.ireturn, 1) := by decide +kernel
def VX10_toldRow_0 (d : Nat) (Q : Out → MS → Prop) (x0 : Nat) (S : MS) : Prop :=
  S.K x0 = 10 ∧ ∃ b1, S.R x0 1 = some b1 ∧ (S.K x0 = 10 ∧ ∃ b2, S.R x0 1 = some b2 ∧ (S.K b2 = 8 ∧ Mw hX8_useUp yX8_useUp d [vA b2] S (oI (fun r3 S3 => S3.K x0 = 10 ∧ ∃ b4, S3.R x0 2 = some b4 ∧ (S3.K b4 = 7 ∧ (S3.K b1 = 8 ∧ Mw hX8_packedRow yX8_packedRow d [vA b1, vI r3, vI (S3.I b4 7)] S3 (oI (fun r5 S5 => (R32 r5 ∧ R32 ((-1) : Int)) ∧ (¬ (r5 = ((-1) : Int)) → Q (.inl (some (vI r5))) S5) ∧ ((r5 = ((-1) : Int)) → 5 ≤ d ∧ Q (.inr "java/lang/IllegalArgumentException") (S5.junk 6))))))))))
theorem JX10_toldRow_0 {d : Nat} {S0 : MS} {Q : Out → MS → Prop} (x0 : Nat) (S : MS) (h : VX10_toldRow_0 d Q x0 S) : Jw FinM RX10 cX10_toldRow 2 (some .int) [] yX10_toldRow (d + 1) S0 S 0 [(0, vA x0)] [] Q :=
  j_aload_n 0 dX10_toldRow_0 rfl (j_getR 10 1 f_RX10_20 dX10_toldRow_1 h (fun b1 h => j_aload_n 0 dX10_toldRow_4 rfl (j_getR 10 1 f_RX10_20 dX10_toldRow_5 h (fun b2 h => j_callV (rest := [vA b1]) 8 [] k_RX10_107 ⟨w_4_36, w_4_37⟩ ⟨_, _, rfl⟩ (by decide) rfl rfl (Nat.le_of_ble_eq_true rfl) dX10_toldRow_8 h (kI (fun r3 S3 h => j_aload_n 0 dX10_toldRow_11 rfl (j_getR 10 2 f_RX10_24 dX10_toldRow_12 h (fun b4 h => j_getI 7 7 f_RX10_261 dX10_toldRow_15 h (fun h => j_callV (rest := []) 8 [vI r3, vI (S3.I b4 7)] k_RX10_455 ⟨w_5_187, w_5_188⟩ ⟨_, _, rfl⟩ (by decide) rfl rfl (Nat.le_of_ble_eq_true rfl) dX10_toldRow_18 h (kI (fun r5 S5 h => j_istore_n (lv2 := [(1, vI r5), (0, vA x0)]) dX10_toldRow_21 (by decide) rfl (j_iload_n 0 dX10_toldRow_22 rfl (j_iconst dX10_toldRow_23 (j_icmp_ne (tgt := 38) dX10_toldRow_24 (by decide) h (fun h => j_iload_n 0 dX10_toldRow_38 rfl (j_iret rfl dX10_toldRow_39 h)) (fun h => j_throwW t_RX10_115_119 (List.mem_of_getElem? (i := 19) rfl) dX10_toldRow_27 dX10_toldRow_30 dX10_toldRow_31 dX10_toldRow_34 dX10_toldRow_37 (Nat.le_of_ble_eq_true rfl) rfl h)))))) (fun _ _ h => h.elim)))))) (fun _ _ h => h.elim)))))
theorem MX10_toldRow {d : Nat} {x0 : Nat} {S : MS} {Q : Out → MS → Prop} (h : VX10_toldRow_0 d Q x0 S) : Mw hX10_toldRow yX10_toldRow (d + 1) [vA x0] S Q := Mw.ofJ (by decide) (Nat.le_of_ble_eq_true rfl) (JX10_toldRow_0 _ S h)
theorem dX10_allRows_0 : decode cX10_allRows 0 = .ok (.iconst 0, 1) := by decide +kernel
theorem dX10_allRows_1 : decode cX10_allRows 1 = .ok (.aload_n 0, 1) := by decide +kernel
theorem dX10_allRows_2 : decode cX10_allRows 2 = .ok (.getfield 33, 3) := by decide +kernel
theorem dX10_allRows_5 : decode cX10_allRows 5 = .ok (.arraylength, 1) := by decide +kernel
theorem dX10_allRows_6 : decode cX10_allRows 6 = .ok (.iconst 1, 1) := by decide +kernel
theorem dX10_allRows_7 : decode cX10_allRows 7 = .ok (.isub, 1) := by decide +kernel
theorem dX10_allRows_8 : decode cX10_allRows 8 = .ok (.aload_n 0, 1) := by decide +kernel
theorem dX10_allRows_9 : decode cX10_allRows 9 = .ok (.getfield 24, 3) := by decide +kernel
theorem dX10_allRows_12 : decode cX10_allRows 12 = .ok (.getfield 261, 3) := by decide +kernel
theorem dX10_allRows_15 : decode cX10_allRows 15 = .ok (.iconst 3, 1) := by decide +kernel
theorem dX10_allRows_16 : decode cX10_allRows 16 = .ok (.isub, 1) := by decide +kernel
theorem dX10_allRows_17 : decode cX10_allRows 17 = .ok (.invokestatic 363, 3) := by decide +kernel
theorem dX10_allRows_20 : decode cX10_allRows 20 = .ok (.invokestatic 460, 3) := by decide +kernel
theorem dX10_allRows_23 : decode cX10_allRows 23 = .ok (.istore_n 1, 1) := by decide +kernel
theorem dX10_allRows_24 : decode cX10_allRows 24 = .ok (.aload_n 0, 1) := by decide +kernel
theorem dX10_allRows_25 : decode cX10_allRows 25 = .ok (.getfield 33, 3) := by decide +kernel
theorem dX10_allRows_28 : decode cX10_allRows 28 = .ok (.iload_n 1, 1) := by decide +kernel
theorem dX10_allRows_29 : decode cX10_allRows 29 = .ok (.aaload, 1) := by decide +kernel
theorem dX10_allRows_30 : decode cX10_allRows 30 = .ok (.astore_n 2, 1) := by decide +kernel
theorem dX10_allRows_31 : decode cX10_allRows 31 = .ok (.aload_n 2, 1) := by decide +kernel
theorem dX10_allRows_32 : decode cX10_allRows 32 = .ok (.ifnonnull 25, 3) := by decide +kernel
theorem dX10_allRows_35 : decode cX10_allRows 35 = .ok (.new 31, 3) := by decide +kernel
theorem dX10_allRows_38 : decode cX10_allRows 38 = .ok (.dup, 1) := by decide +kernel
theorem dX10_allRows_39 : decode cX10_allRows 39 = .ok (.iload_n 1, 1) := by decide +kernel
theorem dX10_allRows_40 : decode cX10_allRows 40 = .ok (.iconst 3, 1) := by decide +kernel
theorem dX10_allRows_41 : decode cX10_allRows 41 = .ok (.iadd, 1) := by decide +kernel
theorem dX10_allRows_42 : decode cX10_allRows 42 = .ok (.invokespecial 463, 3) := by decide +kernel
theorem dX10_allRows_45 : decode cX10_allRows 45 = .ok (.astore_n 2, 1) := by decide +kernel
theorem dX10_allRows_46 : decode cX10_allRows 46 = .ok (.aload_n 2, 1) := by decide +kernel
theorem dX10_allRows_47 : decode cX10_allRows 47 = .ok (.invokevirtual 465, 3) := by decide +kernel
theorem dX10_allRows_50 : decode cX10_allRows 50 = .ok (.aload_n 0, 1) := by decide +kernel
theorem dX10_allRows_51 : decode cX10_allRows 51 = .ok (.getfield 33, 3) := by decide +kernel
theorem dX10_allRows_54 : decode cX10_allRows 54 = .ok (.iload_n 1, 1) := by decide +kernel
theorem dX10_allRows_55 : decode cX10_allRows 55 = .ok (.aload_n 2, 1) := by decide +kernel
theorem dX10_allRows_56 : decode cX10_allRows 56 = .ok (.aastore, 1) := by decide +kernel
theorem dX10_allRows_57 : decode cX10_allRows 57 = .ok (.aload_n 2, 1) := by decide +kernel
theorem dX10_allRows_58 : decode cX10_allRows 58 = .ok (.areturn, 1) := by decide +kernel
def VX10_allRows_57 (d : Nat) (Q : Out → MS → Prop) (x2 : Nat) (S : MS) : Prop :=
  Q (.inl (some (vA x2))) S
theorem JX10_allRows_57 {d : Nat} {S0 : MS} {Q : Out → MS → Prop} (x2 : Nat) (S : MS) (h : VX10_allRows_57 d Q x2 S) : Jw FinM RX10 cX10_allRows 3 (some (.object "MiddleScale$AllRows")) [] yX10_allRows (d + 1) S0 S 57 [(2, vA x2)] [] Q :=
  j_aload_n 0 dX10_allRows_57 rfl (j_aret rfl (by first | exact Or.inl ⟨_, rfl⟩ | exact Or.inr ⟨_, rfl⟩) dX10_allRows_58 h)
def VX10_allRows_0 (d : Nat) (Q : Out → MS → Prop) (x0 : Nat) (S : MS) : Prop :=
  S.K x0 = 10 ∧ ∃ b1, S.R x0 4 = some b1 ∧ ((12 ≤ S.K b1 ∧ S.K b1 < 21) ∧ (S.K x0 = 10 ∧ ∃ b2, S.R x0 2 = some b2 ∧ (S.K b2 = 7 ∧ ((R32 (((S.N b1 : Int)) - 1) ∧ R32 ((S.I b2 7) - 3)) ∧ ((R32 (0 : Int) ∧ R32 (min (((S.N b1 : Int)) - 1) ((S.I b2 7) - 3))) ∧ (S.K x0 = 10 ∧ ∃ b3, S.R x0 4 = some b3 ∧ ((S.K b3 = 17 ∧ (17 ≤ 17 ∧ 17 < 21) ∧ 0 ≤ (max (0 : Int) (min (((S.N b1 : Int)) - 1) ((S.I b2 7) - 3))) ∧ (max (0 : Int) (min (((S.N b1 : Int)) - 1) ((S.I b2 7) - 3))) < S.N b3) ∧ (S.R b3 ((max (0 : Int) (min (((S.N b1 : Int)) - 1) ((S.I b2 7) - 3)))).toNat = none → Mw hX0_init yX0_init d [vA S.nx, vI ((max (0 : Int) (min (((S.N b1 : Int)) - 1) ((S.I b2 7) - 3))) + 3)] (S.mk 0 9) (oV (fun S5 => S5.K S.nx = 0 ∧ Mw hX0_fill yX0_fill d [vA S.nx] S5 (oV (fun S6 => S6.K x0 = 10 ∧ ∃ b7, S6.R x0 4 = some b7 ∧ ((S6.K b7 = 17 ∧ S6.K S.nx = 0 ∧ 0 ≤ (max (0 : Int) (min (((S.N b1 : Int)) - 1) ((S.I b2 7) - 3))) ∧ (max (0 : Int) (min (((S.N b1 : Int)) - 1) ((S.I b2 7) - 3))) < S6.N b7) ∧ (∀ S8 : MS, S8 = S6.setR b7 ((max (0 : Int) (min (((S.N b1 : Int)) - 1) ((S.I b2 7) - 3)))).toNat (some S.nx) → VX10_allRows_57 d Q S.nx S8))))))) ∧ (∀ b4, S.R b3 ((max (0 : Int) (min (((S.N b1 : Int)) - 1) ((S.I b2 7) - 3)))).toNat = some b4 → VX10_allRows_57 d Q b4 S))))))))
theorem JX10_allRows_0 {d : Nat} {S0 : MS} {Q : Out → MS → Prop} (x0 : Nat) (S : MS) (h : VX10_allRows_0 d Q x0 S) : Jw FinM RX10 cX10_allRows 3 (some (.object "MiddleScale$AllRows")) [] yX10_allRows (d + 1) S0 S 0 [(0, vA x0)] [] Q :=
  j_iconst dX10_allRows_0 (j_aload_n 0 dX10_allRows_1 rfl (j_getR 10 4 f_RX10_33 dX10_allRows_2 h (fun b1 h => j_alen dX10_allRows_5 h (fun h => j_iconst dX10_allRows_6 (j_isub dX10_allRows_7 (j_aload_n 0 dX10_allRows_8 rfl (j_getR 10 2 f_RX10_24 dX10_allRows_9 h (fun b2 h => j_getI 7 7 f_RX10_261 dX10_allRows_12 h (fun h => j_iconst dX10_allRows_15 (j_isub dX10_allRows_16 (j_mmin w_2_63 w_2_64 w_1_16 w_mmin (Nat.le_of_ble_eq_true rfl) dX10_allRows_17 h (fun h => j_mmax w_2_66 w_2_67 w_1_16 w_mmax (Nat.le_of_ble_eq_true rfl) dX10_allRows_20 h (fun h => j_istore_n (lv2 := [(1, vI (max (0 : Int) (min (((S.N b1 : Int)) - 1) ((S.I b2 7) - 3)))), (0, vA x0)]) dX10_allRows_23 (by decide) rfl (j_aload_n 1 dX10_allRows_24 rfl (j_getR 10 4 f_RX10_33 dX10_allRows_25 h (fun b3 h => j_iload_n 0 dX10_allRows_28 rfl (j_aaldO 17 dX10_allRows_29 h (fun h => j_astoreN_n (lv2 := [(2, Value.null), (1, vI (max (0 : Int) (min (((S.N b1 : Int)) - 1) ((S.I b2 7) - 3)))), (0, vA x0)]) dX10_allRows_30 (by decide) rfl (j_aloadN_n 0 dX10_allRows_31 rfl (j_ifnonnullN dX10_allRows_32 (j_new 0 n_RX10_31 dX10_allRows_35 (j_dup rfl dX10_allRows_38 (j_iload_n 1 dX10_allRows_39 rfl (j_iconst dX10_allRows_40 (j_iadd dX10_allRows_41 (j_callI (rest := [vA S.nx]) [vI ((max (0 : Int) (min (((S.N b1 : Int)) - 1) ((S.I b2 7) - 3))) + 3)] k_RX10_463 rfl w_2_71 rfl rfl (Nat.le_of_ble_eq_true rfl) dX10_allRows_42 h (kV (fun S5 h => j_astore_n (lv2 := [(2, vA S.nx), (1, vI (max (0 : Int) (min (((S.N b1 : Int)) - 1) ((S.I b2 7) - 3)))), (0, vA x0)]) dX10_allRows_45 (by decide) rfl (j_aload_n 0 dX10_allRows_46 rfl (j_callV (rest := []) 0 [] k_RX10_465 ⟨w_2_158, w_2_159⟩ ⟨_, _, rfl⟩ (by decide) rfl rfl (Nat.le_of_ble_eq_true rfl) dX10_allRows_47 h (kV (fun S6 h => j_aload_n 2 dX10_allRows_50 rfl (j_getR 10 4 f_RX10_33 dX10_allRows_51 h (fun b7 h => j_iload_n 1 dX10_allRows_54 rfl (j_aload_n 0 dX10_allRows_55 rfl (j_aast 17 0 ⟨_, _, _, rfl, rfl⟩ (by decide) (by decide) dX10_allRows_56 h (fun h => j_bind h (fun S8 h => j_sub [0] rfl (JX10_allRows_57 _ _ h))))))))) (fun _ _ h => h.elim)))))))))))))) (fun b4 h => j_astore_n (lv2 := [(2, vA b4), (1, vI (max (0 : Int) (min (((S.N b1 : Int)) - 1) ((S.I b2 7) - 3)))), (0, vA x0)]) dX10_allRows_30 (by decide) rfl (j_aload_n 0 dX10_allRows_31 rfl (j_ifnonnull (tgt := 57) dX10_allRows_32 (by decide) (j_sub [0] rfl (JX10_allRows_57 _ _ h))))))))))))))))))))))
theorem MX10_allRows {d : Nat} {x0 : Nat} {S : MS} {Q : Out → MS → Prop} (h : VX10_allRows_0 d Q x0 S) : Mw hX10_allRows yX10_allRows (d + 1) [vA x0] S Q := Mw.ofJ (by decide) (Nat.le_of_ble_eq_true rfl) (JX10_allRows_0 _ S h)
theorem dX10_layingsOf_0 : decode cX10_layingsOf 0 = .ok (.aload_n 0, 1) := by decide +kernel
theorem dX10_layingsOf_1 : decode cX10_layingsOf 1 = .ok (.invokevirtual 229, 3) := by decide +kernel
theorem dX10_layingsOf_4 : decode cX10_layingsOf 4 = .ok (.aload_n 0, 1) := by decide +kernel
theorem dX10_layingsOf_5 : decode cX10_layingsOf 5 = .ok (.getfield 24, 3) := by decide +kernel
theorem dX10_layingsOf_8 : decode cX10_layingsOf 8 = .ok (.getfield 173, 3) := by decide +kernel
theorem dX10_layingsOf_11 : decode cX10_layingsOf 11 = .ok (.iload_n 1, 1) := by decide +kernel
theorem dX10_layingsOf_12 : decode cX10_layingsOf 12 = .ok (.iaload, 1) := by decide +kernel
theorem dX10_layingsOf_13 : decode cX10_layingsOf 13 = .ok (.invokevirtual 390, 3) := by decide +kernel
theorem dX10_layingsOf_16 : decode cX10_layingsOf 16 = .ok (.areturn, 1) := by decide +kernel
def VX10_layingsOf_0 (d : Nat) (Q : Out → MS → Prop) (x0 : Nat) (x1 : Int) (S : MS) : Prop :=
  S.K x0 = 10 ∧ Mw hX10_allRows yX10_allRows d [vA x0] S (oA (fun r1 S1 => S1.K x0 = 10 ∧ ∃ b2, S1.R x0 2 = some b2 ∧ (S1.K b2 = 7 ∧ ∃ b3, S1.R b2 1 = some b3 ∧ ((S1.K b3 = 13 ∧ 0 ≤ x1 ∧ x1 < S1.N b3) ∧ (S1.K r1 = 0 ∧ Mw hX0_layings yX0_layings d [vA r1, vI (S1.I b3 (x1).toNat)] S1 (oA (fun r4 S4 => Q (.inl (some (vA r4))) S4)))))))
theorem JX10_layingsOf_0 {d : Nat} {S0 : MS} {Q : Out → MS → Prop} (x0 : Nat) (x1 : Int) (S : MS) (h : VX10_layingsOf_0 d Q x0 x1 S) : Jw FinM RX10 cX10_layingsOf 2 (some (.object "MiddleScale$Layings")) [] yX10_layingsOf (d + 1) S0 S 0 [(0, vA x0), (1, vI x1)] [] Q :=
  j_aload_n 0 dX10_layingsOf_0 rfl (j_callV (rest := []) 10 [] k_RX10_229 ⟨w_2_61, p_1_1⟩ ⟨_, _, rfl⟩ (by decide) rfl rfl (Nat.le_of_ble_eq_true rfl) dX10_layingsOf_1 h (kA (fun r1 S1 h => j_aload_n 0 dX10_layingsOf_4 rfl (j_getR 10 2 f_RX10_24 dX10_layingsOf_5 h (fun b2 h => j_getR 7 1 f_RX10_173 dX10_layingsOf_8 h (fun b3 h => j_iload_n 1 dX10_layingsOf_11 rfl (j_iald dX10_layingsOf_12 h (fun h => j_callV (rest := []) 0 [vI (S1.I b3 (x1).toNat)] k_RX10_390 ⟨w_2_219, w_2_220⟩ ⟨_, _, rfl⟩ (by decide) rfl rfl (Nat.le_of_ble_eq_true rfl) dX10_layingsOf_13 h (kA (fun r4 S4 h => j_aret rfl (by first | exact Or.inl ⟨_, rfl⟩ | exact Or.inr ⟨_, rfl⟩) dX10_layingsOf_16 h)) (fun _ _ h => h.elim)))))))) (fun _ _ h => h.elim))
theorem MX10_layingsOf {d : Nat} {x0 : Nat} {x1 : Int} {S : MS} {Q : Out → MS → Prop} (h : VX10_layingsOf_0 d Q x0 x1 S) : Mw hX10_layingsOf yX10_layingsOf (d + 1) [vA x0, vI x1] S Q := Mw.ofJ (by decide) (Nat.le_of_ble_eq_true rfl) (JX10_layingsOf_0 _ _ S h)
theorem dX10_rowsLeft_0 : decode cX10_rowsLeft 0 = .ok (.aload_n 0, 1) := by decide +kernel
theorem dX10_rowsLeft_1 : decode cX10_rowsLeft 1 = .ok (.getfield 80, 3) := by decide +kernel
theorem dX10_rowsLeft_4 : decode cX10_rowsLeft 4 = .ok (.ifCond .ne 52, 3) := by decide +kernel
theorem dX10_rowsLeft_7 : decode cX10_rowsLeft 7 = .ok (.aload_n 0, 1) := by decide +kernel
theorem dX10_rowsLeft_8 : decode cX10_rowsLeft 8 = .ok (.getfield 40, 3) := by decide +kernel
theorem dX10_rowsLeft_11 : decode cX10_rowsLeft 11 = .ok (.aload_n 0, 1) := by decide +kernel
theorem dX10_rowsLeft_12 : decode cX10_rowsLeft 12 = .ok (.getfield 24, 3) := by decide +kernel
theorem dX10_rowsLeft_15 : decode cX10_rowsLeft 15 = .ok (.aload_n 0, 1) := by decide +kernel
theorem dX10_rowsLeft_16 : decode cX10_rowsLeft 16 = .ok (.invokevirtual 229, 3) := by decide +kernel
theorem dX10_rowsLeft_19 : decode cX10_rowsLeft 19 = .ok (.invokevirtual 283, 3) := by decide +kernel
theorem dX10_rowsLeft_22 : decode cX10_rowsLeft 22 = .ok (.aload_n 0, 1) := by decide +kernel
theorem dX10_rowsLeft_23 : decode cX10_rowsLeft 23 = .ok (.getfield 40, 3) := by decide +kernel
theorem dX10_rowsLeft_26 : decode cX10_rowsLeft 26 = .ok (.aload_n 0, 1) := by decide +kernel
theorem dX10_rowsLeft_27 : decode cX10_rowsLeft 27 = .ok (.getfield 24, 3) := by decide +kernel
theorem dX10_rowsLeft_30 : decode cX10_rowsLeft 30 = .ok (.aload_n 0, 1) := by decide +kernel
theorem dX10_rowsLeft_31 : decode cX10_rowsLeft 31 = .ok (.invokevirtual 229, 3) := by decide +kernel
theorem dX10_rowsLeft_34 : decode cX10_rowsLeft 34 = .ok (.iconst (-1), 1) := by decide +kernel
theorem dX10_rowsLeft_35 : decode cX10_rowsLeft 35 = .ok (.aload_n 0, 1) := by decide +kernel
theorem dX10_rowsLeft_36 : decode cX10_rowsLeft 36 = .ok (.getfield 47, 3) := by decide +kernel
theorem dX10_rowsLeft_39 : decode cX10_rowsLeft 39 = .ok (.invokevirtual 468, 3) := by decide +kernel
theorem dX10_rowsLeft_42 : decode cX10_rowsLeft 42 = .ok (.aload_n 0, 1) := by decide +kernel
theorem dX10_rowsLeft_43 : decode cX10_rowsLeft 43 = .ok (.getfield 76, 3) := by decide +kernel
theorem dX10_rowsLeft_46 : decode cX10_rowsLeft 46 = .ok (.bipush (-3), 2) := by decide +kernel
theorem dX10_rowsLeft_48 : decode cX10_rowsLeft 48 = .ok (.invokestatic 472, 3) := by decide +kernel
theorem dX10_rowsLeft_51 : decode cX10_rowsLeft 51 = .ok (.aload_n 0, 1) := by decide +kernel
theorem dX10_rowsLeft_52 : decode cX10_rowsLeft 52 = .ok (.iconst 1, 1) := by decide +kernel
theorem dX10_rowsLeft_53 : decode cX10_rowsLeft 53 = .ok (.putfield 80, 3) := by decide +kernel
theorem dX10_rowsLeft_56 : decode cX10_rowsLeft 56 = .ok (.aload_n 0, 1) := by decide +kernel
theorem dX10_rowsLeft_57 : decode cX10_rowsLeft 57 = .ok (.getfield 47, 3) := by decide +kernel
theorem dX10_rowsLeft_60 : decode cX10_rowsLeft 60 = .ok (.areturn, 1) := by decide +kernel
def VX10_rowsLeft_56 (d : Nat) (Q : Out → MS → Prop) (x0 : Nat) (S : MS) : Prop :=
  S.K x0 = 10 ∧ ∃ b1, S.R x0 6 = some b1 ∧ (Q (.inl (some (vA b1))) S)
theorem JX10_rowsLeft_56 {d : Nat} {S0 : MS} {Q : Out → MS → Prop} (x0 : Nat) (S : MS) (h : VX10_rowsLeft_56 d Q x0 S) : Jw FinM RX10 cX10_rowsLeft 1 (some (.object "MiddleScale$RowSet")) [] yX10_rowsLeft (d + 1) S0 S 56 [(0, vA x0)] [] Q :=
  j_aload_n 0 dX10_rowsLeft_56 rfl (j_getR 10 6 f_RX10_47 dX10_rowsLeft_57 h (fun b1 h => j_aret rfl (by first | exact Or.inl ⟨_, rfl⟩ | exact Or.inr ⟨_, rfl⟩) dX10_rowsLeft_60 h))
def VX10_rowsLeft_0 (d : Nat) (Q : Out → MS → Prop) (x0 : Nat) (S : MS) : Prop :=
  S.K x0 = 10 ∧ (R32 (S.I x0 12) ∧ (¬ ((S.I x0 12) = 0) → VX10_rowsLeft_56 d Q x0 S) ∧ (((S.I x0 12) = 0) → S.K x0 = 10 ∧ ∃ b1, S.R x0 5 = some b1 ∧ (S.K x0 = 10 ∧ ∃ b2, S.R x0 2 = some b2 ∧ (S.K x0 = 10 ∧ Mw hX10_allRows yX10_allRows d [vA x0] S (oA (fun r3 S3 => S3.K b1 = 1 ∧ Mw hX1_aim yX1_aim d [vA b1, vA b2, vA r3] S3 (oV (fun S4 => S4.K x0 = 10 ∧ ∃ b5, S4.R x0 5 = some b5 ∧ (S4.K x0 = 10 ∧ ∃ b6, S4.R x0 2 = some b6 ∧ (S4.K x0 = 10 ∧ Mw hX10_allRows yX10_allRows d [vA x0] S4 (oA (fun r7 S7 => S7.K x0 = 10 ∧ ∃ b8, S7.R x0 6 = some b8 ∧ (S7.K b5 = 1 ∧ Mw hX1_fit yX1_fit d [vA b5, vA b6, vA r7, vI ((-1)), vA b8] S7 (oV (fun S9 => S9.K x0 = 10 ∧ ∃ b10, S9.R x0 11 = some b10 ∧ (Mw hJ7_fill_53178 yJ7_fill_53178 d [vA b10, vI ((-3))] S9 (oV (fun S11 => (S11.K x0 = 10 ∧ B01 1) ∧ (VX10_rowsLeft_56 d Q x0 (S11.setI x0 12 1))))))))))))))))))))
theorem JX10_rowsLeft_0 {d : Nat} {S0 : MS} {Q : Out → MS → Prop} (x0 : Nat) (S : MS) (h : VX10_rowsLeft_0 d Q x0 S) : Jw FinM RX10 cX10_rowsLeft 1 (some (.object "MiddleScale$RowSet")) [] yX10_rowsLeft (d + 1) S0 S 0 [(0, vA x0)] [] Q :=
  j_aload_n 0 dX10_rowsLeft_0 rfl (j_getI 10 12 f_RX10_80 dX10_rowsLeft_1 h (fun h => j_if_ne (tgt := 56) dX10_rowsLeft_4 (by decide) h (fun h => JX10_rowsLeft_56 _ _ h) (fun h => j_aload_n 0 dX10_rowsLeft_7 rfl (j_getR 10 5 f_RX10_40 dX10_rowsLeft_8 h (fun b1 h => j_aload_n 0 dX10_rowsLeft_11 rfl (j_getR 10 2 f_RX10_24 dX10_rowsLeft_12 h (fun b2 h => j_aload_n 0 dX10_rowsLeft_15 rfl (j_callV (rest := [vA b2, vA b1]) 10 [] k_RX10_229 ⟨w_2_61, p_1_1⟩ ⟨_, _, rfl⟩ (by decide) rfl rfl (Nat.le_of_ble_eq_true rfl) dX10_rowsLeft_16 h (kA (fun r3 S3 h => j_callV (rest := []) 1 [vA b2, vA r3] k_RX10_283 ⟨w_2_207, w_2_208⟩ ⟨_, _, rfl⟩ (by decide) rfl rfl (Nat.le_of_ble_eq_true rfl) dX10_rowsLeft_19 h (kV (fun S4 h => j_aload_n 0 dX10_rowsLeft_22 rfl (j_getR 10 5 f_RX10_40 dX10_rowsLeft_23 h (fun b5 h => j_aload_n 0 dX10_rowsLeft_26 rfl (j_getR 10 2 f_RX10_24 dX10_rowsLeft_27 h (fun b6 h => j_aload_n 0 dX10_rowsLeft_30 rfl (j_callV (rest := [vA b6, vA b5]) 10 [] k_RX10_229 ⟨w_2_61, p_1_1⟩ ⟨_, _, rfl⟩ (by decide) rfl rfl (Nat.le_of_ble_eq_true rfl) dX10_rowsLeft_31 h (kA (fun r7 S7 h => j_iconst dX10_rowsLeft_34 (j_aload_n 0 dX10_rowsLeft_35 rfl (j_getR 10 6 f_RX10_47 dX10_rowsLeft_36 h (fun b8 h => j_callV (rest := []) 1 [vA b6, vA r7, vI ((-1)), vA b8] k_RX10_468 ⟨w_2_237, w_2_238⟩ ⟨_, _, rfl⟩ (by decide) rfl rfl (Nat.le_of_ble_eq_true rfl) dX10_rowsLeft_39 h (kV (fun S9 h => j_aload_n 0 dX10_rowsLeft_42 rfl (j_getR 10 11 f_RX10_76 dX10_rowsLeft_43 h (fun b10 h => j_bipush dX10_rowsLeft_46 rfl (j_callS (rest := []) [vA b10, vI ((-3))] k_RX10_472 w_2_181 rfl rfl (Nat.le_of_ble_eq_true rfl) dX10_rowsLeft_48 h (kV (fun S11 h => j_aload_n 0 dX10_rowsLeft_51 rfl (j_iconst dX10_rowsLeft_52 (j_putZ 10 12 f_RX10_80 dX10_rowsLeft_53 h (fun h => JX10_rowsLeft_56 _ _ h))))) (fun _ _ h => h.elim)))))) (fun _ _ h => h.elim)))))) (fun _ _ h => h.elim)))))))) (fun _ _ h => h.elim))) (fun _ _ h => h.elim)))))))))
theorem MX10_rowsLeft {d : Nat} {x0 : Nat} {S : MS} {Q : Out → MS → Prop} (h : VX10_rowsLeft_0 d Q x0 S) : Mw hX10_rowsLeft yX10_rowsLeft (d + 1) [vA x0] S Q := Mw.ofJ (by decide) (Nat.le_of_ble_eq_true rfl) (JX10_rowsLeft_0 _ S h)
theorem dX10_rowsHeavier_0 : decode cX10_rowsHeavier 0 = .ok (.aload_n 0, 1) := by decide +kernel
theorem dX10_rowsHeavier_1 : decode cX10_rowsHeavier 1 = .ok (.iload_n 1, 1) := by decide +kernel
theorem dX10_rowsHeavier_2 : decode cX10_rowsHeavier 2 = .ok (.invokevirtual 158, 3) := by decide +kernel
theorem dX10_rowsHeavier_5 : decode cX10_rowsHeavier 5 = .ok (.aload_n 0, 1) := by decide +kernel
theorem dX10_rowsHeavier_6 : decode cX10_rowsHeavier 6 = .ok (.iload_n 2, 1) := by decide +kernel
theorem dX10_rowsHeavier_7 : decode cX10_rowsHeavier 7 = .ok (.invokevirtual 158, 3) := by decide +kernel
theorem dX10_rowsHeavier_10 : decode cX10_rowsHeavier 10 = .ok (.iload_n 1, 1) := by decide +kernel
theorem dX10_rowsHeavier_11 : decode cX10_rowsHeavier 11 = .ok (.iload_n 2, 1) := by decide +kernel
theorem dX10_rowsHeavier_12 : decode cX10_rowsHeavier 12 = .ok (.if_icmp .ne 14, 3) := by decide +kernel
theorem dX10_rowsHeavier_15 : decode cX10_rowsHeavier 15 = .ok (.new 115, 3) := by decide +kernel
theorem dX10_rowsHeavier_18 : decode cX10_rowsHeavier 18 = .ok (.dup, 1) := by decide +kernel
theorem dX10_rowsHeavier_19 : decode cX10_rowsHeavier 19 = .ok (.ldc_w 477, 3) := by decide +kernel
theorem dX10_rowsHeavier_22 : decode cX10_rowsHeavier 22 = .ok (.invokespecial 119, 3) := by decide +kernel
theorem dX10_rowsHeavier_25 : decode cX10_rowsHeavier 25 = .ok (.athrow, 1) := by decide +kernel
theorem dX10_rowsHeavier_26 : decode cX10_rowsHeavier 26 = .ok (.aload_n 0, 1) := by decide +kernel
theorem dX10_rowsHeavier_27 : decode cX10_rowsHeavier 27 = .ok (.invokevirtual 214, 3) := by decide +kernel
theorem dX10_rowsHeavier_30 : decode cX10_rowsHeavier 30 = .ok (.aload_n 0, 1) := by decide +kernel
theorem dX10_rowsHeavier_31 : decode cX10_rowsHeavier 31 = .ok (.invokevirtual 229, 3) := by decide +kernel
theorem dX10_rowsHeavier_34 : decode cX10_rowsHeavier 34 = .ok (.iload_n 1, 1) := by decide +kernel
theorem dX10_rowsHeavier_35 : decode cX10_rowsHeavier 35 = .ok (.iload_n 2, 1) := by decide +kernel
theorem dX10_rowsHeavier_36 : decode cX10_rowsHeavier 36 = .ok (.invokevirtual 479, 3) := by decide +kernel
theorem dX10_rowsHeavier_39 : decode cX10_rowsHeavier 39 = .ok (.invokevirtual 426, 3) := by decide +kernel
theorem dX10_rowsHeavier_42 : decode cX10_rowsHeavier 42 = .ok (.ireturn, 1) := by decide +kernel
def VX10_rowsHeavier_0 (d : Nat) (Q : Out → MS → Prop) (x0 : Nat) (x1 : Int) (x2 : Int) (S : MS) : Prop :=
  S.K x0 = 10 ∧ Mw hX10_needThing yX10_needThing d [vA x0, vI x1] S (xV (fun S1 => S1.K x0 = 10 ∧ Mw hX10_needThing yX10_needThing d [vA x0, vI x2] S1 (xV (fun S2 => (R32 x1 ∧ R32 x2) ∧ (¬ (x1 = x2) → S2.K x0 = 10 ∧ Mw hX10_rowsLeft yX10_rowsLeft d [vA x0] S2 (oA (fun r3 S3 => S3.K x0 = 10 ∧ Mw hX10_allRows yX10_allRows d [vA x0] S3 (oA (fun r4 S4 => S4.K r4 = 0 ∧ Mw hX0_heavierThan yX0_heavierThan d [vA r4, vI x1, vI x2] S4 (oA (fun r5 S5 => S5.K r3 = 5 ∧ Mw hX5_shared yX5_shared d [vA r3, vA r5] S5 (oI (fun r6 S6 => Q (.inl (some (vI r6))) S6))))))))) ∧ ((x1 = x2) → 5 ≤ d ∧ Q (.inr "java/lang/IllegalArgumentException") (S2.junk 6))) (fun E S9 => Q (.inr E) S9))) (fun E S9 => Q (.inr E) S9))
theorem JX10_rowsHeavier_0 {d : Nat} {S0 : MS} {Q : Out → MS → Prop} (x0 : Nat) (x1 : Int) (x2 : Int) (S : MS) (h : VX10_rowsHeavier_0 d Q x0 x1 x2 S) : Jw FinM RX10 cX10_rowsHeavier 3 (some .int) [] yX10_rowsHeavier (d + 1) S0 S 0 [(0, vA x0), (1, vI x1), (2, vI x2)] [] Q :=
  j_aload_n 0 dX10_rowsHeavier_0 rfl (j_iload_n 1 dX10_rowsHeavier_1 rfl (j_callV (rest := []) 10 [vI x1] k_RX10_158 ⟨w_5_67, p_2_12⟩ ⟨_, _, rfl⟩ (by decide) rfl rfl (Nat.le_of_ble_eq_true rfl) dX10_rowsHeavier_2 h (kV (fun S1 h => j_aload_n 0 dX10_rowsHeavier_5 rfl (j_iload_n 2 dX10_rowsHeavier_6 rfl (j_callV (rest := []) 10 [vI x2] k_RX10_158 ⟨w_5_67, p_2_12⟩ ⟨_, _, rfl⟩ (by decide) rfl rfl (Nat.le_of_ble_eq_true rfl) dX10_rowsHeavier_7 h (kV (fun S2 h => j_iload_n 1 dX10_rowsHeavier_10 rfl (j_iload_n 2 dX10_rowsHeavier_11 rfl (j_icmp_ne (tgt := 26) dX10_rowsHeavier_12 (by decide) h (fun h => j_aload_n 0 dX10_rowsHeavier_26 rfl (j_callV (rest := []) 10 [] k_RX10_214 ⟨w_2_57, p_1_0⟩ ⟨_, _, rfl⟩ (by decide) rfl rfl (Nat.le_of_ble_eq_true rfl) dX10_rowsHeavier_27 h (kA (fun r3 S3 h => j_aload_n 0 dX10_rowsHeavier_30 rfl (j_callV (rest := [vA r3]) 10 [] k_RX10_229 ⟨w_2_61, p_1_1⟩ ⟨_, _, rfl⟩ (by decide) rfl rfl (Nat.le_of_ble_eq_true rfl) dX10_rowsHeavier_31 h (kA (fun r4 S4 h => j_iload_n 1 dX10_rowsHeavier_34 rfl (j_iload_n 2 dX10_rowsHeavier_35 rfl (j_callV (rest := [vA r3]) 0 [vI x1, vI x2] k_RX10_479 ⟨w_2_199, w_2_200⟩ ⟨_, _, rfl⟩ (by decide) rfl rfl (Nat.le_of_ble_eq_true rfl) dX10_rowsHeavier_36 h (kA (fun r5 S5 h => j_callV (rest := []) 5 [vA r5] k_RX10_426 ⟨w_3_46, w_3_47⟩ ⟨_, _, rfl⟩ (by decide) rfl rfl (Nat.le_of_ble_eq_true rfl) dX10_rowsHeavier_39 h (kI (fun r6 S6 h => j_iret rfl dX10_rowsHeavier_42 h)) (fun _ _ h => h.elim))) (fun _ _ h => h.elim))))) (fun _ _ h => h.elim)))) (fun _ _ h => h.elim))) (fun h => j_throwW t_RX10_115_119 (List.mem_of_getElem? (i := 20) rfl) dX10_rowsHeavier_15 dX10_rowsHeavier_18 dX10_rowsHeavier_19 dX10_rowsHeavier_22 dX10_rowsHeavier_25 (Nat.le_of_ble_eq_true rfl) rfl h))))) (fun _ _ h => jx_out h))))) (fun _ _ h => jx_out h)))
theorem MX10_rowsHeavier {d : Nat} {x0 : Nat} {x1 : Int} {x2 : Int} {S : MS} {Q : Out → MS → Prop} (h : VX10_rowsHeavier_0 d Q x0 x1 x2 S) : Mw hX10_rowsHeavier yX10_rowsHeavier (d + 1) [vA x0, vI x1, vI x2] S Q := Mw.ofJ (by decide) (Nat.le_of_ble_eq_true rfl) (JX10_rowsHeavier_0 _ _ _ S h)
theorem dX10_rowsAtEnd_0 : decode cX10_rowsAtEnd 0 = .ok (.aload_n 0, 1) := by decide +kernel
theorem dX10_rowsAtEnd_1 : decode cX10_rowsAtEnd 1 = .ok (.invokevirtual 229, 3) := by decide +kernel
theorem dX10_rowsAtEnd_4 : decode cX10_rowsAtEnd 4 = .ok (.astore_n 2, 1) := by decide +kernel
theorem dX10_rowsAtEnd_5 : decode cX10_rowsAtEnd 5 = .ok (.aload_n 0, 1) := by decide +kernel
theorem dX10_rowsAtEnd_6 : decode cX10_rowsAtEnd 6 = .ok (.invokevirtual 214, 3) := by decide +kernel
theorem dX10_rowsAtEnd_9 : decode cX10_rowsAtEnd 9 = .ok (.astore_n 3, 1) := by decide +kernel
theorem dX10_rowsAtEnd_10 : decode cX10_rowsAtEnd 10 = .ok (.aload_n 3, 1) := by decide +kernel
theorem dX10_rowsAtEnd_11 : decode cX10_rowsAtEnd 11 = .ok (.aload_n 2, 1) := by decide +kernel
theorem dX10_rowsAtEnd_12 : decode cX10_rowsAtEnd 12 = .ok (.iload_n 1, 1) := by decide +kernel
theorem dX10_rowsAtEnd_13 : decode cX10_rowsAtEnd 13 = .ok (.iconst 0, 1) := by decide +kernel
theorem dX10_rowsAtEnd_14 : decode cX10_rowsAtEnd 14 = .ok (.invokevirtual 271, 3) := by decide +kernel
theorem dX10_rowsAtEnd_17 : decode cX10_rowsAtEnd 17 = .ok (.invokevirtual 426, 3) := by decide +kernel
theorem dX10_rowsAtEnd_20 : decode cX10_rowsAtEnd 20 = .ok (.aload_n 3, 1) := by decide +kernel
theorem dX10_rowsAtEnd_21 : decode cX10_rowsAtEnd 21 = .ok (.aload_n 2, 1) := by decide +kernel
theorem dX10_rowsAtEnd_22 : decode cX10_rowsAtEnd 22 = .ok (.iload_n 1, 1) := by decide +kernel
theorem dX10_rowsAtEnd_23 : decode cX10_rowsAtEnd 23 = .ok (.aload_n 0, 1) := by decide +kernel
theorem dX10_rowsAtEnd_24 : decode cX10_rowsAtEnd 24 = .ok (.getfield 24, 3) := by decide +kernel
theorem dX10_rowsAtEnd_27 : decode cX10_rowsAtEnd 27 = .ok (.getfield 261, 3) := by decide +kernel
theorem dX10_rowsAtEnd_30 : decode cX10_rowsAtEnd 30 = .ok (.iconst 1, 1) := by decide +kernel
theorem dX10_rowsAtEnd_31 : decode cX10_rowsAtEnd 31 = .ok (.isub, 1) := by decide +kernel
theorem dX10_rowsAtEnd_32 : decode cX10_rowsAtEnd 32 = .ok (.invokevirtual 271, 3) := by decide +kernel
theorem dX10_rowsAtEnd_35 : decode cX10_rowsAtEnd 35 = .ok (.invokevirtual 426, 3) := by decide +kernel
theorem dX10_rowsAtEnd_38 : decode cX10_rowsAtEnd 38 = .ok (.iadd, 1) := by decide +kernel
theorem dX10_rowsAtEnd_39 : decode cX10_rowsAtEnd 39 = .ok (.ireturn, 1) := by decide +kernel
def VX10_rowsAtEnd_0 (d : Nat) (Q : Out → MS → Prop) (x0 : Nat) (x1 : Int) (S : MS) : Prop :=
  S.K x0 = 10 ∧ Mw hX10_allRows yX10_allRows d [vA x0] S (oA (fun r1 S1 => S1.K x0 = 10 ∧ Mw hX10_rowsLeft yX10_rowsLeft d [vA x0] S1 (oA (fun r2 S2 => S2.K r1 = 0 ∧ Mw hX0_standing yX0_standing d [vA r1, vI x1, vI 0] S2 (oA (fun r3 S3 => S3.K r2 = 5 ∧ Mw hX5_shared yX5_shared d [vA r2, vA r3] S3 (oI (fun r4 S4 => S4.K x0 = 10 ∧ ∃ b5, S4.R x0 2 = some b5 ∧ (S4.K b5 = 7 ∧ (S4.K r1 = 0 ∧ Mw hX0_standing yX0_standing d [vA r1, vI x1, vI ((S4.I b5 7) - 1)] S4 (oA (fun r6 S6 => S6.K r2 = 5 ∧ Mw hX5_shared yX5_shared d [vA r2, vA r6] S6 (oI (fun r7 S7 => Q (.inl (some (vI (r4 + r7)))) S7))))))))))))))
theorem JX10_rowsAtEnd_0 {d : Nat} {S0 : MS} {Q : Out → MS → Prop} (x0 : Nat) (x1 : Int) (S : MS) (h : VX10_rowsAtEnd_0 d Q x0 x1 S) : Jw FinM RX10 cX10_rowsAtEnd 4 (some .int) [] yX10_rowsAtEnd (d + 1) S0 S 0 [(0, vA x0), (1, vI x1)] [] Q :=
  j_aload_n 0 dX10_rowsAtEnd_0 rfl (j_callV (rest := []) 10 [] k_RX10_229 ⟨w_2_61, p_1_1⟩ ⟨_, _, rfl⟩ (by decide) rfl rfl (Nat.le_of_ble_eq_true rfl) dX10_rowsAtEnd_1 h (kA (fun r1 S1 h => j_astore_n (lv2 := [(2, vA r1), (0, vA x0), (1, vI x1)]) dX10_rowsAtEnd_4 (by decide) rfl (j_aload_n 1 dX10_rowsAtEnd_5 rfl (j_callV (rest := []) 10 [] k_RX10_214 ⟨w_2_57, p_1_0⟩ ⟨_, _, rfl⟩ (by decide) rfl rfl (Nat.le_of_ble_eq_true rfl) dX10_rowsAtEnd_6 h (kA (fun r2 S2 h => j_astore_n (lv2 := [(3, vA r2), (2, vA r1), (0, vA x0), (1, vI x1)]) dX10_rowsAtEnd_9 (by decide) rfl (j_aload_n 0 dX10_rowsAtEnd_10 rfl (j_aload_n 1 dX10_rowsAtEnd_11 rfl (j_iload_n 3 dX10_rowsAtEnd_12 rfl (j_iconst dX10_rowsAtEnd_13 (j_callV (rest := [vA r2]) 0 [vI x1, vI 0] k_RX10_271 ⟨w_3_29, w_3_30⟩ ⟨_, _, rfl⟩ (by decide) rfl rfl (Nat.le_of_ble_eq_true rfl) dX10_rowsAtEnd_14 h (kA (fun r3 S3 h => j_callV (rest := []) 5 [vA r3] k_RX10_426 ⟨w_3_46, w_3_47⟩ ⟨_, _, rfl⟩ (by decide) rfl rfl (Nat.le_of_ble_eq_true rfl) dX10_rowsAtEnd_17 h (kI (fun r4 S4 h => j_aload_n 0 dX10_rowsAtEnd_20 rfl (j_aload_n 1 dX10_rowsAtEnd_21 rfl (j_iload_n 3 dX10_rowsAtEnd_22 rfl (j_aload_n 2 dX10_rowsAtEnd_23 rfl (j_getR 10 2 f_RX10_24 dX10_rowsAtEnd_24 h (fun b5 h => j_getI 7 7 f_RX10_261 dX10_rowsAtEnd_27 h (fun h => j_iconst dX10_rowsAtEnd_30 (j_isub dX10_rowsAtEnd_31 (j_callV (rest := [vA r2, vI r4]) 0 [vI x1, vI ((S4.I b5 7) - 1)] k_RX10_271 ⟨w_3_29, w_3_30⟩ ⟨_, _, rfl⟩ (by decide) rfl rfl (Nat.le_of_ble_eq_true rfl) dX10_rowsAtEnd_32 h (kA (fun r6 S6 h => j_callV (rest := [vI r4]) 5 [vA r6] k_RX10_426 ⟨w_3_46, w_3_47⟩ ⟨_, _, rfl⟩ (by decide) rfl rfl (Nat.le_of_ble_eq_true rfl) dX10_rowsAtEnd_35 h (kI (fun r7 S7 h => j_iadd dX10_rowsAtEnd_38 (j_iret rfl dX10_rowsAtEnd_39 h))) (fun _ _ h => h.elim))) (fun _ _ h => h.elim))))))))))) (fun _ _ h => h.elim))) (fun _ _ h => h.elim)))))))) (fun _ _ h => h.elim))))) (fun _ _ h => h.elim))
theorem MX10_rowsAtEnd {d : Nat} {x0 : Nat} {x1 : Int} {S : MS} {Q : Out → MS → Prop} (h : VX10_rowsAtEnd_0 d Q x0 x1 S) : Mw hX10_rowsAtEnd yX10_rowsAtEnd (d + 1) [vA x0, vI x1] S Q := Mw.ofJ (by decide) (Nat.le_of_ble_eq_true rfl) (JX10_rowsAtEnd_0 _ _ S h)
theorem dX10_mayRise_0 : decode cX10_mayRise 0 = .ok (.aload_n 0, 1) := by decide +kernel
theorem dX10_mayRise_1 : decode cX10_mayRise 1 = .ok (.invokevirtual 229, 3) := by decide +kernel
theorem dX10_mayRise_4 : decode cX10_mayRise 4 = .ok (.iconst 0, 1) := by decide +kernel
theorem dX10_mayRise_5 : decode cX10_mayRise 5 = .ok (.invokevirtual 390, 3) := by decide +kernel
theorem dX10_mayRise_8 : decode cX10_mayRise 8 = .ok (.astore_n 2, 1) := by decide +kernel
theorem dX10_mayRise_9 : decode cX10_mayRise 9 = .ok (.iconst 0, 1) := by decide +kernel
theorem dX10_mayRise_10 : decode cX10_mayRise 10 = .ok (.istore_n 3, 1) := by decide +kernel
theorem dX10_mayRise_11 : decode cX10_mayRise 11 = .ok (.iconst 0, 1) := by decide +kernel
theorem dX10_mayRise_12 : decode cX10_mayRise 12 = .ok (.istore 4, 2) := by decide +kernel
theorem dX10_mayRise_14 : decode cX10_mayRise 14 = .ok (.iload 4, 2) := by decide +kernel
theorem dX10_mayRise_16 : decode cX10_mayRise 16 = .ok (.aload_n 0, 1) := by decide +kernel
theorem dX10_mayRise_17 : decode cX10_mayRise 17 = .ok (.getfield 24, 3) := by decide +kernel
theorem dX10_mayRise_20 : decode cX10_mayRise 20 = .ok (.getfield 261, 3) := by decide +kernel
theorem dX10_mayRise_23 : decode cX10_mayRise 23 = .ok (.if_icmp .ge 42, 3) := by decide +kernel
theorem dX10_mayRise_26 : decode cX10_mayRise 26 = .ok (.iload_n 1, 1) := by decide +kernel
theorem dX10_mayRise_27 : decode cX10_mayRise 27 = .ok (.iload 4, 2) := by decide +kernel
theorem dX10_mayRise_29 : decode cX10_mayRise 29 = .ok (.invokestatic 184, 3) := by decide +kernel
theorem dX10_mayRise_32 : decode cX10_mayRise 32 = .ok (.ifCond .eq 27, 3) := by decide +kernel
theorem dX10_mayRise_35 : decode cX10_mayRise 35 = .ok (.aload_n 0, 1) := by decide +kernel
theorem dX10_mayRise_36 : decode cX10_mayRise 36 = .ok (.invokevirtual 214, 3) := by decide +kernel
theorem dX10_mayRise_39 : decode cX10_mayRise 39 = .ok (.aload_n 2, 1) := by decide +kernel
theorem dX10_mayRise_40 : decode cX10_mayRise 40 = .ok (.iload_n 1, 1) := by decide +kernel
theorem dX10_mayRise_41 : decode cX10_mayRise 41 = .ok (.iload 4, 2) := by decide +kernel
theorem dX10_mayRise_43 : decode cX10_mayRise 43 = .ok (.invokevirtual 419, 3) := by decide +kernel
theorem dX10_mayRise_46 : decode cX10_mayRise 46 = .ok (.invokevirtual 275, 3) := by decide +kernel
theorem dX10_mayRise_49 : decode cX10_mayRise 49 = .ok (.ifCond .eq 10, 3) := by decide +kernel
theorem dX10_mayRise_52 : decode cX10_mayRise 52 = .ok (.iload_n 3, 1) := by decide +kernel
theorem dX10_mayRise_53 : decode cX10_mayRise 53 = .ok (.iconst 1, 1) := by decide +kernel
theorem dX10_mayRise_54 : decode cX10_mayRise 54 = .ok (.iload 4, 2) := by decide +kernel
theorem dX10_mayRise_56 : decode cX10_mayRise 56 = .ok (.ishl, 1) := by decide +kernel
theorem dX10_mayRise_57 : decode cX10_mayRise 57 = .ok (.ior, 1) := by decide +kernel
theorem dX10_mayRise_58 : decode cX10_mayRise 58 = .ok (.istore_n 3, 1) := by decide +kernel
theorem dX10_mayRise_59 : decode cX10_mayRise 59 = .ok (.iinc 4 1, 3) := by decide +kernel
theorem dX10_mayRise_62 : decode cX10_mayRise 62 = .ok (.goto (-48), 3) := by decide +kernel
theorem dX10_mayRise_65 : decode cX10_mayRise 65 = .ok (.iload_n 3, 1) := by decide +kernel
theorem dX10_mayRise_66 : decode cX10_mayRise 66 = .ok (.ireturn, 1) := by decide +kernel
def VX10_mayRise_59 (d : Nat) (c14 : Nat → Int → Nat → Int → Int → MS → Prop) (Q : Out → MS → Prop) (x0 : Nat) (x1 : Int) (x2 : Nat) (x3 : Int) (x4 : Int) (S : MS) : Prop :=
  c14 x0 x1 x2 x3 (x4 + 1) S
theorem JX10_mayRise_59 {d : Nat} {c14 : Nat → Int → Nat → Int → Int → MS → Prop} {S0 : MS} {Q : Out → MS → Prop} (hc14 : ∀ (x0 : Nat) (x1 : Int) (x2 : Nat) (x3 : Int) (x4 : Int) (S : MS), c14 x0 x1 x2 x3 x4 S → Jw FinM RX10 cX10_mayRise 5 (some .int) [] yX10_mayRise (d + 1) S0 S 14 [(0, vA x0), (1, vI x1), (2, vA x2), (3, vI x3), (4, vI x4)] [] Q) (x0 : Nat) (x1 : Int) (x2 : Nat) (x3 : Int) (x4 : Int) (S : MS) (h : VX10_mayRise_59 d c14 Q x0 x1 x2 x3 x4 S) : Jw FinM RX10 cX10_mayRise 5 (some .int) [] yX10_mayRise (d + 1) S0 S 59 [(0, vA x0), (1, vI x1), (2, vA x2), (3, vI x3), (4, vI x4)] [] Q :=
  j_iinc 4 (lv2 := [(4, vI (x4 + 1)), (0, vA x0), (1, vI x1), (2, vA x2), (3, vI x3)]) dX10_mayRise_59 rfl (by decide) rfl (j_goto (tgt := 14) dX10_mayRise_62 (by decide) (j_sub [1, 2, 3, 4, 0] rfl (hc14 _ _ _ _ _ _ h)))
def VX10_mayRise_14 (d : Nat) (Q : Out → MS → Prop) : Nat → Nat → Int → Nat → Int → Int → MS → Prop
  | 0, _, _, _, _, _, _ => False
  | n + 1, x0, x1, x2, x3, x4, S => S.K x0 = 10 ∧ ∃ b1, S.R x0 2 = some b1 ∧ (S.K b1 = 7 ∧ ((R32 x4 ∧ R32 (S.I b1 7)) ∧ (((S.I b1 7) ≤ x4) → Q (.inl (some (vI x3))) S) ∧ (¬ ((S.I b1 7) ≤ x4) → Mw hX10_holds yX10_holds d [vI x1, vI x4] S (oI (fun r2 S2 => R32 r2 ∧ ((r2 = 0) → VX10_mayRise_59 d (VX10_mayRise_14 d Q n) Q x0 x1 x2 x3 x4 S2) ∧ (¬ (r2 = 0) → S2.K x0 = 10 ∧ Mw hX10_rowsLeft yX10_rowsLeft d [vA x0] S2 (oA (fun r3 S3 => S3.K x2 = 2 ∧ Mw hX2_rising yX2_rising d [vA x2, vI x1, vI x4] S3 (oA (fun r4 S4 => S4.K r3 = 5 ∧ Mw hX5_meets yX5_meets d [vA r3, vA r4] S4 (oI (fun r5 S5 => R32 r5 ∧ ((r5 = 0) → VX10_mayRise_59 d (VX10_mayRise_14 d Q n) Q x0 x1 x2 x3 x4 S5) ∧ (¬ (r5 = 0) → VX10_mayRise_59 d (VX10_mayRise_14 d Q n) Q x0 x1 x2 (iOr x3 (iShl 1 x4)) x4 S5)))))))))))))
theorem JX10_mayRise_14 {d : Nat} {S0 : MS} {Q : Out → MS → Prop} : ∀ (n : Nat) (x0 : Nat) (x1 : Int) (x2 : Nat) (x3 : Int) (x4 : Int) (S : MS), VX10_mayRise_14 d Q n x0 x1 x2 x3 x4 S → Jw FinM RX10 cX10_mayRise 5 (some .int) [] yX10_mayRise (d + 1) S0 S 14 [(0, vA x0), (1, vI x1), (2, vA x2), (3, vI x3), (4, vI x4)] [] Q := by
  intro n
  induction n with
  | zero => intro x0 x1 x2 x3 x4 S h; exact h.elim
  | succ n ih =>
    intro x0 x1 x2 x3 x4 S h
    exact j_iload 4 dX10_mayRise_14 rfl (j_aload_n 0 dX10_mayRise_16 rfl (j_getR 10 2 f_RX10_24 dX10_mayRise_17 h (fun b1 h => j_getI 7 7 f_RX10_261 dX10_mayRise_20 h (fun h => j_icmp_ge (tgt := 65) dX10_mayRise_23 (by decide) h (fun h => j_iload_n 3 dX10_mayRise_65 rfl (j_iret rfl dX10_mayRise_66 h)) (fun h => j_iload_n 1 dX10_mayRise_26 rfl (j_iload 4 dX10_mayRise_27 rfl (j_callS (rest := []) [vI x1, vI x4] k_RX10_184 w_2_192 rfl rfl (Nat.le_of_ble_eq_true rfl) dX10_mayRise_29 h (kI (fun r2 S2 h => j_if_eq (tgt := 59) dX10_mayRise_32 (by decide) h (fun h => JX10_mayRise_59 ih _ _ _ _ _ _ h) (fun h => j_aload_n 0 dX10_mayRise_35 rfl (j_callV (rest := []) 10 [] k_RX10_214 ⟨w_2_57, p_1_0⟩ ⟨_, _, rfl⟩ (by decide) rfl rfl (Nat.le_of_ble_eq_true rfl) dX10_mayRise_36 h (kA (fun r3 S3 h => j_aload_n 2 dX10_mayRise_39 rfl (j_iload_n 1 dX10_mayRise_40 rfl (j_iload 4 dX10_mayRise_41 rfl (j_callV (rest := [vA r3]) 2 [vI x1, vI x4] k_RX10_419 ⟨w_2_225, w_2_226⟩ ⟨_, _, rfl⟩ (by decide) rfl rfl (Nat.le_of_ble_eq_true rfl) dX10_mayRise_43 h (kA (fun r4 S4 h => j_callV (rest := []) 5 [vA r4] k_RX10_275 ⟨w_3_54, w_3_55⟩ ⟨_, _, rfl⟩ (by decide) rfl rfl (Nat.le_of_ble_eq_true rfl) dX10_mayRise_46 h (kI (fun r5 S5 h => j_if_eq (tgt := 59) dX10_mayRise_49 (by decide) h (fun h => JX10_mayRise_59 ih _ _ _ _ _ _ h) (fun h => j_iload_n 3 dX10_mayRise_52 rfl (j_iconst dX10_mayRise_53 (j_iload 4 dX10_mayRise_54 rfl (j_ishl dX10_mayRise_56 (j_ior dX10_mayRise_57 (j_istore_n (lv2 := [(3, vI (iOr x3 (iShl 1 x4))), (0, vA x0), (1, vI x1), (2, vA x2), (4, vI x4)]) dX10_mayRise_58 (by decide) rfl (j_sub [1, 2, 3, 0, 4] rfl (JX10_mayRise_59 ih _ _ _ _ _ _ h)))))))))) (fun _ _ h => h.elim))) (fun _ _ h => h.elim)))))) (fun _ _ h => h.elim))))) (fun _ _ h => h.elim))))))))
def VX10_mayRise_0 (d : Nat) (Q : Out → MS → Prop) (x0 : Nat) (x1 : Int) (S : MS) : Prop :=
  S.K x0 = 10 ∧ Mw hX10_allRows yX10_allRows d [vA x0] S (oA (fun r1 S1 => S1.K r1 = 0 ∧ Mw hX0_layings yX0_layings d [vA r1, vI 0] S1 (oA (fun r2 S2 => ∃ m, VX10_mayRise_14 d Q m x0 x1 r2 0 0 S2))))
theorem JX10_mayRise_0 {d : Nat} {S0 : MS} {Q : Out → MS → Prop} (x0 : Nat) (x1 : Int) (S : MS) (h : VX10_mayRise_0 d Q x0 x1 S) : Jw FinM RX10 cX10_mayRise 5 (some .int) [] yX10_mayRise (d + 1) S0 S 0 [(0, vA x0), (1, vI x1)] [] Q :=
  j_aload_n 0 dX10_mayRise_0 rfl (j_callV (rest := []) 10 [] k_RX10_229 ⟨w_2_61, p_1_1⟩ ⟨_, _, rfl⟩ (by decide) rfl rfl (Nat.le_of_ble_eq_true rfl) dX10_mayRise_1 h (kA (fun r1 S1 h => j_iconst dX10_mayRise_4 (j_callV (rest := []) 0 [vI 0] k_RX10_390 ⟨w_2_219, w_2_220⟩ ⟨_, _, rfl⟩ (by decide) rfl rfl (Nat.le_of_ble_eq_true rfl) dX10_mayRise_5 h (kA (fun r2 S2 h => j_astore_n (lv2 := [(2, vA r2), (0, vA x0), (1, vI x1)]) dX10_mayRise_8 (by decide) rfl (j_iconst dX10_mayRise_9 (j_istore_n (lv2 := [(3, vI 0), (2, vA r2), (0, vA x0), (1, vI x1)]) dX10_mayRise_10 (by decide) rfl (j_iconst dX10_mayRise_11 (j_istore (lv2 := [(4, vI 0), (3, vI 0), (2, vA r2), (0, vA x0), (1, vI x1)]) dX10_mayRise_12 (by decide) rfl (Exists.elim h (fun m h => j_sub [3, 4, 2, 1, 0] rfl (JX10_mayRise_14 m _ _ _ _ _ _ h))))))))) (fun _ _ h => h.elim)))) (fun _ _ h => h.elim))
theorem MX10_mayRise {d : Nat} {x0 : Nat} {x1 : Int} {S : MS} {Q : Out → MS → Prop} (h : VX10_mayRise_0 d Q x0 x1 S) : Mw hX10_mayRise yX10_mayRise (d + 1) [vA x0, vI x1] S Q := Mw.ofJ (by decide) (Nat.le_of_ble_eq_true rfl) (JX10_mayRise_0 _ _ S h)
theorem dX10_sizeWithout_0 : decode cX10_sizeWithout 0 = .ok (.aload_n 0, 1) := by decide +kernel
theorem dX10_sizeWithout_1 : decode cX10_sizeWithout 1 = .ok (.getfield 40, 3) := by decide +kernel
theorem dX10_sizeWithout_4 : decode cX10_sizeWithout 4 = .ok (.aload_n 0, 1) := by decide +kernel
theorem dX10_sizeWithout_5 : decode cX10_sizeWithout 5 = .ok (.getfield 24, 3) := by decide +kernel
theorem dX10_sizeWithout_8 : decode cX10_sizeWithout 8 = .ok (.aload_n 0, 1) := by decide +kernel
theorem dX10_sizeWithout_9 : decode cX10_sizeWithout 9 = .ok (.invokevirtual 229, 3) := by decide +kernel
theorem dX10_sizeWithout_12 : decode cX10_sizeWithout 12 = .ok (.invokevirtual 283, 3) := by decide +kernel
theorem dX10_sizeWithout_15 : decode cX10_sizeWithout 15 = .ok (.aload_n 0, 1) := by decide +kernel
theorem dX10_sizeWithout_16 : decode cX10_sizeWithout 16 = .ok (.getfield 40, 3) := by decide +kernel
theorem dX10_sizeWithout_19 : decode cX10_sizeWithout 19 = .ok (.aload_n 0, 1) := by decide +kernel
theorem dX10_sizeWithout_20 : decode cX10_sizeWithout 20 = .ok (.getfield 24, 3) := by decide +kernel
theorem dX10_sizeWithout_23 : decode cX10_sizeWithout 23 = .ok (.aload_n 0, 1) := by decide +kernel
theorem dX10_sizeWithout_24 : decode cX10_sizeWithout 24 = .ok (.invokevirtual 229, 3) := by decide +kernel
theorem dX10_sizeWithout_27 : decode cX10_sizeWithout 27 = .ok (.iload_n 1, 1) := by decide +kernel
theorem dX10_sizeWithout_28 : decode cX10_sizeWithout 28 = .ok (.aload_n 0, 1) := by decide +kernel
theorem dX10_sizeWithout_29 : decode cX10_sizeWithout 29 = .ok (.getfield 51, 3) := by decide +kernel
theorem dX10_sizeWithout_32 : decode cX10_sizeWithout 32 = .ok (.iconst 0, 1) := by decide +kernel
theorem dX10_sizeWithout_33 : decode cX10_sizeWithout 33 = .ok (.aaload, 1) := by decide +kernel
theorem dX10_sizeWithout_34 : decode cX10_sizeWithout 34 = .ok (.invokevirtual 468, 3) := by decide +kernel
theorem dX10_sizeWithout_37 : decode cX10_sizeWithout 37 = .ok (.aload_n 0, 1) := by decide +kernel
theorem dX10_sizeWithout_38 : decode cX10_sizeWithout 38 = .ok (.getfield 51, 3) := by decide +kernel
theorem dX10_sizeWithout_41 : decode cX10_sizeWithout 41 = .ok (.iconst 0, 1) := by decide +kernel
theorem dX10_sizeWithout_42 : decode cX10_sizeWithout 42 = .ok (.aaload, 1) := by decide +kernel
theorem dX10_sizeWithout_43 : decode cX10_sizeWithout 43 = .ok (.getfield 218, 3) := by decide +kernel
theorem dX10_sizeWithout_46 : decode cX10_sizeWithout 46 = .ok (.ireturn, 1) := by decide +kernel
def VX10_sizeWithout_0 (d : Nat) (Q : Out → MS → Prop) (x0 : Nat) (x1 : Int) (S : MS) : Prop :=
  S.K x0 = 10 ∧ ∃ b1, S.R x0 5 = some b1 ∧ (S.K x0 = 10 ∧ ∃ b2, S.R x0 2 = some b2 ∧ (S.K x0 = 10 ∧ Mw hX10_allRows yX10_allRows d [vA x0] S (oA (fun r3 S3 => S3.K b1 = 1 ∧ Mw hX1_aim yX1_aim d [vA b1, vA b2, vA r3] S3 (oV (fun S4 => S4.K x0 = 10 ∧ ∃ b5, S4.R x0 5 = some b5 ∧ (S4.K x0 = 10 ∧ ∃ b6, S4.R x0 2 = some b6 ∧ (S4.K x0 = 10 ∧ Mw hX10_allRows yX10_allRows d [vA x0] S4 (oA (fun r7 S7 => S7.K x0 = 10 ∧ ∃ b8, S7.R x0 7 = some b8 ∧ ((S7.K b8 = 19 ∧ (17 ≤ 19 ∧ 19 < 21) ∧ 0 ≤ (0 : Int) ∧ (0 : Int) < S7.N b8) ∧ ∃ b9, S7.R b8 ((0 : Int)).toNat = some b9 ∧ (S7.K b5 = 1 ∧ Mw hX1_fit yX1_fit d [vA b5, vA b6, vA r7, vI x1, vA b9] S7 (oV (fun S10 => S10.K x0 = 10 ∧ ∃ b11, S10.R x0 7 = some b11 ∧ ((S10.K b11 = 19 ∧ (17 ≤ 19 ∧ 19 < 21) ∧ 0 ≤ (0 : Int) ∧ (0 : Int) < S10.N b11) ∧ ∃ b12, S10.R b11 ((0 : Int)).toNat = some b12 ∧ (S10.K b12 = 5 ∧ (Q (.inl (some (vI (S10.I b12 0)))) S10)))))))))))))))))
theorem JX10_sizeWithout_0 {d : Nat} {S0 : MS} {Q : Out → MS → Prop} (x0 : Nat) (x1 : Int) (S : MS) (h : VX10_sizeWithout_0 d Q x0 x1 S) : Jw FinM RX10 cX10_sizeWithout 2 (some .int) [] yX10_sizeWithout (d + 1) S0 S 0 [(0, vA x0), (1, vI x1)] [] Q :=
  j_aload_n 0 dX10_sizeWithout_0 rfl (j_getR 10 5 f_RX10_40 dX10_sizeWithout_1 h (fun b1 h => j_aload_n 0 dX10_sizeWithout_4 rfl (j_getR 10 2 f_RX10_24 dX10_sizeWithout_5 h (fun b2 h => j_aload_n 0 dX10_sizeWithout_8 rfl (j_callV (rest := [vA b2, vA b1]) 10 [] k_RX10_229 ⟨w_2_61, p_1_1⟩ ⟨_, _, rfl⟩ (by decide) rfl rfl (Nat.le_of_ble_eq_true rfl) dX10_sizeWithout_9 h (kA (fun r3 S3 h => j_callV (rest := []) 1 [vA b2, vA r3] k_RX10_283 ⟨w_2_207, w_2_208⟩ ⟨_, _, rfl⟩ (by decide) rfl rfl (Nat.le_of_ble_eq_true rfl) dX10_sizeWithout_12 h (kV (fun S4 h => j_aload_n 0 dX10_sizeWithout_15 rfl (j_getR 10 5 f_RX10_40 dX10_sizeWithout_16 h (fun b5 h => j_aload_n 0 dX10_sizeWithout_19 rfl (j_getR 10 2 f_RX10_24 dX10_sizeWithout_20 h (fun b6 h => j_aload_n 0 dX10_sizeWithout_23 rfl (j_callV (rest := [vA b6, vA b5]) 10 [] k_RX10_229 ⟨w_2_61, p_1_1⟩ ⟨_, _, rfl⟩ (by decide) rfl rfl (Nat.le_of_ble_eq_true rfl) dX10_sizeWithout_24 h (kA (fun r7 S7 h => j_iload_n 1 dX10_sizeWithout_27 rfl (j_aload_n 0 dX10_sizeWithout_28 rfl (j_getR 10 7 f_RX10_51 dX10_sizeWithout_29 h (fun b8 h => j_iconst dX10_sizeWithout_32 (j_aald 19 dX10_sizeWithout_33 h (fun b9 h => j_callV (rest := []) 1 [vA b6, vA r7, vI x1, vA b9] k_RX10_468 ⟨w_2_237, w_2_238⟩ ⟨_, _, rfl⟩ (by decide) rfl rfl (Nat.le_of_ble_eq_true rfl) dX10_sizeWithout_34 h (kV (fun S10 h => j_aload_n 0 dX10_sizeWithout_37 rfl (j_getR 10 7 f_RX10_51 dX10_sizeWithout_38 h (fun b11 h => j_iconst dX10_sizeWithout_41 (j_aald 19 dX10_sizeWithout_42 h (fun b12 h => j_getI 5 0 f_RX10_218 dX10_sizeWithout_43 h (fun h => j_iret rfl dX10_sizeWithout_46 h))))))) (fun _ _ h => h.elim)))))))) (fun _ _ h => h.elim)))))))) (fun _ _ h => h.elim))) (fun _ _ h => h.elim))))))
theorem MX10_sizeWithout {d : Nat} {x0 : Nat} {x1 : Int} {S : MS} {Q : Out → MS → Prop} (h : VX10_sizeWithout_0 d Q x0 x1 S) : Mw hX10_sizeWithout yX10_sizeWithout (d + 1) [vA x0, vI x1] S Q := Mw.ofJ (by decide) (Nat.le_of_ble_eq_true rfl) (JX10_sizeWithout_0 _ _ S h)
theorem dX10_sizeHadRisen_0 : decode cX10_sizeHadRisen 0 = .ok (.aload_n 0, 1) := by decide +kernel
theorem dX10_sizeHadRisen_1 : decode cX10_sizeHadRisen 1 = .ok (.getfield 40, 3) := by decide +kernel
theorem dX10_sizeHadRisen_4 : decode cX10_sizeHadRisen 4 = .ok (.aload_n 0, 1) := by decide +kernel
theorem dX10_sizeHadRisen_5 : decode cX10_sizeHadRisen 5 = .ok (.getfield 24, 3) := by decide +kernel
theorem dX10_sizeHadRisen_8 : decode cX10_sizeHadRisen 8 = .ok (.aload_n 0, 1) := by decide +kernel
theorem dX10_sizeHadRisen_9 : decode cX10_sizeHadRisen 9 = .ok (.invokevirtual 229, 3) := by decide +kernel
theorem dX10_sizeHadRisen_12 : decode cX10_sizeHadRisen 12 = .ok (.invokevirtual 283, 3) := by decide +kernel
theorem dX10_sizeHadRisen_15 : decode cX10_sizeHadRisen 15 = .ok (.aload_n 0, 1) := by decide +kernel
theorem dX10_sizeHadRisen_16 : decode cX10_sizeHadRisen 16 = .ok (.getfield 40, 3) := by decide +kernel
theorem dX10_sizeHadRisen_19 : decode cX10_sizeHadRisen 19 = .ok (.aload_n 0, 1) := by decide +kernel
theorem dX10_sizeHadRisen_20 : decode cX10_sizeHadRisen 20 = .ok (.getfield 24, 3) := by decide +kernel
theorem dX10_sizeHadRisen_23 : decode cX10_sizeHadRisen 23 = .ok (.aload_n 0, 1) := by decide +kernel
theorem dX10_sizeHadRisen_24 : decode cX10_sizeHadRisen 24 = .ok (.invokevirtual 229, 3) := by decide +kernel
theorem dX10_sizeHadRisen_27 : decode cX10_sizeHadRisen 27 = .ok (.iload_n 1, 1) := by decide +kernel
theorem dX10_sizeHadRisen_28 : decode cX10_sizeHadRisen 28 = .ok (.iload_n 2, 1) := by decide +kernel
theorem dX10_sizeHadRisen_29 : decode cX10_sizeHadRisen 29 = .ok (.invokevirtual 482, 3) := by decide +kernel
theorem dX10_sizeHadRisen_32 : decode cX10_sizeHadRisen 32 = .ok (.aload_n 0, 1) := by decide +kernel
theorem dX10_sizeHadRisen_33 : decode cX10_sizeHadRisen 33 = .ok (.getfield 40, 3) := by decide +kernel
theorem dX10_sizeHadRisen_36 : decode cX10_sizeHadRisen 36 = .ok (.aload_n 0, 1) := by decide +kernel
theorem dX10_sizeHadRisen_37 : decode cX10_sizeHadRisen 37 = .ok (.getfield 24, 3) := by decide +kernel
theorem dX10_sizeHadRisen_40 : decode cX10_sizeHadRisen 40 = .ok (.aload_n 0, 1) := by decide +kernel
theorem dX10_sizeHadRisen_41 : decode cX10_sizeHadRisen 41 = .ok (.invokevirtual 229, 3) := by decide +kernel
theorem dX10_sizeHadRisen_44 : decode cX10_sizeHadRisen 44 = .ok (.iconst (-1), 1) := by decide +kernel
theorem dX10_sizeHadRisen_45 : decode cX10_sizeHadRisen 45 = .ok (.aload_n 0, 1) := by decide +kernel
theorem dX10_sizeHadRisen_46 : decode cX10_sizeHadRisen 46 = .ok (.getfield 51, 3) := by decide +kernel
theorem dX10_sizeHadRisen_49 : decode cX10_sizeHadRisen 49 = .ok (.iconst 0, 1) := by decide +kernel
theorem dX10_sizeHadRisen_50 : decode cX10_sizeHadRisen 50 = .ok (.aaload, 1) := by decide +kernel
theorem dX10_sizeHadRisen_51 : decode cX10_sizeHadRisen 51 = .ok (.invokevirtual 468, 3) := by decide +kernel
theorem dX10_sizeHadRisen_54 : decode cX10_sizeHadRisen 54 = .ok (.aload_n 0, 1) := by decide +kernel
theorem dX10_sizeHadRisen_55 : decode cX10_sizeHadRisen 55 = .ok (.getfield 51, 3) := by decide +kernel
theorem dX10_sizeHadRisen_58 : decode cX10_sizeHadRisen 58 = .ok (.iconst 0, 1) := by decide +kernel
theorem dX10_sizeHadRisen_59 : decode cX10_sizeHadRisen 59 = .ok (.aaload, 1) := by decide +kernel
theorem dX10_sizeHadRisen_60 : decode cX10_sizeHadRisen 60 = .ok (.getfield 218, 3) := by decide +kernel
theorem dX10_sizeHadRisen_63 : decode cX10_sizeHadRisen 63 = .ok (.ireturn, 1) := by decide +kernel
def VX10_sizeHadRisen_0 (d : Nat) (Q : Out → MS → Prop) (x0 : Nat) (x1 : Int) (x2 : Int) (S : MS) : Prop :=
  S.K x0 = 10 ∧ ∃ b1, S.R x0 5 = some b1 ∧ (S.K x0 = 10 ∧ ∃ b2, S.R x0 2 = some b2 ∧ (S.K x0 = 10 ∧ Mw hX10_allRows yX10_allRows d [vA x0] S (oA (fun r3 S3 => S3.K b1 = 1 ∧ Mw hX1_aim yX1_aim d [vA b1, vA b2, vA r3] S3 (oV (fun S4 => S4.K x0 = 10 ∧ ∃ b5, S4.R x0 5 = some b5 ∧ (S4.K x0 = 10 ∧ ∃ b6, S4.R x0 2 = some b6 ∧ (S4.K x0 = 10 ∧ Mw hX10_allRows yX10_allRows d [vA x0] S4 (oA (fun r7 S7 => S7.K b5 = 1 ∧ Mw hX1_hadRisen yX1_hadRisen d [vA b5, vA b6, vA r7, vI x1, vI x2] S7 (oV (fun S8 => S8.K x0 = 10 ∧ ∃ b9, S8.R x0 5 = some b9 ∧ (S8.K x0 = 10 ∧ ∃ b10, S8.R x0 2 = some b10 ∧ (S8.K x0 = 10 ∧ Mw hX10_allRows yX10_allRows d [vA x0] S8 (oA (fun r11 S11 => S11.K x0 = 10 ∧ ∃ b12, S11.R x0 7 = some b12 ∧ ((S11.K b12 = 19 ∧ (17 ≤ 19 ∧ 19 < 21) ∧ 0 ≤ (0 : Int) ∧ (0 : Int) < S11.N b12) ∧ ∃ b13, S11.R b12 ((0 : Int)).toNat = some b13 ∧ (S11.K b9 = 1 ∧ Mw hX1_fit yX1_fit d [vA b9, vA b10, vA r11, vI ((-1)), vA b13] S11 (oV (fun S14 => S14.K x0 = 10 ∧ ∃ b15, S14.R x0 7 = some b15 ∧ ((S14.K b15 = 19 ∧ (17 ≤ 19 ∧ 19 < 21) ∧ 0 ≤ (0 : Int) ∧ (0 : Int) < S14.N b15) ∧ ∃ b16, S14.R b15 ((0 : Int)).toNat = some b16 ∧ (S14.K b16 = 5 ∧ (Q (.inl (some (vI (S14.I b16 0)))) S14)))))))))))))))))))))))
theorem JX10_sizeHadRisen_0 {d : Nat} {S0 : MS} {Q : Out → MS → Prop} (x0 : Nat) (x1 : Int) (x2 : Int) (S : MS) (h : VX10_sizeHadRisen_0 d Q x0 x1 x2 S) : Jw FinM RX10 cX10_sizeHadRisen 3 (some .int) [] yX10_sizeHadRisen (d + 1) S0 S 0 [(0, vA x0), (1, vI x1), (2, vI x2)] [] Q :=
  j_aload_n 0 dX10_sizeHadRisen_0 rfl (j_getR 10 5 f_RX10_40 dX10_sizeHadRisen_1 h (fun b1 h => j_aload_n 0 dX10_sizeHadRisen_4 rfl (j_getR 10 2 f_RX10_24 dX10_sizeHadRisen_5 h (fun b2 h => j_aload_n 0 dX10_sizeHadRisen_8 rfl (j_callV (rest := [vA b2, vA b1]) 10 [] k_RX10_229 ⟨w_2_61, p_1_1⟩ ⟨_, _, rfl⟩ (by decide) rfl rfl (Nat.le_of_ble_eq_true rfl) dX10_sizeHadRisen_9 h (kA (fun r3 S3 h => j_callV (rest := []) 1 [vA b2, vA r3] k_RX10_283 ⟨w_2_207, w_2_208⟩ ⟨_, _, rfl⟩ (by decide) rfl rfl (Nat.le_of_ble_eq_true rfl) dX10_sizeHadRisen_12 h (kV (fun S4 h => j_aload_n 0 dX10_sizeHadRisen_15 rfl (j_getR 10 5 f_RX10_40 dX10_sizeHadRisen_16 h (fun b5 h => j_aload_n 0 dX10_sizeHadRisen_19 rfl (j_getR 10 2 f_RX10_24 dX10_sizeHadRisen_20 h (fun b6 h => j_aload_n 0 dX10_sizeHadRisen_23 rfl (j_callV (rest := [vA b6, vA b5]) 10 [] k_RX10_229 ⟨w_2_61, p_1_1⟩ ⟨_, _, rfl⟩ (by decide) rfl rfl (Nat.le_of_ble_eq_true rfl) dX10_sizeHadRisen_24 h (kA (fun r7 S7 h => j_iload_n 1 dX10_sizeHadRisen_27 rfl (j_iload_n 2 dX10_sizeHadRisen_28 rfl (j_callV (rest := []) 1 [vA b6, vA r7, vI x1, vI x2] k_RX10_482 ⟨w_2_211, w_2_212⟩ ⟨_, _, rfl⟩ (by decide) rfl rfl (Nat.le_of_ble_eq_true rfl) dX10_sizeHadRisen_29 h (kV (fun S8 h => j_aload_n 0 dX10_sizeHadRisen_32 rfl (j_getR 10 5 f_RX10_40 dX10_sizeHadRisen_33 h (fun b9 h => j_aload_n 0 dX10_sizeHadRisen_36 rfl (j_getR 10 2 f_RX10_24 dX10_sizeHadRisen_37 h (fun b10 h => j_aload_n 0 dX10_sizeHadRisen_40 rfl (j_callV (rest := [vA b10, vA b9]) 10 [] k_RX10_229 ⟨w_2_61, p_1_1⟩ ⟨_, _, rfl⟩ (by decide) rfl rfl (Nat.le_of_ble_eq_true rfl) dX10_sizeHadRisen_41 h (kA (fun r11 S11 h => j_iconst dX10_sizeHadRisen_44 (j_aload_n 0 dX10_sizeHadRisen_45 rfl (j_getR 10 7 f_RX10_51 dX10_sizeHadRisen_46 h (fun b12 h => j_iconst dX10_sizeHadRisen_49 (j_aald 19 dX10_sizeHadRisen_50 h (fun b13 h => j_callV (rest := []) 1 [vA b10, vA r11, vI ((-1)), vA b13] k_RX10_468 ⟨w_2_237, w_2_238⟩ ⟨_, _, rfl⟩ (by decide) rfl rfl (Nat.le_of_ble_eq_true rfl) dX10_sizeHadRisen_51 h (kV (fun S14 h => j_aload_n 0 dX10_sizeHadRisen_54 rfl (j_getR 10 7 f_RX10_51 dX10_sizeHadRisen_55 h (fun b15 h => j_iconst dX10_sizeHadRisen_58 (j_aald 19 dX10_sizeHadRisen_59 h (fun b16 h => j_getI 5 0 f_RX10_218 dX10_sizeHadRisen_60 h (fun h => j_iret rfl dX10_sizeHadRisen_63 h))))))) (fun _ _ h => h.elim)))))))) (fun _ _ h => h.elim)))))))) (fun _ _ h => h.elim))))) (fun _ _ h => h.elim)))))))) (fun _ _ h => h.elim))) (fun _ _ h => h.elim))))))
theorem MX10_sizeHadRisen {d : Nat} {x0 : Nat} {x1 : Int} {x2 : Int} {S : MS} {Q : Out → MS → Prop} (h : VX10_sizeHadRisen_0 d Q x0 x1 x2 S) : Mw hX10_sizeHadRisen yX10_sizeHadRisen (d + 1) [vA x0, vI x1, vI x2] S Q := Mw.ofJ (by decide) (Nat.le_of_ble_eq_true rfl) (JX10_sizeHadRisen_0 _ _ _ S h)
theorem dX10_walked_0 : decode cX10_walked 0 = .ok (.aload_n 0, 1) := by decide +kernel
theorem dX10_walked_1 : decode cX10_walked 1 = .ok (.invokevirtual 214, 3) := by decide +kernel
theorem dX10_walked_4 : decode cX10_walked 4 = .ok (.astore_n 3, 1) := by decide +kernel
theorem dX10_walked_5 : decode cX10_walked 5 = .ok (.aload_n 0, 1) := by decide +kernel
theorem dX10_walked_6 : decode cX10_walked 6 = .ok (.getfield 76, 3) := by decide +kernel
theorem dX10_walked_9 : decode cX10_walked 9 = .ok (.iconst 0, 1) := by decide +kernel
theorem dX10_walked_10 : decode cX10_walked 10 = .ok (.iload_n 2, 1) := by decide +kernel
theorem dX10_walked_11 : decode cX10_walked 11 = .ok (.iadd, 1) := by decide +kernel
theorem dX10_walked_12 : decode cX10_walked 12 = .ok (.iaload, 1) := by decide +kernel
theorem dX10_walked_13 : decode cX10_walked 13 = .ok (.bipush (-3), 2) := by decide +kernel
theorem dX10_walked_15 : decode cX10_walked 15 = .ok (.if_icmp .ne 99, 3) := by decide +kernel
theorem dX10_walked_18 : decode cX10_walked 18 = .ok (.aload_n 0, 1) := by decide +kernel
theorem dX10_walked_19 : decode cX10_walked 19 = .ok (.getfield 58, 3) := by decide +kernel
theorem dX10_walked_22 : decode cX10_walked 22 = .ok (.invokevirtual 401, 3) := by decide +kernel
theorem dX10_walked_25 : decode cX10_walked 25 = .ok (.aload_n 0, 1) := by decide +kernel
theorem dX10_walked_26 : decode cX10_walked 26 = .ok (.getfield 51, 3) := by decide +kernel
theorem dX10_walked_29 : decode cX10_walked 29 = .ok (.iconst 0, 1) := by decide +kernel
theorem dX10_walked_30 : decode cX10_walked 30 = .ok (.aaload, 1) := by decide +kernel
theorem dX10_walked_31 : decode cX10_walked 31 = .ok (.aload_n 3, 1) := by decide +kernel
theorem dX10_walked_32 : decode cX10_walked 32 = .ok (.invokevirtual 379, 3) := by decide +kernel
theorem dX10_walked_35 : decode cX10_walked 35 = .ok (.aload_n 0, 1) := by decide +kernel
theorem dX10_walked_36 : decode cX10_walked 36 = .ok (.getfield 58, 3) := by decide +kernel
theorem dX10_walked_39 : decode cX10_walked 39 = .ok (.aload_n 0, 1) := by decide +kernel
theorem dX10_walked_40 : decode cX10_walked 40 = .ok (.invokevirtual 229, 3) := by decide +kernel
theorem dX10_walked_43 : decode cX10_walked 43 = .ok (.aload_n 0, 1) := by decide +kernel
theorem dX10_walked_44 : decode cX10_walked 44 = .ok (.invokevirtual 229, 3) := by decide +kernel
theorem dX10_walked_47 : decode cX10_walked 47 = .ok (.iload_n 2, 1) := by decide +kernel
theorem dX10_walked_48 : decode cX10_walked 48 = .ok (.invokevirtual 390, 3) := by decide +kernel
theorem dX10_walked_51 : decode cX10_walked 51 = .ok (.aload_n 0, 1) := by decide +kernel
theorem dX10_walked_52 : decode cX10_walked 52 = .ok (.getfield 51, 3) := by decide +kernel
theorem dX10_walked_55 : decode cX10_walked 55 = .ok (.iconst 0, 1) := by decide +kernel
theorem dX10_walked_56 : decode cX10_walked 56 = .ok (.iconst (-1), 1) := by decide +kernel
theorem dX10_walked_57 : decode cX10_walked 57 = .ok (.invokevirtual 404, 3) := by decide +kernel
theorem dX10_walked_60 : decode cX10_walked 60 = .ok (.aload_n 0, 1) := by decide +kernel
theorem dX10_walked_61 : decode cX10_walked 61 = .ok (.getfield 76, 3) := by decide +kernel
theorem dX10_walked_64 : decode cX10_walked 64 = .ok (.iconst 0, 1) := by decide +kernel
theorem dX10_walked_65 : decode cX10_walked 65 = .ok (.iload_n 2, 1) := by decide +kernel
theorem dX10_walked_66 : decode cX10_walked 66 = .ok (.iadd, 1) := by decide +kernel
theorem dX10_walked_67 : decode cX10_walked 67 = .ok (.aload_n 0, 1) := by decide +kernel
theorem dX10_walked_68 : decode cX10_walked 68 = .ok (.getfield 58, 3) := by decide +kernel
theorem dX10_walked_71 : decode cX10_walked 71 = .ok (.getfield 408, 3) := by decide +kernel
theorem dX10_walked_74 : decode cX10_walked 74 = .ok (.iastore, 1) := by decide +kernel
theorem dX10_walked_75 : decode cX10_walked 75 = .ok (.aload_n 0, 1) := by decide +kernel
theorem dX10_walked_76 : decode cX10_walked 76 = .ok (.getfield 76, 3) := by decide +kernel
theorem dX10_walked_79 : decode cX10_walked 79 = .ok (.iconst 3, 1) := by decide +kernel
theorem dX10_walked_80 : decode cX10_walked 80 = .ok (.iload_n 2, 1) := by decide +kernel
theorem dX10_walked_81 : decode cX10_walked 81 = .ok (.iadd, 1) := by decide +kernel
theorem dX10_walked_82 : decode cX10_walked 82 = .ok (.aload_n 0, 1) := by decide +kernel
theorem dX10_walked_83 : decode cX10_walked 83 = .ok (.getfield 58, 3) := by decide +kernel
theorem dX10_walked_86 : decode cX10_walked 86 = .ok (.getfield 486, 3) := by decide +kernel
theorem dX10_walked_89 : decode cX10_walked 89 = .ok (.iastore, 1) := by decide +kernel
theorem dX10_walked_90 : decode cX10_walked 90 = .ok (.aload_n 0, 1) := by decide +kernel
theorem dX10_walked_91 : decode cX10_walked 91 = .ok (.getfield 76, 3) := by decide +kernel
theorem dX10_walked_94 : decode cX10_walked 94 = .ok (.bipush 6, 2) := by decide +kernel
theorem dX10_walked_96 : decode cX10_walked 96 = .ok (.iload_n 2, 1) := by decide +kernel
theorem dX10_walked_97 : decode cX10_walked 97 = .ok (.iadd, 1) := by decide +kernel
theorem dX10_walked_98 : decode cX10_walked 98 = .ok (.aload_n 0, 1) := by decide +kernel
theorem dX10_walked_99 : decode cX10_walked 99 = .ok (.getfield 58, 3) := by decide +kernel
theorem dX10_walked_102 : decode cX10_walked 102 = .ok (.getfield 489, 3) := by decide +kernel
theorem dX10_walked_105 : decode cX10_walked 105 = .ok (.ifCond .eq 7, 3) := by decide +kernel
theorem dX10_walked_108 : decode cX10_walked 108 = .ok (.iconst 1, 1) := by decide +kernel
theorem dX10_walked_109 : decode cX10_walked 109 = .ok (.goto 4, 3) := by decide +kernel
theorem dX10_walked_112 : decode cX10_walked 112 = .ok (.iconst 0, 1) := by decide +kernel
theorem dX10_walked_113 : decode cX10_walked 113 = .ok (.iastore, 1) := by decide +kernel
theorem dX10_walked_114 : decode cX10_walked 114 = .ok (.aload_n 0, 1) := by decide +kernel
theorem dX10_walked_115 : decode cX10_walked 115 = .ok (.getfield 76, 3) := by decide +kernel
theorem dX10_walked_118 : decode cX10_walked 118 = .ok (.iload_n 1, 1) := by decide +kernel
theorem dX10_walked_119 : decode cX10_walked 119 = .ok (.iload_n 2, 1) := by decide +kernel
theorem dX10_walked_120 : decode cX10_walked 120 = .ok (.iadd, 1) := by decide +kernel
theorem dX10_walked_121 : decode cX10_walked 121 = .ok (.iaload, 1) := by decide +kernel
theorem dX10_walked_122 : decode cX10_walked 122 = .ok (.ireturn, 1) := by decide +kernel
def VX10_walked_114 (d : Nat) (Q : Out → MS → Prop) (x0 : Nat) (x1 : Int) (x2 : Int) (S : MS) : Prop :=
  S.K x0 = 10 ∧ ∃ b1, S.R x0 11 = some b1 ∧ ((S.K b1 = 13 ∧ 0 ≤ (x1 + x2) ∧ (x1 + x2) < S.N b1) ∧ (Q (.inl (some (vI (S.I b1 ((x1 + x2)).toNat)))) S))
theorem JX10_walked_114 {d : Nat} {S0 : MS} {Q : Out → MS → Prop} (x0 : Nat) (x1 : Int) (x2 : Int) (S : MS) (h : VX10_walked_114 d Q x0 x1 x2 S) : Jw FinM RX10 cX10_walked 4 (some .int) [] yX10_walked (d + 1) S0 S 114 [(0, vA x0), (1, vI x1), (2, vI x2)] [] Q :=
  j_aload_n 0 dX10_walked_114 rfl (j_getR 10 11 f_RX10_76 dX10_walked_115 h (fun b1 h => j_iload_n 1 dX10_walked_118 rfl (j_iload_n 2 dX10_walked_119 rfl (j_iadd dX10_walked_120 (j_iald dX10_walked_121 h (fun h => j_iret rfl dX10_walked_122 h))))))
def VX10_walked_113 (d : Nat) (Q : Out → MS → Prop) (x0 : Nat) (x1 : Int) (x2 : Int) (t0 : Int) (t1 : Int) (t2 : Nat) (S : MS) : Prop :=
  (S.K t2 = 13 ∧ 0 ≤ t1 ∧ t1 < S.N t2) ∧ (VX10_walked_114 d Q x0 x1 x2 (S.setI t2 (t1).toNat t0))
theorem JX10_walked_113 {d : Nat} {S0 : MS} {Q : Out → MS → Prop} (x0 : Nat) (x1 : Int) (x2 : Int) (t0 : Int) (t1 : Int) (t2 : Nat) (S : MS) (h : VX10_walked_113 d Q x0 x1 x2 t0 t1 t2 S) : Jw FinM RX10 cX10_walked 4 (some .int) [] yX10_walked (d + 1) S0 S 113 [(0, vA x0), (1, vI x1), (2, vI x2)] [vI t0, vI t1, vA t2] Q :=
  j_iast dX10_walked_113 h (fun h => JX10_walked_114 _ _ _ _ h)
def VX10_walked_0 (d : Nat) (Q : Out → MS → Prop) (x0 : Nat) (x1 : Int) (x2 : Int) (S : MS) : Prop :=
  S.K x0 = 10 ∧ Mw hX10_rowsLeft yX10_rowsLeft d [vA x0] S (oA (fun r1 S1 => S1.K x0 = 10 ∧ ∃ b2, S1.R x0 11 = some b2 ∧ ((S1.K b2 = 13 ∧ 0 ≤ (0 + x2) ∧ (0 + x2) < S1.N b2) ∧ ((R32 (S1.I b2 ((0 + x2)).toNat) ∧ R32 ((-3) : Int)) ∧ (¬ ((S1.I b2 ((0 + x2)).toNat) = ((-3) : Int)) → VX10_walked_114 d Q x0 x1 x2 S1) ∧ (((S1.I b2 ((0 + x2)).toNat) = ((-3) : Int)) → S1.K x0 = 10 ∧ ∃ b3, S1.R x0 8 = some b3 ∧ (S1.K b3 = 9 ∧ Mw hX9_start yX9_start d [vA b3] S1 (oV (fun S4 => S4.K x0 = 10 ∧ ∃ b5, S4.R x0 7 = some b5 ∧ ((S4.K b5 = 19 ∧ (17 ≤ 19 ∧ 19 < 21) ∧ 0 ≤ (0 : Int) ∧ (0 : Int) < S4.N b5) ∧ ∃ b6, S4.R b5 ((0 : Int)).toNat = some b6 ∧ (S4.K b6 = 5 ∧ Mw hX5_copy yX5_copy d [vA b6, vA r1] S4 (oV (fun S7 => S7.K x0 = 10 ∧ ∃ b8, S7.R x0 8 = some b8 ∧ (S7.K x0 = 10 ∧ Mw hX10_allRows yX10_allRows d [vA x0] S7 (oA (fun r9 S9 => S9.K x0 = 10 ∧ Mw hX10_allRows yX10_allRows d [vA x0] S9 (oA (fun r10 S10 => S10.K r10 = 0 ∧ Mw hX0_layings yX0_layings d [vA r10, vI x2] S10 (oA (fun r11 S11 => S11.K x0 = 10 ∧ ∃ b12, S11.R x0 7 = some b12 ∧ (S11.K b8 = 9 ∧ Mw hX9_go yX9_go d [vA b8, vA r9, vA r11, vA b12, vI 0, vI ((-1))] S11 (oV (fun S13 => S13.K x0 = 10 ∧ ∃ b14, S13.R x0 11 = some b14 ∧ (S13.K x0 = 10 ∧ ∃ b15, S13.R x0 8 = some b15 ∧ (S13.K b15 = 9 ∧ ((S13.K b14 = 13 ∧ 0 ≤ (0 + x2) ∧ (0 + x2) < S13.N b14) ∧ ((S13.setI b14 ((0 + x2)).toNat (S13.I b15 0)).K x0 = 10 ∧ ∃ b16, (S13.setI b14 ((0 + x2)).toNat (S13.I b15 0)).R x0 11 = some b16 ∧ ((S13.setI b14 ((0 + x2)).toNat (S13.I b15 0)).K x0 = 10 ∧ ∃ b17, (S13.setI b14 ((0 + x2)).toNat (S13.I b15 0)).R x0 8 = some b17 ∧ ((S13.setI b14 ((0 + x2)).toNat (S13.I b15 0)).K b17 = 9 ∧ (((S13.setI b14 ((0 + x2)).toNat (S13.I b15 0)).K b16 = 13 ∧ 0 ≤ (3 + x2) ∧ (3 + x2) < (S13.setI b14 ((0 + x2)).toNat (S13.I b15 0)).N b16) ∧ (∀ S18 : MS, S18 = (S13.setI b14 ((0 + x2)).toNat (S13.I b15 0)).setI b16 ((3 + x2)).toNat ((S13.setI b14 ((0 + x2)).toNat (S13.I b15 0)).I b17 1) → S18.K x0 = 10 ∧ ∃ b19, S18.R x0 11 = some b19 ∧ (S18.K x0 = 10 ∧ ∃ b20, S18.R x0 8 = some b20 ∧ (S18.K b20 = 9 ∧ (R32 (S18.I b20 2) ∧ (((S18.I b20 2) = 0) → VX10_walked_113 d Q x0 x1 x2 0 (6 + x2) b19 S18) ∧ (¬ ((S18.I b20 2) = 0) → VX10_walked_113 d Q x0 x1 x2 1 (6 + x2) b19 S18))))))))))))))))))))))))))))))))))
theorem JX10_walked_0 {d : Nat} {S0 : MS} {Q : Out → MS → Prop} (x0 : Nat) (x1 : Int) (x2 : Int) (S : MS) (h : VX10_walked_0 d Q x0 x1 x2 S) : Jw FinM RX10 cX10_walked 4 (some .int) [] yX10_walked (d + 1) S0 S 0 [(0, vA x0), (1, vI x1), (2, vI x2)] [] Q :=
  j_aload_n 0 dX10_walked_0 rfl (j_callV (rest := []) 10 [] k_RX10_214 ⟨w_2_57, p_1_0⟩ ⟨_, _, rfl⟩ (by decide) rfl rfl (Nat.le_of_ble_eq_true rfl) dX10_walked_1 h (kA (fun r1 S1 h => j_astore_n (lv2 := [(3, vA r1), (0, vA x0), (1, vI x1), (2, vI x2)]) dX10_walked_4 (by decide) rfl (j_aload_n 1 dX10_walked_5 rfl (j_getR 10 11 f_RX10_76 dX10_walked_6 h (fun b2 h => j_iconst dX10_walked_9 (j_iload_n 3 dX10_walked_10 rfl (j_iadd dX10_walked_11 (j_iald dX10_walked_12 h (fun h => j_bipush dX10_walked_13 rfl (j_icmp_ne (tgt := 114) dX10_walked_15 (by decide) h (fun h => j_sub [1, 2, 3] rfl (JX10_walked_114 _ _ _ _ h)) (fun h => j_aload_n 1 dX10_walked_18 rfl (j_getR 10 8 f_RX10_58 dX10_walked_19 h (fun b3 h => j_callV (rest := []) 9 [] k_RX10_401 ⟨w_3_160, w_3_161⟩ ⟨_, _, rfl⟩ (by decide) rfl rfl (Nat.le_of_ble_eq_true rfl) dX10_walked_22 h (kV (fun S4 h => j_aload_n 1 dX10_walked_25 rfl (j_getR 10 7 f_RX10_51 dX10_walked_26 h (fun b5 h => j_iconst dX10_walked_29 (j_aald 19 dX10_walked_30 h (fun b6 h => j_aload_n 0 dX10_walked_31 rfl (j_callV (rest := []) 5 [vA r1] k_RX10_379 ⟨w_3_164, w_3_165⟩ ⟨_, _, rfl⟩ (by decide) rfl rfl (Nat.le_of_ble_eq_true rfl) dX10_walked_32 h (kV (fun S7 h => j_aload_n 1 dX10_walked_35 rfl (j_getR 10 8 f_RX10_58 dX10_walked_36 h (fun b8 h => j_aload_n 1 dX10_walked_39 rfl (j_callV (rest := [vA b8]) 10 [] k_RX10_229 ⟨w_2_61, p_1_1⟩ ⟨_, _, rfl⟩ (by decide) rfl rfl (Nat.le_of_ble_eq_true rfl) dX10_walked_40 h (kA (fun r9 S9 h => j_aload_n 1 dX10_walked_43 rfl (j_callV (rest := [vA r9, vA b8]) 10 [] k_RX10_229 ⟨w_2_61, p_1_1⟩ ⟨_, _, rfl⟩ (by decide) rfl rfl (Nat.le_of_ble_eq_true rfl) dX10_walked_44 h (kA (fun r10 S10 h => j_iload_n 3 dX10_walked_47 rfl (j_callV (rest := [vA r9, vA b8]) 0 [vI x2] k_RX10_390 ⟨w_2_219, w_2_220⟩ ⟨_, _, rfl⟩ (by decide) rfl rfl (Nat.le_of_ble_eq_true rfl) dX10_walked_48 h (kA (fun r11 S11 h => j_aload_n 1 dX10_walked_51 rfl (j_getR 10 7 f_RX10_51 dX10_walked_52 h (fun b12 h => j_iconst dX10_walked_55 (j_iconst dX10_walked_56 (j_callVN (rest := []) 9 [vA r9, vA r11, vA b12, vI 0, vI ((-1))] k_RX10_404 ⟨w_3_169, p_1_13⟩ ⟨_, _, rfl⟩ (by decide) rfl rfl (Nat.le_of_ble_eq_true rfl) dX10_walked_57 h (kV (fun S13 h => j_aload_n 1 dX10_walked_60 rfl (j_getR 10 11 f_RX10_76 dX10_walked_61 h (fun b14 h => j_iconst dX10_walked_64 (j_iload_n 3 dX10_walked_65 rfl (j_iadd dX10_walked_66 (j_aload_n 1 dX10_walked_67 rfl (j_getR 10 8 f_RX10_58 dX10_walked_68 h (fun b15 h => j_getI 9 0 f_RX10_408 dX10_walked_71 h (fun h => j_iast dX10_walked_74 h (fun h => j_aload_n 1 dX10_walked_75 rfl (j_getR 10 11 f_RX10_76 dX10_walked_76 h (fun b16 h => j_iconst dX10_walked_79 (j_iload_n 3 dX10_walked_80 rfl (j_iadd dX10_walked_81 (j_aload_n 1 dX10_walked_82 rfl (j_getR 10 8 f_RX10_58 dX10_walked_83 h (fun b17 h => j_getI 9 1 f_RX10_486 dX10_walked_86 h (fun h => j_iast dX10_walked_89 h (fun h => j_bind h (fun S18 h => j_aload_n 1 dX10_walked_90 rfl (j_getR 10 11 f_RX10_76 dX10_walked_91 h (fun b19 h => j_bipush dX10_walked_94 rfl (j_iload_n 3 dX10_walked_96 rfl (j_iadd dX10_walked_97 (j_aload_n 1 dX10_walked_98 rfl (j_getR 10 8 f_RX10_58 dX10_walked_99 h (fun b20 h => j_getI 9 2 f_RX10_489 dX10_walked_102 h (fun h => j_if_eq (tgt := 112) dX10_walked_105 (by decide) h (fun h => j_iconst dX10_walked_112 (j_sub [1, 2, 3] rfl (JX10_walked_113 _ _ _ _ _ _ _ h))) (fun h => j_iconst dX10_walked_108 (j_goto (tgt := 113) dX10_walked_109 (by decide) (j_sub [1, 2, 3] rfl (JX10_walked_113 _ _ _ _ _ _ _ h))))))))))))))))))))))))))))))))))))))) (fun _ _ h => h.elim)))) (fun _ _ h => h.elim)))) (fun _ _ h => h.elim)))))) (fun _ _ h => h.elim)))))))) (fun _ _ h => h.elim)))))))))))))) (fun _ _ h => h.elim))
theorem MX10_walked {d : Nat} {x0 : Nat} {x1 : Int} {x2 : Int} {S : MS} {Q : Out → MS → Prop} (h : VX10_walked_0 d Q x0 x1 x2 S) : Mw hX10_walked yX10_walked (d + 1) [vA x0, vI x1, vI x2] S Q := Mw.ofJ (by decide) (Nat.le_of_ble_eq_true rfl) (JX10_walked_0 _ _ _ S h)
theorem dX10_play_0 : decode cX10_play 0 = .ok (.aload_n 0, 1) := by decide +kernel
theorem dX10_play_1 : decode cX10_play 1 = .ok (.invokevirtual 229, 3) := by decide +kernel
theorem dX10_play_4 : decode cX10_play 4 = .ok (.iload_n 2, 1) := by decide +kernel
theorem dX10_play_5 : decode cX10_play 5 = .ok (.invokevirtual 390, 3) := by decide +kernel
theorem dX10_play_8 : decode cX10_play 8 = .ok (.astore 5, 2) := by decide +kernel
theorem dX10_play_10 : decode cX10_play 10 = .ok (.iload 4, 2) := by decide +kernel
theorem dX10_play_12 : decode cX10_play 12 = .ok (.istore 6, 2) := by decide +kernel
theorem dX10_play_14 : decode cX10_play 14 = .ok (.iconst 0, 1) := by decide +kernel
theorem dX10_play_15 : decode cX10_play 15 = .ok (.istore 7, 2) := by decide +kernel
theorem dX10_play_17 : decode cX10_play 17 = .ok (.iconst 0, 1) := by decide +kernel
theorem dX10_play_18 : decode cX10_play 18 = .ok (.istore 8, 2) := by decide +kernel
theorem dX10_play_20 : decode cX10_play 20 = .ok (.iload 8, 2) := by decide +kernel
theorem dX10_play_22 : decode cX10_play 22 = .ok (.bipush 40, 2) := by decide +kernel
theorem dX10_play_24 : decode cX10_play 24 = .ok (.if_icmp .ge 100, 3) := by decide +kernel
theorem dX10_play_27 : decode cX10_play 27 = .ok (.aload 5, 2) := by decide +kernel
theorem dX10_play_29 : decode cX10_play 29 = .ok (.aload 5, 2) := by decide +kernel
theorem dX10_play_31 : decode cX10_play 31 = .ok (.aload_n 0, 1) := by decide +kernel
theorem dX10_play_32 : decode cX10_play 32 = .ok (.invokevirtual 229, 3) := by decide +kernel
theorem dX10_play_35 : decode cX10_play 35 = .ok (.aload_n 1, 1) := by decide +kernel
theorem dX10_play_36 : decode cX10_play 36 = .ok (.invokevirtual 411, 3) := by decide +kernel
theorem dX10_play_39 : decode cX10_play 39 = .ok (.invokevirtual 330, 3) := by decide +kernel
theorem dX10_play_42 : decode cX10_play 42 = .ok (.istore 9, 2) := by decide +kernel
theorem dX10_play_44 : decode cX10_play 44 = .ok (.iload 9, 2) := by decide +kernel
theorem dX10_play_46 : decode cX10_play 46 = .ok (.iconst (-1), 1) := by decide +kernel
theorem dX10_play_47 : decode cX10_play 47 = .ok (.if_icmp .ne 6, 3) := by decide +kernel
theorem dX10_play_50 : decode cX10_play 50 = .ok (.goto 74, 3) := by decide +kernel
theorem dX10_play_53 : decode cX10_play 53 = .ok (.ldc_w 492, 3) := by decide +kernel
theorem dX10_play_56 : decode cX10_play 56 = .ok (.iload 6, 2) := by decide +kernel
theorem dX10_play_58 : decode cX10_play 58 = .ok (.imul, 1) := by decide +kernel
theorem dX10_play_59 : decode cX10_play 59 = .ok (.sipush 12345, 3) := by decide +kernel
theorem dX10_play_62 : decode cX10_play 62 = .ok (.iadd, 1) := by decide +kernel
theorem dX10_play_63 : decode cX10_play 63 = .ok (.istore 6, 2) := by decide +kernel
theorem dX10_play_65 : decode cX10_play 65 = .ok (.aload_n 0, 1) := by decide +kernel
theorem dX10_play_66 : decode cX10_play 66 = .ok (.getfield 24, 3) := by decide +kernel
theorem dX10_play_69 : decode cX10_play 69 = .ok (.iload_n 2, 1) := by decide +kernel
theorem dX10_play_70 : decode cX10_play 70 = .ok (.iload 9, 2) := by decide +kernel
theorem dX10_play_72 : decode cX10_play 72 = .ok (.invokevirtual 176, 3) := by decide +kernel
theorem dX10_play_75 : decode cX10_play 75 = .ok (.istore 10, 2) := by decide +kernel
theorem dX10_play_77 : decode cX10_play 77 = .ok (.iload 6, 2) := by decide +kernel
theorem dX10_play_79 : decode cX10_play 79 = .ok (.bipush 16, 2) := by decide +kernel
theorem dX10_play_81 : decode cX10_play 81 = .ok (.iushr, 1) := by decide +kernel
theorem dX10_play_82 : decode cX10_play 82 = .ok (.sipush 32767, 3) := by decide +kernel
theorem dX10_play_85 : decode cX10_play 85 = .ok (.iand, 1) := by decide +kernel
theorem dX10_play_86 : decode cX10_play 86 = .ok (.bipush 100, 2) := by decide +kernel
theorem dX10_play_88 : decode cX10_play 88 = .ok (.irem, 1) := by decide +kernel
theorem dX10_play_89 : decode cX10_play 89 = .ok (.iload_n 3, 1) := by decide +kernel
theorem dX10_play_90 : decode cX10_play 90 = .ok (.if_icmp .ge 12, 3) := by decide +kernel
theorem dX10_play_93 : decode cX10_play 93 = .ok (.iload 9, 2) := by decide +kernel
theorem dX10_play_95 : decode cX10_play 95 = .ok (.iload 10, 2) := by decide +kernel
theorem dX10_play_97 : decode cX10_play 97 = .ok (.invokestatic 493, 3) := by decide +kernel
theorem dX10_play_100 : decode cX10_play 100 = .ok (.istore 10, 2) := by decide +kernel
theorem dX10_play_102 : decode cX10_play 102 = .ok (.aload_n 1, 1) := by decide +kernel
theorem dX10_play_103 : decode cX10_play 103 = .ok (.aload 5, 2) := by decide +kernel
theorem dX10_play_105 : decode cX10_play 105 = .ok (.iload 9, 2) := by decide +kernel
theorem dX10_play_107 : decode cX10_play 107 = .ok (.iload 10, 2) := by decide +kernel
theorem dX10_play_109 : decode cX10_play 109 = .ok (.invokevirtual 419, 3) := by decide +kernel
theorem dX10_play_112 : decode cX10_play 112 = .ok (.invokevirtual 422, 3) := by decide +kernel
theorem dX10_play_115 : decode cX10_play 115 = .ok (.iinc 7 1, 3) := by decide +kernel
theorem dX10_play_118 : decode cX10_play 118 = .ok (.iinc 8 1, 3) := by decide +kernel
theorem dX10_play_121 : decode cX10_play 121 = .ok (.goto (-101), 3) := by decide +kernel
theorem dX10_play_124 : decode cX10_play 124 = .ok (.iload 7, 2) := by decide +kernel
theorem dX10_play_126 : decode cX10_play 126 = .ok (.ireturn, 1) := by decide +kernel
def VX10_play_102 (d : Nat) (c20 : Nat → Nat → Int → Int → Nat → Int → Int → Int → MS → Prop) (Q : Out → MS → Prop) (x0 : Nat) (x1 : Nat) (x2 : Int) (x3 : Int) (x5 : Nat) (x6 : Int) (x7 : Int) (x8 : Int) (x9 : Int) (x10 : Int) (S : MS) : Prop :=
  S.K x5 = 2 ∧ Mw hX2_rising yX2_rising d [vA x5, vI x9, vI x10] S (oA (fun r1 S1 => S1.K x1 = 5 ∧ Mw hX5_narrow yX5_narrow d [vA x1, vA r1] S1 (oV (fun S2 => c20 x0 x1 x2 x3 x5 x6 (x7 + 1) (x8 + 1) S2))))
theorem JX10_play_102 {d : Nat} {c20 : Nat → Nat → Int → Int → Nat → Int → Int → Int → MS → Prop} {S0 : MS} {Q : Out → MS → Prop} (hc20 : ∀ (x0 : Nat) (x1 : Nat) (x2 : Int) (x3 : Int) (x5 : Nat) (x6 : Int) (x7 : Int) (x8 : Int) (S : MS), c20 x0 x1 x2 x3 x5 x6 x7 x8 S → Jw FinM RX10 cX10_play 11 (some .int) [] yX10_play (d + 1) S0 S 20 [(0, vA x0), (1, vA x1), (2, vI x2), (3, vI x3), (5, vA x5), (6, vI x6), (7, vI x7), (8, vI x8)] [] Q) (x0 : Nat) (x1 : Nat) (x2 : Int) (x3 : Int) (x5 : Nat) (x6 : Int) (x7 : Int) (x8 : Int) (x9 : Int) (x10 : Int) (S : MS) (h : VX10_play_102 d c20 Q x0 x1 x2 x3 x5 x6 x7 x8 x9 x10 S) : Jw FinM RX10 cX10_play 11 (some .int) [] yX10_play (d + 1) S0 S 102 [(0, vA x0), (1, vA x1), (2, vI x2), (3, vI x3), (5, vA x5), (6, vI x6), (7, vI x7), (8, vI x8), (9, vI x9), (10, vI x10)] [] Q :=
  j_aload_n 1 dX10_play_102 rfl (j_aload 4 dX10_play_103 rfl (j_iload 8 dX10_play_105 rfl (j_iload 9 dX10_play_107 rfl (j_callV (rest := [vA x1]) 2 [vI x9, vI x10] k_RX10_419 ⟨w_2_225, w_2_226⟩ ⟨_, _, rfl⟩ (by decide) rfl rfl (Nat.le_of_ble_eq_true rfl) dX10_play_109 h (kA (fun r1 S1 h => j_callV (rest := []) 5 [vA r1] k_RX10_422 ⟨w_3_110, w_3_111⟩ ⟨_, _, rfl⟩ (by decide) rfl rfl (Nat.le_of_ble_eq_true rfl) dX10_play_112 h (kV (fun S2 h => j_iinc 6 (lv2 := [(7, vI (x7 + 1)), (0, vA x0), (1, vA x1), (2, vI x2), (3, vI x3), (5, vA x5), (6, vI x6), (8, vI x8), (9, vI x9), (10, vI x10)]) dX10_play_115 rfl (by decide) rfl (j_iinc 7 (lv2 := [(8, vI (x8 + 1)), (7, vI (x7 + 1)), (0, vA x0), (1, vA x1), (2, vI x2), (3, vI x3), (5, vA x5), (6, vI x6), (9, vI x9), (10, vI x10)]) dX10_play_118 rfl (by decide) rfl (j_goto (tgt := 20) dX10_play_121 (by decide) (j_sub [2, 3, 4, 5, 6, 7, 1, 0] rfl (hc20 _ _ _ _ _ _ _ _ _ h)))))) (fun _ _ h => h.elim))) (fun _ _ h => h.elim)))))
def VX10_play_124 (d : Nat) (Q : Out → MS → Prop) (x7 : Int) (S : MS) : Prop :=
  Q (.inl (some (vI x7))) S
theorem JX10_play_124 {d : Nat} {S0 : MS} {Q : Out → MS → Prop} (x7 : Int) (S : MS) (h : VX10_play_124 d Q x7 S) : Jw FinM RX10 cX10_play 11 (some .int) [] yX10_play (d + 1) S0 S 124 [(7, vI x7)] [] Q :=
  j_iload 0 dX10_play_124 rfl (j_iret rfl dX10_play_126 h)
def VX10_play_20 (d : Nat) (Q : Out → MS → Prop) : Nat → Nat → Nat → Int → Int → Nat → Int → Int → Int → MS → Prop
  | 0, _, _, _, _, _, _, _, _, _ => False
  | n + 1, x0, x1, x2, x3, x5, x6, x7, x8, S => (R32 x8 ∧ R32 (40 : Int)) ∧ (((40 : Int) ≤ x8) → VX10_play_124 d Q x7 S) ∧ (¬ ((40 : Int) ≤ x8) → S.K x0 = 10 ∧ Mw hX10_allRows yX10_allRows d [vA x0] S (oA (fun r1 S1 => S1.K x5 = 2 ∧ Mw hX2_parting yX2_parting d [vA x5, vA r1, vA x1] S1 (oI (fun r2 S2 => S2.K x5 = 2 ∧ Mw hX2_setAt yX2_setAt d [vA x5, vI r2] S2 (oI (fun r3 S3 => (R32 r3 ∧ R32 ((-1) : Int)) ∧ (¬ (r3 = ((-1) : Int)) → S3.K x0 = 10 ∧ ∃ b4, S3.R x0 2 = some b4 ∧ (S3.K b4 = 7 ∧ Mw hX7_riser yX7_riser d [vA b4, vI x2, vI r3] S3 (oI (fun r5 S5 => (R32 (100 : Int) ∧ (100 : Int) ≠ 0) ∧ ((R32 (iRem (iAnd (iUshr ((1103515245 * x6) + 12345) 16) 32767) 100) ∧ R32 x3) ∧ ((x3 ≤ (iRem (iAnd (iUshr ((1103515245 * x6) + 12345) 16) 32767) 100)) → VX10_play_102 d (VX10_play_20 d Q n) Q x0 x1 x2 x3 x5 ((1103515245 * x6) + 12345) x7 x8 r3 r5 S5) ∧ (¬ (x3 ≤ (iRem (iAnd (iUshr ((1103515245 * x6) + 12345) 16) 32767) 100)) → Mw hX10_behind yX10_behind d [vI r3, vI r5] S5 (oI (fun r6 S6 => VX10_play_102 d (VX10_play_20 d Q n) Q x0 x1 x2 x3 x5 ((1103515245 * x6) + 12345) x7 x8 r3 r6 S6)))))))) ∧ ((r3 = ((-1) : Int)) → VX10_play_124 d Q x7 S3))))))))
theorem JX10_play_20 {d : Nat} {S0 : MS} {Q : Out → MS → Prop} : ∀ (n : Nat) (x0 : Nat) (x1 : Nat) (x2 : Int) (x3 : Int) (x5 : Nat) (x6 : Int) (x7 : Int) (x8 : Int) (S : MS), VX10_play_20 d Q n x0 x1 x2 x3 x5 x6 x7 x8 S → Jw FinM RX10 cX10_play 11 (some .int) [] yX10_play (d + 1) S0 S 20 [(0, vA x0), (1, vA x1), (2, vI x2), (3, vI x3), (5, vA x5), (6, vI x6), (7, vI x7), (8, vI x8)] [] Q := by
  intro n
  induction n with
  | zero => intro x0 x1 x2 x3 x5 x6 x7 x8 S h; exact h.elim
  | succ n ih =>
    intro x0 x1 x2 x3 x5 x6 x7 x8 S h
    exact j_iload 7 dX10_play_20 rfl (j_bipush dX10_play_22 rfl (j_icmp_ge (tgt := 124) dX10_play_24 (by decide) h (fun h => j_sub [6] rfl (JX10_play_124 _ _ h)) (fun h => j_aload 4 dX10_play_27 rfl (j_aload 4 dX10_play_29 rfl (j_aload_n 0 dX10_play_31 rfl (j_callV (rest := [vA x5, vA x5]) 10 [] k_RX10_229 ⟨w_2_61, p_1_1⟩ ⟨_, _, rfl⟩ (by decide) rfl rfl (Nat.le_of_ble_eq_true rfl) dX10_play_32 h (kA (fun r1 S1 h => j_aload_n 1 dX10_play_35 rfl (j_callV (rest := [vA x5]) 2 [vA r1, vA x1] k_RX10_411 ⟨w_3_182, w_3_183⟩ ⟨_, _, rfl⟩ (by decide) rfl rfl (Nat.le_of_ble_eq_true rfl) dX10_play_36 h (kI (fun r2 S2 h => j_callV (rest := []) 2 [vI r2] k_RX10_330 ⟨w_6_48, w_6_49⟩ ⟨_, _, rfl⟩ (by decide) rfl rfl (Nat.le_of_ble_eq_true rfl) dX10_play_39 h (kI (fun r3 S3 h => j_istore (lv2 := [(9, vI r3), (0, vA x0), (1, vA x1), (2, vI x2), (3, vI x3), (5, vA x5), (6, vI x6), (7, vI x7), (8, vI x8)]) dX10_play_42 (by decide) rfl (j_iload 0 dX10_play_44 rfl (j_iconst dX10_play_46 (j_icmp_ne (tgt := 53) dX10_play_47 (by decide) h (fun h => j_ldc_w dX10_play_53 w_6_160 rfl (j_iload 6 dX10_play_56 rfl (j_imul dX10_play_58 (j_sipush dX10_play_59 rfl (j_iadd dX10_play_62 (j_istore (lv2 := [(6, vI ((1103515245 * x6) + 12345)), (9, vI r3), (0, vA x0), (1, vA x1), (2, vI x2), (3, vI x3), (5, vA x5), (7, vI x7), (8, vI x8)]) dX10_play_63 (by decide) rfl (j_aload_n 2 dX10_play_65 rfl (j_getR 10 2 f_RX10_24 dX10_play_66 h (fun b4 h => j_iload_n 4 dX10_play_69 rfl (j_iload 1 dX10_play_70 rfl (j_callV (rest := []) 7 [vI x2, vI r3] k_RX10_176 ⟨w_4_13, w_4_14⟩ ⟨_, _, rfl⟩ (by decide) rfl rfl (Nat.le_of_ble_eq_true rfl) dX10_play_72 h (kI (fun r5 S5 h => j_istore (lv2 := [(10, vI r5), (6, vI ((1103515245 * x6) + 12345)), (9, vI r3), (0, vA x0), (1, vA x1), (2, vI x2), (3, vI x3), (5, vA x5), (7, vI x7), (8, vI x8)]) dX10_play_75 (by decide) rfl (j_iload 1 dX10_play_77 rfl (j_bipush dX10_play_79 rfl (j_iushr dX10_play_81 (j_sipush dX10_play_82 rfl (j_iand dX10_play_85 (j_bipush dX10_play_86 rfl (j_irem dX10_play_88 h (fun h => j_iload_n 6 dX10_play_89 rfl (j_icmp_ge (tgt := 102) dX10_play_90 (by decide) h (fun h => j_sub [3, 4, 5, 6, 7, 1, 8, 9, 2, 0] rfl (JX10_play_102 ih _ _ _ _ _ _ _ _ _ _ _ h)) (fun h => j_iload 2 dX10_play_93 rfl (j_iload 0 dX10_play_95 rfl (j_callS (rest := []) [vI r3, vI r5] k_RX10_493 w_6_162 rfl rfl (Nat.le_of_ble_eq_true rfl) dX10_play_97 h (kI (fun r6 S6 h => j_istore (lv2 := [(10, vI r6), (6, vI ((1103515245 * x6) + 12345)), (9, vI r3), (0, vA x0), (1, vA x1), (2, vI x2), (3, vI x3), (5, vA x5), (7, vI x7), (8, vI x8)]) dX10_play_100 (by decide) rfl (j_sub [3, 4, 5, 6, 7, 1, 8, 9, 2, 0] rfl (JX10_play_102 ih _ _ _ _ _ _ _ _ _ _ _ h)))) (fun _ _ h => h.elim))))))))))))))) (fun _ _ h => h.elim)))))))))))) (fun h => j_goto (tgt := 124) dX10_play_50 (by decide) (j_sub [7] rfl (JX10_play_124 _ _ h)))))))) (fun _ _ h => h.elim))) (fun _ _ h => h.elim)))) (fun _ _ h => h.elim)))))))
def VX10_play_0 (d : Nat) (Q : Out → MS → Prop) (x0 : Nat) (x1 : Nat) (x2 : Int) (x3 : Int) (x4 : Int) (S : MS) : Prop :=
  S.K x0 = 10 ∧ Mw hX10_allRows yX10_allRows d [vA x0] S (oA (fun r1 S1 => S1.K r1 = 0 ∧ Mw hX0_layings yX0_layings d [vA r1, vI x2] S1 (oA (fun r2 S2 => ∃ m, VX10_play_20 d Q m x0 x1 x2 x3 r2 x4 0 0 S2))))
theorem JX10_play_0 {d : Nat} {S0 : MS} {Q : Out → MS → Prop} (x0 : Nat) (x1 : Nat) (x2 : Int) (x3 : Int) (x4 : Int) (S : MS) (h : VX10_play_0 d Q x0 x1 x2 x3 x4 S) : Jw FinM RX10 cX10_play 11 (some .int) [] yX10_play (d + 1) S0 S 0 [(0, vA x0), (1, vA x1), (2, vI x2), (3, vI x3), (4, vI x4)] [] Q :=
  j_aload_n 0 dX10_play_0 rfl (j_callV (rest := []) 10 [] k_RX10_229 ⟨w_2_61, p_1_1⟩ ⟨_, _, rfl⟩ (by decide) rfl rfl (Nat.le_of_ble_eq_true rfl) dX10_play_1 h (kA (fun r1 S1 h => j_iload_n 2 dX10_play_4 rfl (j_callV (rest := []) 0 [vI x2] k_RX10_390 ⟨w_2_219, w_2_220⟩ ⟨_, _, rfl⟩ (by decide) rfl rfl (Nat.le_of_ble_eq_true rfl) dX10_play_5 h (kA (fun r2 S2 h => j_astore (lv2 := [(5, vA r2), (0, vA x0), (1, vA x1), (2, vI x2), (3, vI x3), (4, vI x4)]) dX10_play_8 (by decide) rfl (j_iload 5 dX10_play_10 rfl (j_istore (lv2 := [(6, vI x4), (5, vA r2), (0, vA x0), (1, vA x1), (2, vI x2), (3, vI x3), (4, vI x4)]) dX10_play_12 (by decide) rfl (j_iconst dX10_play_14 (j_istore (lv2 := [(7, vI 0), (6, vI x4), (5, vA r2), (0, vA x0), (1, vA x1), (2, vI x2), (3, vI x3), (4, vI x4)]) dX10_play_15 (by decide) rfl (j_iconst dX10_play_17 (j_istore (lv2 := [(8, vI 0), (7, vI 0), (6, vI x4), (5, vA r2), (0, vA x0), (1, vA x1), (2, vI x2), (3, vI x3), (4, vI x4)]) dX10_play_18 (by decide) rfl (Exists.elim h (fun m h => j_sub [4, 5, 6, 7, 3, 2, 1, 0] rfl (JX10_play_20 m _ _ _ _ _ _ _ _ _ h))))))))))) (fun _ _ h => h.elim)))) (fun _ _ h => h.elim))
theorem MX10_play {d : Nat} {x0 : Nat} {x1 : Nat} {x2 : Int} {x3 : Int} {x4 : Int} {S : MS} {Q : Out → MS → Prop} (h : VX10_play_0 d Q x0 x1 x2 x3 x4 S) : Mw hX10_play yX10_play (d + 1) [vA x0, vA x1, vI x2, vI x3, vI x4] S Q := Mw.ofJ (by decide) (Nat.le_of_ble_eq_true rfl) (JX10_play_0 _ _ _ _ _ S h)
theorem dX10_within_0 : decode cX10_within 0 = .ok (.iload_n 0, 1) := by decide +kernel
theorem dX10_within_1 : decode cX10_within 1 = .ok (.ifCond .lt 12, 3) := by decide +kernel
theorem dX10_within_4 : decode cX10_within 4 = .ok (.iload_n 0, 1) := by decide +kernel
theorem dX10_within_5 : decode cX10_within 5 = .ok (.iload_n 1, 1) := by decide +kernel
theorem dX10_within_6 : decode cX10_within 6 = .ok (.if_icmp .gt 7, 3) := by decide +kernel
theorem dX10_within_9 : decode cX10_within 9 = .ok (.iconst 1, 1) := by decide +kernel
theorem dX10_within_10 : decode cX10_within 10 = .ok (.goto 4, 3) := by decide +kernel
theorem dX10_within_13 : decode cX10_within 13 = .ok (.iconst 0, 1) := by decide +kernel
theorem dX10_within_14 : decode cX10_within 14 = .ok (.ireturn, 1) := by decide +kernel
def VX10_within_0 (d : Nat) (Q : Out → MS → Prop) (x0 : Int) (x1 : Int) (S : MS) : Prop :=
  R32 x0 ∧ ((x0 < 0) → B01 0 ∧ Q (.inl (some (vI 0))) S) ∧ (¬ (x0 < 0) → (R32 x0 ∧ R32 x1) ∧ ((x1 < x0) → B01 0 ∧ Q (.inl (some (vI 0))) S) ∧ (¬ (x1 < x0) → B01 1 ∧ Q (.inl (some (vI 1))) S))
theorem JX10_within_0 {d : Nat} {S0 : MS} {Q : Out → MS → Prop} (x0 : Int) (x1 : Int) (S : MS) (h : VX10_within_0 d Q x0 x1 S) : Jw FinM RX10 cX10_within 2 (some .boolean) [] yX10_within (d + 1) S0 S 0 [(0, vI x0), (1, vI x1)] [] Q :=
  j_iload_n 0 dX10_within_0 rfl (j_if_lt (tgt := 13) dX10_within_1 (by decide) h (fun h => j_iconst dX10_within_13 (j_zret rfl dX10_within_14 h)) (fun h => j_iload_n 0 dX10_within_4 rfl (j_iload_n 1 dX10_within_5 rfl (j_icmp_gt (tgt := 13) dX10_within_6 (by decide) h (fun h => j_iconst dX10_within_13 (j_zret rfl dX10_within_14 h)) (fun h => j_iconst dX10_within_9 (j_goto (tgt := 14) dX10_within_10 (by decide) (j_zret rfl dX10_within_14 h)))))))
theorem MX10_within {d : Nat} {x0 : Int} {x1 : Int} {S : MS} {Q : Out → MS → Prop} (h : VX10_within_0 d Q x0 x1 S) : Mw hX10_within yX10_within (d + 1) [vI x0, vI x1] S Q := Mw.ofJ (by decide) (Nat.le_of_ble_eq_true rfl) (JX10_within_0 _ _ S h)
theorem dX10_holds_0 : decode cX10_holds 0 = .ok (.iload_n 0, 1) := by decide +kernel
theorem dX10_holds_1 : decode cX10_holds 1 = .ok (.iload_n 1, 1) := by decide +kernel
theorem dX10_holds_2 : decode cX10_holds 2 = .ok (.ishr, 1) := by decide +kernel
theorem dX10_holds_3 : decode cX10_holds 3 = .ok (.iconst 1, 1) := by decide +kernel
theorem dX10_holds_4 : decode cX10_holds 4 = .ok (.iand, 1) := by decide +kernel
theorem dX10_holds_5 : decode cX10_holds 5 = .ok (.iconst 1, 1) := by decide +kernel
theorem dX10_holds_6 : decode cX10_holds 6 = .ok (.if_icmp .ne 7, 3) := by decide +kernel
theorem dX10_holds_9 : decode cX10_holds 9 = .ok (.iconst 1, 1) := by decide +kernel
theorem dX10_holds_10 : decode cX10_holds 10 = .ok (.goto 4, 3) := by decide +kernel
theorem dX10_holds_13 : decode cX10_holds 13 = .ok (.iconst 0, 1) := by decide +kernel
theorem dX10_holds_14 : decode cX10_holds 14 = .ok (.ireturn, 1) := by decide +kernel
def VX10_holds_0 (d : Nat) (Q : Out → MS → Prop) (x0 : Int) (x1 : Int) (S : MS) : Prop :=
  (R32 (iAnd (iShr x0 x1) 1) ∧ R32 (1 : Int)) ∧ (¬ ((iAnd (iShr x0 x1) 1) = (1 : Int)) → B01 0 ∧ Q (.inl (some (vI 0))) S) ∧ (((iAnd (iShr x0 x1) 1) = (1 : Int)) → B01 1 ∧ Q (.inl (some (vI 1))) S)
theorem JX10_holds_0 {d : Nat} {S0 : MS} {Q : Out → MS → Prop} (x0 : Int) (x1 : Int) (S : MS) (h : VX10_holds_0 d Q x0 x1 S) : Jw FinM RX10 cX10_holds 2 (some .boolean) [] yX10_holds (d + 1) S0 S 0 [(0, vI x0), (1, vI x1)] [] Q :=
  j_iload_n 0 dX10_holds_0 rfl (j_iload_n 1 dX10_holds_1 rfl (j_ishr dX10_holds_2 (j_iconst dX10_holds_3 (j_iand dX10_holds_4 (j_iconst dX10_holds_5 (j_icmp_ne (tgt := 13) dX10_holds_6 (by decide) h (fun h => j_iconst dX10_holds_13 (j_zret rfl dX10_holds_14 h)) (fun h => j_iconst dX10_holds_9 (j_goto (tgt := 14) dX10_holds_10 (by decide) (j_zret rfl dX10_holds_14 h)))))))))
theorem MX10_holds {d : Nat} {x0 : Int} {x1 : Int} {S : MS} {Q : Out → MS → Prop} (h : VX10_holds_0 d Q x0 x1 S) : Mw hX10_holds yX10_holds (d + 1) [vI x0, vI x1] S Q := Mw.ofJ (by decide) (Nat.le_of_ble_eq_true rfl) (JX10_holds_0 _ _ S h)
theorem dX10_behind_0 : decode cX10_behind 0 = .ok (.iconst 1, 1) := by decide +kernel
theorem dX10_behind_1 : decode cX10_behind 1 = .ok (.istore_n 2, 1) := by decide +kernel
theorem dX10_behind_2 : decode cX10_behind 2 = .ok (.iload_n 2, 1) := by decide +kernel
theorem dX10_behind_3 : decode cX10_behind 3 = .ok (.bipush 7, 2) := by decide +kernel
theorem dX10_behind_5 : decode cX10_behind 5 = .ok (.if_icmp .ge 26, 3) := by decide +kernel
theorem dX10_behind_8 : decode cX10_behind 8 = .ok (.iload_n 1, 1) := by decide +kernel
theorem dX10_behind_9 : decode cX10_behind 9 = .ok (.iload_n 2, 1) := by decide +kernel
theorem dX10_behind_10 : decode cX10_behind 10 = .ok (.iadd, 1) := by decide +kernel
theorem dX10_behind_11 : decode cX10_behind 11 = .ok (.bipush 7, 2) := by decide +kernel
theorem dX10_behind_13 : decode cX10_behind 13 = .ok (.irem, 1) := by decide +kernel
theorem dX10_behind_14 : decode cX10_behind 14 = .ok (.istore_n 3, 1) := by decide +kernel
theorem dX10_behind_15 : decode cX10_behind 15 = .ok (.iload_n 0, 1) := by decide +kernel
theorem dX10_behind_16 : decode cX10_behind 16 = .ok (.iload_n 3, 1) := by decide +kernel
theorem dX10_behind_17 : decode cX10_behind 17 = .ok (.invokestatic 184, 3) := by decide +kernel
theorem dX10_behind_20 : decode cX10_behind 20 = .ok (.ifCond .eq 5, 3) := by decide +kernel
theorem dX10_behind_23 : decode cX10_behind 23 = .ok (.iload_n 3, 1) := by decide +kernel
theorem dX10_behind_24 : decode cX10_behind 24 = .ok (.ireturn, 1) := by decide +kernel
theorem dX10_behind_25 : decode cX10_behind 25 = .ok (.iinc 2 1, 3) := by decide +kernel
theorem dX10_behind_28 : decode cX10_behind 28 = .ok (.goto (-26), 3) := by decide +kernel
theorem dX10_behind_31 : decode cX10_behind 31 = .ok (.iload_n 1, 1) := by decide +kernel
theorem dX10_behind_32 : decode cX10_behind 32 = .ok (.ireturn, 1) := by decide +kernel
def VX10_behind_2 (d : Nat) (Q : Out → MS → Prop) : Nat → Int → Int → Int → MS → Prop
  | 0, _, _, _, _ => False
  | n + 1, x0, x1, x2, S => (R32 x2 ∧ R32 (7 : Int)) ∧ (((7 : Int) ≤ x2) → Q (.inl (some (vI x1))) S) ∧ (¬ ((7 : Int) ≤ x2) → (R32 (7 : Int) ∧ (7 : Int) ≠ 0) ∧ (Mw hX10_holds yX10_holds d [vI x0, vI (iRem (x1 + x2) 7)] S (oI (fun r1 S1 => R32 r1 ∧ ((r1 = 0) → (VX10_behind_2 d Q n) x0 x1 (x2 + 1) S1) ∧ (¬ (r1 = 0) → Q (.inl (some (vI (iRem (x1 + x2) 7)))) S1)))))
theorem JX10_behind_2 {d : Nat} {S0 : MS} {Q : Out → MS → Prop} : ∀ (n : Nat) (x0 : Int) (x1 : Int) (x2 : Int) (S : MS), VX10_behind_2 d Q n x0 x1 x2 S → Jw FinM RX10 cX10_behind 4 (some .int) [] yX10_behind (d + 1) S0 S 2 [(0, vI x0), (1, vI x1), (2, vI x2)] [] Q := by
  intro n
  induction n with
  | zero => intro x0 x1 x2 S h; exact h.elim
  | succ n ih =>
    intro x0 x1 x2 S h
    exact j_iload_n 2 dX10_behind_2 rfl (j_bipush dX10_behind_3 rfl (j_icmp_ge (tgt := 31) dX10_behind_5 (by decide) h (fun h => j_iload_n 1 dX10_behind_31 rfl (j_iret rfl dX10_behind_32 h)) (fun h => j_iload_n 1 dX10_behind_8 rfl (j_iload_n 2 dX10_behind_9 rfl (j_iadd dX10_behind_10 (j_bipush dX10_behind_11 rfl (j_irem dX10_behind_13 h (fun h => j_istore_n (lv2 := [(3, vI (iRem (x1 + x2) 7)), (0, vI x0), (1, vI x1), (2, vI x2)]) dX10_behind_14 (by decide) rfl (j_iload_n 1 dX10_behind_15 rfl (j_iload_n 0 dX10_behind_16 rfl (j_callS (rest := []) [vI x0, vI (iRem (x1 + x2) 7)] k_RX10_184 w_2_192 rfl rfl (Nat.le_of_ble_eq_true rfl) dX10_behind_17 h (kI (fun r1 S1 h => j_if_eq (tgt := 25) dX10_behind_20 (by decide) h (fun h => j_iinc 3 (lv2 := [(2, vI (x2 + 1)), (3, vI (iRem (x1 + x2) 7)), (0, vI x0), (1, vI x1)]) dX10_behind_25 rfl (by decide) rfl (j_goto (tgt := 2) dX10_behind_28 (by decide) (j_sub [2, 3, 0] rfl (ih _ _ _ _ h)))) (fun h => j_iload_n 0 dX10_behind_23 rfl (j_iret rfl dX10_behind_24 h)))) (fun _ _ h => h.elim))))))))))))
def VX10_behind_0 (d : Nat) (Q : Out → MS → Prop) (x0 : Int) (x1 : Int) (S : MS) : Prop :=
  ∃ m, VX10_behind_2 d Q m x0 x1 1 S
theorem JX10_behind_0 {d : Nat} {S0 : MS} {Q : Out → MS → Prop} (x0 : Int) (x1 : Int) (S : MS) (h : VX10_behind_0 d Q x0 x1 S) : Jw FinM RX10 cX10_behind 4 (some .int) [] yX10_behind (d + 1) S0 S 0 [(0, vI x0), (1, vI x1)] [] Q :=
  j_iconst dX10_behind_0 (j_istore_n (lv2 := [(2, vI 1), (0, vI x0), (1, vI x1)]) dX10_behind_1 (by decide) rfl (Exists.elim h (fun m h => j_sub [1, 2, 0] rfl (JX10_behind_2 m _ _ _ _ h))))
theorem MX10_behind {d : Nat} {x0 : Int} {x1 : Int} {S : MS} {Q : Out → MS → Prop} (h : VX10_behind_0 d Q x0 x1 S) : Mw hX10_behind yX10_behind (d + 1) [vI x0, vI x1] S Q := Mw.ofJ (by decide) (Nat.le_of_ble_eq_true rfl) (JX10_behind_0 _ _ S h)
theorem dX10_pansOf_0 : decode cX10_pansOf 0 = .ok (.iload_n 0, 1) := by decide +kernel
theorem dX10_pansOf_1 : decode cX10_pansOf 1 = .ok (.ifCond .ne 7, 3) := by decide +kernel
theorem dX10_pansOf_4 : decode cX10_pansOf 4 = .ok (.iconst 3, 1) := by decide +kernel
theorem dX10_pansOf_5 : decode cX10_pansOf 5 = .ok (.goto 13, 3) := by decide +kernel
theorem dX10_pansOf_8 : decode cX10_pansOf 8 = .ok (.iload_n 0, 1) := by decide +kernel
theorem dX10_pansOf_9 : decode cX10_pansOf 9 = .ok (.iconst 1, 1) := by decide +kernel
theorem dX10_pansOf_10 : decode cX10_pansOf 10 = .ok (.if_icmp .ne 7, 3) := by decide +kernel
theorem dX10_pansOf_13 : decode cX10_pansOf 13 = .ok (.iconst 4, 1) := by decide +kernel
theorem dX10_pansOf_14 : decode cX10_pansOf 14 = .ok (.goto 4, 3) := by decide +kernel
theorem dX10_pansOf_17 : decode cX10_pansOf 17 = .ok (.iconst 2, 1) := by decide +kernel
theorem dX10_pansOf_18 : decode cX10_pansOf 18 = .ok (.ireturn, 1) := by decide +kernel
def VX10_pansOf_0 (d : Nat) (Q : Out → MS → Prop) (x0 : Int) (S : MS) : Prop :=
  R32 x0 ∧ (¬ (x0 = 0) → (R32 x0 ∧ R32 (1 : Int)) ∧ (¬ (x0 = (1 : Int)) → Q (.inl (some (vI 2))) S) ∧ ((x0 = (1 : Int)) → Q (.inl (some (vI 4))) S)) ∧ ((x0 = 0) → Q (.inl (some (vI 3))) S)
theorem JX10_pansOf_0 {d : Nat} {S0 : MS} {Q : Out → MS → Prop} (x0 : Int) (S : MS) (h : VX10_pansOf_0 d Q x0 S) : Jw FinM RX10 cX10_pansOf 1 (some .int) [] yX10_pansOf (d + 1) S0 S 0 [(0, vI x0)] [] Q :=
  j_iload_n 0 dX10_pansOf_0 rfl (j_if_ne (tgt := 8) dX10_pansOf_1 (by decide) h (fun h => j_iload_n 0 dX10_pansOf_8 rfl (j_iconst dX10_pansOf_9 (j_icmp_ne (tgt := 17) dX10_pansOf_10 (by decide) h (fun h => j_iconst dX10_pansOf_17 (j_iret rfl dX10_pansOf_18 h)) (fun h => j_iconst dX10_pansOf_13 (j_goto (tgt := 18) dX10_pansOf_14 (by decide) (j_iret rfl dX10_pansOf_18 h)))))) (fun h => j_iconst dX10_pansOf_4 (j_goto (tgt := 18) dX10_pansOf_5 (by decide) (j_iret rfl dX10_pansOf_18 h))))
theorem MX10_pansOf {d : Nat} {x0 : Int} {S : MS} {Q : Out → MS → Prop} (h : VX10_pansOf_0 d Q x0 S) : Mw hX10_pansOf yX10_pansOf (d + 1) [vI x0] S Q := Mw.ofJ (by decide) (Nat.le_of_ble_eq_true rfl) (JX10_pansOf_0 _ S h)
theorem dX10_aboveRiser_0 : decode cX10_aboveRiser 0 = .ok (.iload_n 0, 1) := by decide +kernel
theorem dX10_aboveRiser_1 : decode cX10_aboveRiser 1 = .ok (.iconst 2, 1) := by decide +kernel
theorem dX10_aboveRiser_2 : decode cX10_aboveRiser 2 = .ok (.if_icmp .ne 7, 3) := by decide +kernel
theorem dX10_aboveRiser_5 : decode cX10_aboveRiser 5 = .ok (.iconst 0, 1) := by decide +kernel
theorem dX10_aboveRiser_6 : decode cX10_aboveRiser 6 = .ok (.goto 4, 3) := by decide +kernel
theorem dX10_aboveRiser_9 : decode cX10_aboveRiser 9 = .ok (.iconst 1, 1) := by decide +kernel
theorem dX10_aboveRiser_10 : decode cX10_aboveRiser 10 = .ok (.ireturn, 1) := by decide +kernel
def VX10_aboveRiser_0 (d : Nat) (Q : Out → MS → Prop) (x0 : Int) (S : MS) : Prop :=
  (R32 x0 ∧ R32 (2 : Int)) ∧ (¬ (x0 = (2 : Int)) → Q (.inl (some (vI 1))) S) ∧ ((x0 = (2 : Int)) → Q (.inl (some (vI 0))) S)
theorem JX10_aboveRiser_0 {d : Nat} {S0 : MS} {Q : Out → MS → Prop} (x0 : Int) (S : MS) (h : VX10_aboveRiser_0 d Q x0 S) : Jw FinM RX10 cX10_aboveRiser 1 (some .int) [] yX10_aboveRiser (d + 1) S0 S 0 [(0, vI x0)] [] Q :=
  j_iload_n 0 dX10_aboveRiser_0 rfl (j_iconst dX10_aboveRiser_1 (j_icmp_ne (tgt := 9) dX10_aboveRiser_2 (by decide) h (fun h => j_iconst dX10_aboveRiser_9 (j_iret rfl dX10_aboveRiser_10 h)) (fun h => j_iconst dX10_aboveRiser_5 (j_goto (tgt := 10) dX10_aboveRiser_6 (by decide) (j_iret rfl dX10_aboveRiser_10 h)))))
theorem MX10_aboveRiser {d : Nat} {x0 : Int} {S : MS} {Q : Out → MS → Prop} (h : VX10_aboveRiser_0 d Q x0 S) : Mw hX10_aboveRiser yX10_aboveRiser (d + 1) [vI x0] S Q := Mw.ofJ (by decide) (Nat.le_of_ble_eq_true rfl) (JX10_aboveRiser_0 _ S h)
theorem dX10_leastBound_0 : decode cX10_leastBound 0 = .ok (.iconst 0, 1) := by decide +kernel
theorem dX10_leastBound_1 : decode cX10_leastBound 1 = .ok (.istore_n 2, 1) := by decide +kernel
theorem dX10_leastBound_2 : decode cX10_leastBound 2 = .ok (.iconst 2, 1) := by decide +kernel
theorem dX10_leastBound_3 : decode cX10_leastBound 3 = .ok (.istore_n 3, 1) := by decide +kernel
theorem dX10_leastBound_4 : decode cX10_leastBound 4 = .ok (.iload_n 3, 1) := by decide +kernel
theorem dX10_leastBound_5 : decode cX10_leastBound 5 = .ok (.iload_n 0, 1) := by decide +kernel
theorem dX10_leastBound_6 : decode cX10_leastBound 6 = .ok (.if_icmp .ge 19, 3) := by decide +kernel
theorem dX10_leastBound_9 : decode cX10_leastBound 9 = .ok (.iload_n 2, 1) := by decide +kernel
theorem dX10_leastBound_10 : decode cX10_leastBound 10 = .ok (.bipush 40, 2) := by decide +kernel
theorem dX10_leastBound_12 : decode cX10_leastBound 12 = .ok (.if_icmp .ge 13, 3) := by decide +kernel
theorem dX10_leastBound_15 : decode cX10_leastBound 15 = .ok (.iinc 2 1, 3) := by decide +kernel
theorem dX10_leastBound_18 : decode cX10_leastBound 18 = .ok (.iload_n 3, 1) := by decide +kernel
theorem dX10_leastBound_19 : decode cX10_leastBound 19 = .ok (.iload_n 1, 1) := by decide +kernel
theorem dX10_leastBound_20 : decode cX10_leastBound 20 = .ok (.imul, 1) := by decide +kernel
theorem dX10_leastBound_21 : decode cX10_leastBound 21 = .ok (.istore_n 3, 1) := by decide +kernel
theorem dX10_leastBound_22 : decode cX10_leastBound 22 = .ok (.goto (-18), 3) := by decide +kernel
theorem dX10_leastBound_25 : decode cX10_leastBound 25 = .ok (.iload_n 2, 1) := by decide +kernel
theorem dX10_leastBound_26 : decode cX10_leastBound 26 = .ok (.ireturn, 1) := by decide +kernel
def VX10_leastBound_25 (d : Nat) (Q : Out → MS → Prop) (x2 : Int) (S : MS) : Prop :=
  Q (.inl (some (vI x2))) S
theorem JX10_leastBound_25 {d : Nat} {S0 : MS} {Q : Out → MS → Prop} (x2 : Int) (S : MS) (h : VX10_leastBound_25 d Q x2 S) : Jw FinM RX10 cX10_leastBound 4 (some .int) [] yX10_leastBound (d + 1) S0 S 25 [(2, vI x2)] [] Q :=
  j_iload_n 0 dX10_leastBound_25 rfl (j_iret rfl dX10_leastBound_26 h)
def VX10_leastBound_4 (d : Nat) (Q : Out → MS → Prop) : Nat → Int → Int → Int → Int → MS → Prop
  | 0, _, _, _, _, _ => False
  | n + 1, x0, x1, x2, x3, S => (R32 x3 ∧ R32 x0) ∧ ((x0 ≤ x3) → VX10_leastBound_25 d Q x2 S) ∧ (¬ (x0 ≤ x3) → (R32 x2 ∧ R32 (40 : Int)) ∧ (((40 : Int) ≤ x2) → VX10_leastBound_25 d Q x2 S) ∧ (¬ ((40 : Int) ≤ x2) → (VX10_leastBound_4 d Q n) x0 x1 (x2 + 1) (x3 * x1) S))
theorem JX10_leastBound_4 {d : Nat} {S0 : MS} {Q : Out → MS → Prop} : ∀ (n : Nat) (x0 : Int) (x1 : Int) (x2 : Int) (x3 : Int) (S : MS), VX10_leastBound_4 d Q n x0 x1 x2 x3 S → Jw FinM RX10 cX10_leastBound 4 (some .int) [] yX10_leastBound (d + 1) S0 S 4 [(0, vI x0), (1, vI x1), (2, vI x2), (3, vI x3)] [] Q := by
  intro n
  induction n with
  | zero => intro x0 x1 x2 x3 S h; exact h.elim
  | succ n ih =>
    intro x0 x1 x2 x3 S h
    exact j_iload_n 3 dX10_leastBound_4 rfl (j_iload_n 0 dX10_leastBound_5 rfl (j_icmp_ge (tgt := 25) dX10_leastBound_6 (by decide) h (fun h => j_sub [2] rfl (JX10_leastBound_25 _ _ h)) (fun h => j_iload_n 2 dX10_leastBound_9 rfl (j_bipush dX10_leastBound_10 rfl (j_icmp_ge (tgt := 25) dX10_leastBound_12 (by decide) h (fun h => j_sub [2] rfl (JX10_leastBound_25 _ _ h)) (fun h => j_iinc 2 (lv2 := [(2, vI (x2 + 1)), (0, vI x0), (1, vI x1), (3, vI x3)]) dX10_leastBound_15 rfl (by decide) rfl (j_iload_n 3 dX10_leastBound_18 rfl (j_iload_n 2 dX10_leastBound_19 rfl (j_imul dX10_leastBound_20 (j_istore_n (lv2 := [(3, vI (x3 * x1)), (2, vI (x2 + 1)), (0, vI x0), (1, vI x1)]) dX10_leastBound_21 (by decide) rfl (j_goto (tgt := 4) dX10_leastBound_22 (by decide) (j_sub [2, 3, 1, 0] rfl (ih _ _ _ _ _ h)))))))))))))
def VX10_leastBound_0 (d : Nat) (Q : Out → MS → Prop) (x0 : Int) (x1 : Int) (S : MS) : Prop :=
  ∃ m, VX10_leastBound_4 d Q m x0 x1 0 2 S
theorem JX10_leastBound_0 {d : Nat} {S0 : MS} {Q : Out → MS → Prop} (x0 : Int) (x1 : Int) (S : MS) (h : VX10_leastBound_0 d Q x0 x1 S) : Jw FinM RX10 cX10_leastBound 4 (some .int) [] yX10_leastBound (d + 1) S0 S 0 [(0, vI x0), (1, vI x1)] [] Q :=
  j_iconst dX10_leastBound_0 (j_istore_n (lv2 := [(2, vI 0), (0, vI x0), (1, vI x1)]) dX10_leastBound_1 (by decide) rfl (j_iconst dX10_leastBound_2 (j_istore_n (lv2 := [(3, vI 2), (2, vI 0), (0, vI x0), (1, vI x1)]) dX10_leastBound_3 (by decide) rfl (Exists.elim h (fun m h => j_sub [2, 3, 1, 0] rfl (JX10_leastBound_4 m _ _ _ _ _ h))))))
theorem MX10_leastBound {d : Nat} {x0 : Int} {x1 : Int} {S : MS} {Q : Out → MS → Prop} (h : VX10_leastBound_0 d Q x0 x1 S) : Mw hX10_leastBound yX10_leastBound (d + 1) [vI x0, vI x1] S Q := Mw.ofJ (by decide) (Nat.le_of_ble_eq_true rfl) (JX10_leastBound_0 _ _ S h)
theorem dX10_at_0 : decode cX10_at 0 = .ok (.iload_n 0, 1) := by decide +kernel
theorem dX10_at_1 : decode cX10_at 1 = .ok (.iconst 3, 1) := by decide +kernel
theorem dX10_at_2 : decode cX10_at 2 = .ok (.iload_n 1, 1) := by decide +kernel
theorem dX10_at_3 : decode cX10_at 3 = .ok (.imul, 1) := by decide +kernel
theorem dX10_at_4 : decode cX10_at 4 = .ok (.ishr, 1) := by decide +kernel
theorem dX10_at_5 : decode cX10_at 5 = .ok (.bipush 7, 2) := by decide +kernel
theorem dX10_at_7 : decode cX10_at 7 = .ok (.iand, 1) := by decide +kernel
theorem dX10_at_8 : decode cX10_at 8 = .ok (.ireturn, 1) := by decide +kernel
def VX10_at_0 (d : Nat) (Q : Out → MS → Prop) (x0 : Int) (x1 : Int) (S : MS) : Prop :=
  Q (.inl (some (vI (iAnd (iShr x0 (3 * x1)) 7)))) S
theorem JX10_at_0 {d : Nat} {S0 : MS} {Q : Out → MS → Prop} (x0 : Int) (x1 : Int) (S : MS) (h : VX10_at_0 d Q x0 x1 S) : Jw FinM RX10 cX10_at 2 (some .int) [] yX10_at (d + 1) S0 S 0 [(0, vI x0), (1, vI x1)] [] Q :=
  j_iload_n 0 dX10_at_0 rfl (j_iconst dX10_at_1 (j_iload_n 1 dX10_at_2 rfl (j_imul dX10_at_3 (j_ishr dX10_at_4 (j_bipush dX10_at_5 rfl (j_iand dX10_at_7 (j_iret rfl dX10_at_8 h)))))))
theorem MX10_at {d : Nat} {x0 : Int} {x1 : Int} {S : MS} {Q : Out → MS → Prop} (h : VX10_at_0 d Q x0 x1 S) : Mw hX10_at yX10_at (d + 1) [vI x0, vI x1] S Q := Mw.ofJ (by decide) (Nat.le_of_ble_eq_true rfl) (JX10_at_0 _ _ S h)
theorem dX10_commonPart_0 : decode cX10_commonPart 0 = .ok (.iload_n 0, 1) := by decide +kernel
theorem dX10_commonPart_1 : decode cX10_commonPart 1 = .ok (.istore_n 2, 1) := by decide +kernel
theorem dX10_commonPart_2 : decode cX10_commonPart 2 = .ok (.iload_n 1, 1) := by decide +kernel
theorem dX10_commonPart_3 : decode cX10_commonPart 3 = .ok (.istore_n 3, 1) := by decide +kernel
theorem dX10_commonPart_4 : decode cX10_commonPart 4 = .ok (.iconst 0, 1) := by decide +kernel
theorem dX10_commonPart_5 : decode cX10_commonPart 5 = .ok (.istore 4, 2) := by decide +kernel
theorem dX10_commonPart_7 : decode cX10_commonPart 7 = .ok (.iload 4, 2) := by decide +kernel
theorem dX10_commonPart_9 : decode cX10_commonPart 9 = .ok (.bipush 64, 2) := by decide +kernel
theorem dX10_commonPart_11 : decode cX10_commonPart 11 = .ok (.if_icmp .ge 23, 3) := by decide +kernel
theorem dX10_commonPart_14 : decode cX10_commonPart 14 = .ok (.iload_n 3, 1) := by decide +kernel
theorem dX10_commonPart_15 : decode cX10_commonPart 15 = .ok (.ifCond .eq 19, 3) := by decide +kernel
theorem dX10_commonPart_18 : decode cX10_commonPart 18 = .ok (.iload_n 2, 1) := by decide +kernel
theorem dX10_commonPart_19 : decode cX10_commonPart 19 = .ok (.iload_n 3, 1) := by decide +kernel
theorem dX10_commonPart_20 : decode cX10_commonPart 20 = .ok (.irem, 1) := by decide +kernel
theorem dX10_commonPart_21 : decode cX10_commonPart 21 = .ok (.istore 5, 2) := by decide +kernel
theorem dX10_commonPart_23 : decode cX10_commonPart 23 = .ok (.iload_n 3, 1) := by decide +kernel
theorem dX10_commonPart_24 : decode cX10_commonPart 24 = .ok (.istore_n 2, 1) := by decide +kernel
theorem dX10_commonPart_25 : decode cX10_commonPart 25 = .ok (.iload 5, 2) := by decide +kernel
theorem dX10_commonPart_27 : decode cX10_commonPart 27 = .ok (.istore_n 3, 1) := by decide +kernel
theorem dX10_commonPart_28 : decode cX10_commonPart 28 = .ok (.iinc 4 1, 3) := by decide +kernel
theorem dX10_commonPart_31 : decode cX10_commonPart 31 = .ok (.goto (-24), 3) := by decide +kernel
theorem dX10_commonPart_34 : decode cX10_commonPart 34 = .ok (.iload_n 2, 1) := by decide +kernel
theorem dX10_commonPart_35 : decode cX10_commonPart 35 = .ok (.ireturn, 1) := by decide +kernel
def VX10_commonPart_34 (d : Nat) (Q : Out → MS → Prop) (x2 : Int) (S : MS) : Prop :=
  Q (.inl (some (vI x2))) S
theorem JX10_commonPart_34 {d : Nat} {S0 : MS} {Q : Out → MS → Prop} (x2 : Int) (S : MS) (h : VX10_commonPart_34 d Q x2 S) : Jw FinM RX10 cX10_commonPart 6 (some .int) [] yX10_commonPart (d + 1) S0 S 34 [(2, vI x2)] [] Q :=
  j_iload_n 0 dX10_commonPart_34 rfl (j_iret rfl dX10_commonPart_35 h)
def VX10_commonPart_7 (d : Nat) (Q : Out → MS → Prop) : Nat → Int → Int → Int → MS → Prop
  | 0, _, _, _, _ => False
  | n + 1, x2, x3, x4, S => (R32 x4 ∧ R32 (64 : Int)) ∧ (((64 : Int) ≤ x4) → VX10_commonPart_34 d Q x2 S) ∧ (¬ ((64 : Int) ≤ x4) → R32 x3 ∧ ((x3 = 0) → VX10_commonPart_34 d Q x2 S) ∧ (¬ (x3 = 0) → (R32 x3 ∧ x3 ≠ 0) ∧ ((VX10_commonPart_7 d Q n) x3 (iRem x2 x3) (x4 + 1) S)))
theorem JX10_commonPart_7 {d : Nat} {S0 : MS} {Q : Out → MS → Prop} : ∀ (n : Nat) (x2 : Int) (x3 : Int) (x4 : Int) (S : MS), VX10_commonPart_7 d Q n x2 x3 x4 S → Jw FinM RX10 cX10_commonPart 6 (some .int) [] yX10_commonPart (d + 1) S0 S 7 [(2, vI x2), (3, vI x3), (4, vI x4)] [] Q := by
  intro n
  induction n with
  | zero => intro x2 x3 x4 S h; exact h.elim
  | succ n ih =>
    intro x2 x3 x4 S h
    exact j_iload 2 dX10_commonPart_7 rfl (j_bipush dX10_commonPart_9 rfl (j_icmp_ge (tgt := 34) dX10_commonPart_11 (by decide) h (fun h => j_sub [0] rfl (JX10_commonPart_34 _ _ h)) (fun h => j_iload_n 1 dX10_commonPart_14 rfl (j_if_eq (tgt := 34) dX10_commonPart_15 (by decide) h (fun h => j_sub [0] rfl (JX10_commonPart_34 _ _ h)) (fun h => j_iload_n 0 dX10_commonPart_18 rfl (j_iload_n 1 dX10_commonPart_19 rfl (j_irem dX10_commonPart_20 h (fun h => j_istore (lv2 := [(5, vI (iRem x2 x3)), (2, vI x2), (3, vI x3), (4, vI x4)]) dX10_commonPart_21 (by decide) rfl (j_iload_n 2 dX10_commonPart_23 rfl (j_istore_n (lv2 := [(2, vI x3), (5, vI (iRem x2 x3)), (3, vI x3), (4, vI x4)]) dX10_commonPart_24 (by decide) rfl (j_iload 1 dX10_commonPart_25 rfl (j_istore_n (lv2 := [(3, vI (iRem x2 x3)), (2, vI x3), (5, vI (iRem x2 x3)), (4, vI x4)]) dX10_commonPart_27 (by decide) rfl (j_iinc 3 (lv2 := [(4, vI (x4 + 1)), (3, vI (iRem x2 x3)), (2, vI x3), (5, vI (iRem x2 x3))]) dX10_commonPart_28 rfl (by decide) rfl (j_goto (tgt := 7) dX10_commonPart_31 (by decide) (j_sub [2, 1, 0] rfl (ih _ _ _ _ h))))))))))))))))
def VX10_commonPart_0 (d : Nat) (Q : Out → MS → Prop) (x0 : Int) (x1 : Int) (S : MS) : Prop :=
  ∃ m, VX10_commonPart_7 d Q m x0 x1 0 S
theorem JX10_commonPart_0 {d : Nat} {S0 : MS} {Q : Out → MS → Prop} (x0 : Int) (x1 : Int) (S : MS) (h : VX10_commonPart_0 d Q x0 x1 S) : Jw FinM RX10 cX10_commonPart 6 (some .int) [] yX10_commonPart (d + 1) S0 S 0 [(0, vI x0), (1, vI x1)] [] Q :=
  j_iload_n 0 dX10_commonPart_0 rfl (j_istore_n (lv2 := [(2, vI x0), (0, vI x0), (1, vI x1)]) dX10_commonPart_1 (by decide) rfl (j_iload_n 2 dX10_commonPart_2 rfl (j_istore_n (lv2 := [(3, vI x1), (2, vI x0), (0, vI x0), (1, vI x1)]) dX10_commonPart_3 (by decide) rfl (j_iconst dX10_commonPart_4 (j_istore (lv2 := [(4, vI 0), (3, vI x1), (2, vI x0), (0, vI x0), (1, vI x1)]) dX10_commonPart_5 (by decide) rfl (Exists.elim h (fun m h => j_sub [2, 1, 0] rfl (JX10_commonPart_7 m _ _ _ _ h))))))))
theorem MX10_commonPart {d : Nat} {x0 : Int} {x1 : Int} {S : MS} {Q : Out → MS → Prop} (h : VX10_commonPart_0 d Q x0 x1 S) : Mw hX10_commonPart yX10_commonPart (d + 1) [vI x0, vI x1] S Q := Mw.ofJ (by decide) (Nat.le_of_ble_eq_true rfl) (JX10_commonPart_0 _ _ S h)
