theorem dX11_memberOf_0 : decode cX11_memberOf 0 = .ok (.iload_n 0, 1) := by decide +kernel
theorem dX11_memberOf_1 : decode cX11_memberOf 1 = .ok (.istore_n 2, 1) := by decide +kernel
theorem dX11_memberOf_2 : decode cX11_memberOf 2 = .ok (.iconst 0, 1) := by decide +kernel
theorem dX11_memberOf_3 : decode cX11_memberOf 3 = .ok (.istore_n 3, 1) := by decide +kernel
theorem dX11_memberOf_4 : decode cX11_memberOf 4 = .ok (.iload_n 3, 1) := by decide +kernel
theorem dX11_memberOf_5 : decode cX11_memberOf 5 = .ok (.iload_n 1, 1) := by decide +kernel
theorem dX11_memberOf_6 : decode cX11_memberOf 6 = .ok (.if_icmp .ge 15, 3) := by decide +kernel
theorem dX11_memberOf_9 : decode cX11_memberOf 9 = .ok (.iload_n 2, 1) := by decide +kernel
theorem dX11_memberOf_10 : decode cX11_memberOf 10 = .ok (.iload_n 2, 1) := by decide +kernel
theorem dX11_memberOf_11 : decode cX11_memberOf 11 = .ok (.iconst 1, 1) := by decide +kernel
theorem dX11_memberOf_12 : decode cX11_memberOf 12 = .ok (.isub, 1) := by decide +kernel
theorem dX11_memberOf_13 : decode cX11_memberOf 13 = .ok (.iand, 1) := by decide +kernel
theorem dX11_memberOf_14 : decode cX11_memberOf 14 = .ok (.istore_n 2, 1) := by decide +kernel
theorem dX11_memberOf_15 : decode cX11_memberOf 15 = .ok (.iinc 3 1, 3) := by decide +kernel
theorem dX11_memberOf_18 : decode cX11_memberOf 18 = .ok (.goto (-14), 3) := by decide +kernel
theorem dX11_memberOf_21 : decode cX11_memberOf 21 = .ok (.iload_n 2, 1) := by decide +kernel
theorem dX11_memberOf_22 : decode cX11_memberOf 22 = .ok (.ifCond .ne 7, 3) := by decide +kernel
theorem dX11_memberOf_25 : decode cX11_memberOf 25 = .ok (.iconst (-1), 1) := by decide +kernel
theorem dX11_memberOf_26 : decode cX11_memberOf 26 = .ok (.goto 7, 3) := by decide +kernel
theorem dX11_memberOf_29 : decode cX11_memberOf 29 = .ok (.iload_n 2, 1) := by decide +kernel
theorem dX11_memberOf_30 : decode cX11_memberOf 30 = .ok (.invokestatic 331, 3) := by decide +kernel
theorem dX11_memberOf_33 : decode cX11_memberOf 33 = .ok (.ireturn, 1) := by decide +kernel
def VX11_memberOf_4 (d : Nat) (Q : Out → MS → Prop) : Nat → Int → Int → Int → MS → Prop
  | 0, _, _, _, _ => False
  | n + 1, x1, x2, x3, S => (R32 x3 ∧ R32 x1) ∧ ((x1 ≤ x3) → R32 x2 ∧ (¬ (x2 = 0) → Mw hJ6_numberOfTrailingZeros_0f7a4 yJ6_numberOfTrailingZeros_0f7a4 d [vI x2] S (oI (fun r1 S1 => Q (.inl (some (vI r1))) S1))) ∧ ((x2 = 0) → Q (.inl (some (vI ((-1))))) S)) ∧ (¬ (x1 ≤ x3) → (VX11_memberOf_4 d Q n) x1 (iAnd x2 (x2 - 1)) (x3 + 1) S)
theorem JX11_memberOf_4 {d : Nat} {S0 : MS} {Q : Out → MS → Prop} : ∀ (n : Nat) (x1 : Int) (x2 : Int) (x3 : Int) (S : MS), VX11_memberOf_4 d Q n x1 x2 x3 S → Jw FinM RX11 cX11_memberOf 4 (some .int) [] yX11_memberOf (d + 1) S0 S 4 [(1, vI x1), (2, vI x2), (3, vI x3)] [] Q := by
  intro n
  induction n with
  | zero => intro x1 x2 x3 S h; exact h.elim
  | succ n ih =>
    intro x1 x2 x3 S h
    exact j_iload_n 2 dX11_memberOf_4 rfl (j_iload_n 0 dX11_memberOf_5 rfl (j_icmp_ge (tgt := 21) dX11_memberOf_6 (by decide) h (fun h => j_iload_n 1 dX11_memberOf_21 rfl (j_if_ne (tgt := 29) dX11_memberOf_22 (by decide) h (fun h => j_iload_n 1 dX11_memberOf_29 rfl (j_callS (rest := []) [vI x2] k_RX11_331 w_9_21 rfl rfl (Nat.le_of_ble_eq_true rfl) dX11_memberOf_30 h (kI (fun r1 S1 h => j_iret rfl dX11_memberOf_33 h)) (fun _ _ h => h.elim))) (fun h => j_iconst dX11_memberOf_25 (j_goto (tgt := 33) dX11_memberOf_26 (by decide) (j_iret rfl dX11_memberOf_33 h))))) (fun h => j_iload_n 1 dX11_memberOf_9 rfl (j_iload_n 1 dX11_memberOf_10 rfl (j_iconst dX11_memberOf_11 (j_isub dX11_memberOf_12 (j_iand dX11_memberOf_13 (j_istore_n (lv2 := [(2, vI (iAnd x2 (x2 - 1))), (1, vI x1), (3, vI x3)]) dX11_memberOf_14 (by decide) rfl (j_iinc 2 (lv2 := [(3, vI (x3 + 1)), (2, vI (iAnd x2 (x2 - 1))), (1, vI x1)]) dX11_memberOf_15 rfl (by decide) rfl (j_goto (tgt := 4) dX11_memberOf_18 (by decide) (j_sub [2, 1, 0] rfl (ih _ _ _ _ h))))))))))))
def VX11_memberOf_0 (d : Nat) (Q : Out → MS → Prop) (x0 : Int) (x1 : Int) (S : MS) : Prop :=
  ∃ m, VX11_memberOf_4 d Q m x1 x0 0 S
theorem JX11_memberOf_0 {d : Nat} {S0 : MS} {Q : Out → MS → Prop} (x0 : Int) (x1 : Int) (S : MS) (h : VX11_memberOf_0 d Q x0 x1 S) : Jw FinM RX11 cX11_memberOf 4 (some .int) [] yX11_memberOf (d + 1) S0 S 0 [(0, vI x0), (1, vI x1)] [] Q :=
  j_iload_n 0 dX11_memberOf_0 rfl (j_istore_n (lv2 := [(2, vI x0), (0, vI x0), (1, vI x1)]) dX11_memberOf_1 (by decide) rfl (j_iconst dX11_memberOf_2 (j_istore_n (lv2 := [(3, vI 0), (2, vI x0), (0, vI x0), (1, vI x1)]) dX11_memberOf_3 (by decide) rfl (Exists.elim h (fun m h => j_sub [3, 1, 0] rfl (JX11_memberOf_4 m _ _ _ _ h))))))
theorem MX11_memberOf {d : Nat} {x0 : Int} {x1 : Int} {S : MS} {Q : Out → MS → Prop} (h : VX11_memberOf_0 d Q x0 x1 S) : Mw hX11_memberOf yX11_memberOf (d + 1) [vI x0, vI x1] S Q := Mw.ofJ (by decide) (Nat.le_of_ble_eq_true rfl) (JX11_memberOf_0 _ _ S h)
theorem dX11_boundFor_0 : decode cX11_boundFor 0 = .ok (.iconst 2, 1) := by decide +kernel
theorem dX11_boundFor_1 : decode cX11_boundFor 1 = .ok (.istore_n 2, 1) := by decide +kernel
theorem dX11_boundFor_2 : decode cX11_boundFor 2 = .ok (.iconst 0, 1) := by decide +kernel
theorem dX11_boundFor_3 : decode cX11_boundFor 3 = .ok (.istore_n 3, 1) := by decide +kernel
theorem dX11_boundFor_4 : decode cX11_boundFor 4 = .ok (.iload_n 3, 1) := by decide +kernel
theorem dX11_boundFor_5 : decode cX11_boundFor 5 = .ok (.iload_n 1, 1) := by decide +kernel
theorem dX11_boundFor_6 : decode cX11_boundFor 6 = .ok (.if_icmp .ge 19, 3) := by decide +kernel
theorem dX11_boundFor_9 : decode cX11_boundFor 9 = .ok (.sipush 5040, 3) := by decide +kernel
theorem dX11_boundFor_12 : decode cX11_boundFor 12 = .ok (.iload_n 2, 1) := by decide +kernel
theorem dX11_boundFor_13 : decode cX11_boundFor 13 = .ok (.iload_n 0, 1) := by decide +kernel
theorem dX11_boundFor_14 : decode cX11_boundFor 14 = .ok (.imul, 1) := by decide +kernel
theorem dX11_boundFor_15 : decode cX11_boundFor 15 = .ok (.invokestatic 334, 3) := by decide +kernel
theorem dX11_boundFor_18 : decode cX11_boundFor 18 = .ok (.istore_n 2, 1) := by decide +kernel
theorem dX11_boundFor_19 : decode cX11_boundFor 19 = .ok (.iinc 3 1, 3) := by decide +kernel
theorem dX11_boundFor_22 : decode cX11_boundFor 22 = .ok (.goto (-18), 3) := by decide +kernel
theorem dX11_boundFor_25 : decode cX11_boundFor 25 = .ok (.iload_n 2, 1) := by decide +kernel
theorem dX11_boundFor_26 : decode cX11_boundFor 26 = .ok (.ireturn, 1) := by decide +kernel
def VX11_boundFor_4 (d : Nat) (Q : Out → MS → Prop) : Nat → Int → Int → Int → Int → MS → Prop
  | 0, _, _, _, _, _ => False
  | n + 1, x0, x1, x2, x3, S => (R32 x3 ∧ R32 x1) ∧ ((x1 ≤ x3) → Q (.inl (some (vI x2))) S) ∧ (¬ (x1 ≤ x3) → (R32 (5040 : Int) ∧ R32 (x2 * x0)) ∧ ((VX11_boundFor_4 d Q n) x0 x1 (min (5040 : Int) (x2 * x0)) (x3 + 1) S))
theorem JX11_boundFor_4 {d : Nat} {S0 : MS} {Q : Out → MS → Prop} : ∀ (n : Nat) (x0 : Int) (x1 : Int) (x2 : Int) (x3 : Int) (S : MS), VX11_boundFor_4 d Q n x0 x1 x2 x3 S → Jw FinM RX11 cX11_boundFor 4 (some .int) [] yX11_boundFor (d + 1) S0 S 4 [(0, vI x0), (1, vI x1), (2, vI x2), (3, vI x3)] [] Q := by
  intro n
  induction n with
  | zero => intro x0 x1 x2 x3 S h; exact h.elim
  | succ n ih =>
    intro x0 x1 x2 x3 S h
    exact j_iload_n 3 dX11_boundFor_4 rfl (j_iload_n 1 dX11_boundFor_5 rfl (j_icmp_ge (tgt := 25) dX11_boundFor_6 (by decide) h (fun h => j_iload_n 2 dX11_boundFor_25 rfl (j_iret rfl dX11_boundFor_26 h)) (fun h => j_sipush dX11_boundFor_9 rfl (j_iload_n 2 dX11_boundFor_12 rfl (j_iload_n 0 dX11_boundFor_13 rfl (j_imul dX11_boundFor_14 (j_mmin w_9_12 w_2_64 w_1_16 w_mmin (Nat.le_of_ble_eq_true rfl) dX11_boundFor_15 h (fun h => j_istore_n (lv2 := [(2, vI (min (5040 : Int) (x2 * x0))), (0, vI x0), (1, vI x1), (3, vI x3)]) dX11_boundFor_18 (by decide) rfl (j_iinc 3 (lv2 := [(3, vI (x3 + 1)), (2, vI (min (5040 : Int) (x2 * x0))), (0, vI x0), (1, vI x1)]) dX11_boundFor_19 rfl (by decide) rfl (j_goto (tgt := 4) dX11_boundFor_22 (by decide) (j_sub [2, 3, 1, 0] rfl (ih _ _ _ _ _ h))))))))))))
def VX11_boundFor_0 (d : Nat) (Q : Out → MS → Prop) (x0 : Int) (x1 : Int) (S : MS) : Prop :=
  ∃ m, VX11_boundFor_4 d Q m x0 x1 2 0 S
theorem JX11_boundFor_0 {d : Nat} {S0 : MS} {Q : Out → MS → Prop} (x0 : Int) (x1 : Int) (S : MS) (h : VX11_boundFor_0 d Q x0 x1 S) : Jw FinM RX11 cX11_boundFor 4 (some .int) [] yX11_boundFor (d + 1) S0 S 0 [(0, vI x0), (1, vI x1)] [] Q :=
  j_iconst dX11_boundFor_0 (j_istore_n (lv2 := [(2, vI 2), (0, vI x0), (1, vI x1)]) dX11_boundFor_1 (by decide) rfl (j_iconst dX11_boundFor_2 (j_istore_n (lv2 := [(3, vI 0), (2, vI 2), (0, vI x0), (1, vI x1)]) dX11_boundFor_3 (by decide) rfl (Exists.elim h (fun m h => j_sub [2, 3, 1, 0] rfl (JX11_boundFor_4 m _ _ _ _ _ h))))))
theorem MX11_boundFor {d : Nat} {x0 : Int} {x1 : Int} {S : MS} {Q : Out → MS → Prop} (h : VX11_boundFor_0 d Q x0 x1 S) : Mw hX11_boundFor yX11_boundFor (d + 1) [vI x0, vI x1] S Q := Mw.ofJ (by decide) (Nat.le_of_ble_eq_true rfl) (JX11_boundFor_0 _ _ S h)
theorem dX11_plainly_0 : decode cX11_plainly 0 = .ok (.aload_n 0, 1) := by decide +kernel
theorem dX11_plainly_1 : decode cX11_plainly 1 = .ok (.getfield 45, 3) := by decide +kernel
theorem dX11_plainly_4 : decode cX11_plainly 4 = .ok (.iload_n 1, 1) := by decide +kernel
theorem dX11_plainly_5 : decode cX11_plainly 5 = .ok (.iaload, 1) := by decide +kernel
theorem dX11_plainly_6 : decode cX11_plainly 6 = .ok (.ifCond .eq 11, 3) := by decide +kernel
theorem dX11_plainly_9 : decode cX11_plainly 9 = .ok (.aload_n 0, 1) := by decide +kernel
theorem dX11_plainly_10 : decode cX11_plainly 10 = .ok (.iload_n 1, 1) := by decide +kernel
theorem dX11_plainly_11 : decode cX11_plainly 11 = .ok (.invokevirtual 286, 3) := by decide +kernel
theorem dX11_plainly_14 : decode cX11_plainly 14 = .ok (.ifCond .eq 5, 3) := by decide +kernel
theorem dX11_plainly_17 : decode cX11_plainly 17 = .ok (.iconst 1, 1) := by decide +kernel
theorem dX11_plainly_18 : decode cX11_plainly 18 = .ok (.ireturn, 1) := by decide +kernel
theorem dX11_plainly_19 : decode cX11_plainly 19 = .ok (.iload_n 2, 1) := by decide +kernel
theorem dX11_plainly_20 : decode cX11_plainly 20 = .ok (.ifCond .eq 17, 3) := by decide +kernel
theorem dX11_plainly_23 : decode cX11_plainly 23 = .ok (.aload_n 0, 1) := by decide +kernel
theorem dX11_plainly_24 : decode cX11_plainly 24 = .ok (.getfield 45, 3) := by decide +kernel
theorem dX11_plainly_27 : decode cX11_plainly 27 = .ok (.iload_n 1, 1) := by decide +kernel
theorem dX11_plainly_28 : decode cX11_plainly 28 = .ok (.iaload, 1) := by decide +kernel
theorem dX11_plainly_29 : decode cX11_plainly 29 = .ok (.iload_n 3, 1) := by decide +kernel
theorem dX11_plainly_30 : decode cX11_plainly 30 = .ok (.iload_n 2, 1) := by decide +kernel
theorem dX11_plainly_31 : decode cX11_plainly 31 = .ok (.invokestatic 337, 3) := by decide +kernel
theorem dX11_plainly_34 : decode cX11_plainly 34 = .ok (.if_icmp .le 5, 3) := by decide +kernel
theorem dX11_plainly_37 : decode cX11_plainly 37 = .ok (.iconst 0, 1) := by decide +kernel
theorem dX11_plainly_38 : decode cX11_plainly 38 = .ok (.ireturn, 1) := by decide +kernel
theorem dX11_plainly_39 : decode cX11_plainly 39 = .ok (.aload_n 0, 1) := by decide +kernel
theorem dX11_plainly_40 : decode cX11_plainly 40 = .ok (.getfield 64, 3) := by decide +kernel
theorem dX11_plainly_43 : decode cX11_plainly 43 = .ok (.iload_n 1, 1) := by decide +kernel
theorem dX11_plainly_44 : decode cX11_plainly 44 = .ok (.iconst (-1), 1) := by decide +kernel
theorem dX11_plainly_45 : decode cX11_plainly 45 = .ok (.iastore, 1) := by decide +kernel
theorem dX11_plainly_46 : decode cX11_plainly 46 = .ok (.aload_n 0, 1) := by decide +kernel
theorem dX11_plainly_47 : decode cX11_plainly 47 = .ok (.getfield 67, 3) := by decide +kernel
theorem dX11_plainly_50 : decode cX11_plainly 50 = .ok (.iload_n 1, 1) := by decide +kernel
theorem dX11_plainly_51 : decode cX11_plainly 51 = .ok (.iload_n 3, 1) := by decide +kernel
theorem dX11_plainly_52 : decode cX11_plainly 52 = .ok (.iastore, 1) := by decide +kernel
theorem dX11_plainly_53 : decode cX11_plainly 53 = .ok (.iconst 2, 1) := by decide +kernel
theorem dX11_plainly_54 : decode cX11_plainly 54 = .ok (.ireturn, 1) := by decide +kernel
def VX11_plainly_0 (d : Nat) (Q : Out → MS → Prop) (x0 : Nat) (x1 : Int) (x2 : Int) (x3 : Int) (S : MS) : Prop :=
  S.K x0 = 11 ∧ ∃ b1, S.R x0 17 = some b1 ∧ ((S.K b1 = 13 ∧ 0 ≤ x1 ∧ x1 < S.N b1) ∧ (R32 (S.I b1 (x1).toNat) ∧ (((S.I b1 (x1).toNat) = 0) → Q (.inl (some (vI 1))) S) ∧ (¬ ((S.I b1 (x1).toNat) = 0) → S.K x0 = 11 ∧ Mw hX11_isKnown yX11_isKnown d [vA x0, vI x1] S (oI (fun r2 S2 => R32 r2 ∧ ((r2 = 0) → R32 x2 ∧ ((x2 = 0) → Q (.inl (some (vI 0))) S2) ∧ (¬ (x2 = 0) → S2.K x0 = 11 ∧ ∃ b3, S2.R x0 17 = some b3 ∧ ((S2.K b3 = 13 ∧ 0 ≤ x1 ∧ x1 < S2.N b3) ∧ (Mw hX11_boundFor yX11_boundFor d [vI x3, vI x2] S2 (oI (fun r4 S4 => (R32 (S2.I b3 (x1).toNat) ∧ R32 r4) ∧ (((S2.I b3 (x1).toNat) ≤ r4) → S4.K x0 = 11 ∧ ∃ b5, S4.R x0 28 = some b5 ∧ ((S4.K b5 = 13 ∧ 0 ≤ x1 ∧ x1 < S4.N b5) ∧ ((S4.setI b5 (x1).toNat ((-1))).K x0 = 11 ∧ ∃ b6, (S4.setI b5 (x1).toNat ((-1))).R x0 29 = some b6 ∧ (((S4.setI b5 (x1).toNat ((-1))).K b6 = 13 ∧ 0 ≤ x1 ∧ x1 < (S4.setI b5 (x1).toNat ((-1))).N b6) ∧ (Q (.inl (some (vI 2))) ((S4.setI b5 (x1).toNat ((-1))).setI b6 (x1).toNat x3)))))) ∧ (¬ ((S2.I b3 (x1).toNat) ≤ r4) → Q (.inl (some (vI 0))) S4))))))) ∧ (¬ (r2 = 0) → Q (.inl (some (vI 1))) S2))))))
theorem JX11_plainly_0 {d : Nat} {S0 : MS} {Q : Out → MS → Prop} (x0 : Nat) (x1 : Int) (x2 : Int) (x3 : Int) (S : MS) (h : VX11_plainly_0 d Q x0 x1 x2 x3 S) : Jw FinM RX11 cX11_plainly 4 (some .int) [] yX11_plainly (d + 1) S0 S 0 [(0, vA x0), (1, vI x1), (2, vI x2), (3, vI x3)] [] Q :=
  j_aload_n 0 dX11_plainly_0 rfl (j_getR 11 17 f_RX11_45 dX11_plainly_1 h (fun b1 h => j_iload_n 1 dX11_plainly_4 rfl (j_iald dX11_plainly_5 h (fun h => j_if_eq (tgt := 17) dX11_plainly_6 (by decide) h (fun h => j_iconst dX11_plainly_17 (j_iret rfl dX11_plainly_18 h)) (fun h => j_aload_n 0 dX11_plainly_9 rfl (j_iload_n 1 dX11_plainly_10 rfl (j_callV (rest := []) 11 [vI x1] k_RX11_286 ⟨w_8_162, p_6_7⟩ ⟨_, _, rfl⟩ (by decide) rfl rfl (Nat.le_of_ble_eq_true rfl) dX11_plainly_11 h (kI (fun r2 S2 h => j_if_eq (tgt := 19) dX11_plainly_14 (by decide) h (fun h => j_iload_n 2 dX11_plainly_19 rfl (j_if_eq (tgt := 37) dX11_plainly_20 (by decide) h (fun h => j_iconst dX11_plainly_37 (j_iret rfl dX11_plainly_38 h)) (fun h => j_aload_n 0 dX11_plainly_23 rfl (j_getR 11 17 f_RX11_45 dX11_plainly_24 h (fun b3 h => j_iload_n 1 dX11_plainly_27 rfl (j_iald dX11_plainly_28 h (fun h => j_iload_n 3 dX11_plainly_29 rfl (j_iload_n 2 dX11_plainly_30 rfl (j_callS (rest := [vI (S2.I b3 (x1).toNat)]) [vI x3, vI x2] k_RX11_337 w_9_10 rfl rfl (Nat.le_of_ble_eq_true rfl) dX11_plainly_31 h (kI (fun r4 S4 h => j_icmp_le (tgt := 39) dX11_plainly_34 (by decide) h (fun h => j_aload_n 0 dX11_plainly_39 rfl (j_getR 11 28 f_RX11_64 dX11_plainly_40 h (fun b5 h => j_iload_n 1 dX11_plainly_43 rfl (j_iconst dX11_plainly_44 (j_iast dX11_plainly_45 h (fun h => j_aload_n 0 dX11_plainly_46 rfl (j_getR 11 29 f_RX11_67 dX11_plainly_47 h (fun b6 h => j_iload_n 1 dX11_plainly_50 rfl (j_iload_n 3 dX11_plainly_51 rfl (j_iast dX11_plainly_52 h (fun h => j_iconst dX11_plainly_53 (j_iret rfl dX11_plainly_54 h)))))))))))) (fun h => j_iconst dX11_plainly_37 (j_iret rfl dX11_plainly_38 h)))) (fun _ _ h => h.elim)))))))))) (fun h => j_iconst dX11_plainly_17 (j_iret rfl dX11_plainly_18 h)))) (fun _ _ h => h.elim))))))))
theorem MX11_plainly {d : Nat} {x0 : Nat} {x1 : Int} {x2 : Int} {x3 : Int} {S : MS} {Q : Out → MS → Prop} (h : VX11_plainly_0 d Q x0 x1 x2 x3 S) : Mw hX11_plainly yX11_plainly (d + 1) [vA x0, vI x1, vI x2, vI x3] S Q := Mw.ofJ (by decide) (Nat.le_of_ble_eq_true rfl) (JX11_plainly_0 _ _ _ _ S h)
theorem dX11_learns_0 : decode cX11_learns 0 = .ok (.iload_n 1, 1) := by decide +kernel
theorem dX11_learns_1 : decode cX11_learns 1 = .ok (.invokestatic 98, 3) := by decide +kernel
theorem dX11_learns_4 : decode cX11_learns 4 = .ok (.istore_n 3, 1) := by decide +kernel
theorem dX11_learns_5 : decode cX11_learns 5 = .ok (.iconst 0, 1) := by decide +kernel
theorem dX11_learns_6 : decode cX11_learns 6 = .ok (.istore 4, 2) := by decide +kernel
theorem dX11_learns_8 : decode cX11_learns 8 = .ok (.aload_n 0, 1) := by decide +kernel
theorem dX11_learns_9 : decode cX11_learns 9 = .ok (.iconst 0, 1) := by decide +kernel
theorem dX11_learns_10 : decode cX11_learns 10 = .ok (.iload_n 2, 1) := by decide +kernel
theorem dX11_learns_11 : decode cX11_learns 11 = .ok (.iload_n 3, 1) := by decide +kernel
theorem dX11_learns_12 : decode cX11_learns 12 = .ok (.invokevirtual 340, 3) := by decide +kernel
theorem dX11_learns_15 : decode cX11_learns 15 = .ok (.istore 5, 2) := by decide +kernel
theorem dX11_learns_17 : decode cX11_learns 17 = .ok (.iconst 0, 1) := by decide +kernel
theorem dX11_learns_18 : decode cX11_learns 18 = .ok (.istore 6, 2) := by decide +kernel
theorem dX11_learns_20 : decode cX11_learns 20 = .ok (.iload 5, 2) := by decide +kernel
theorem dX11_learns_22 : decode cX11_learns 22 = .ok (.iconst 2, 1) := by decide +kernel
theorem dX11_learns_23 : decode cX11_learns 23 = .ok (.if_icmp .eq 8, 3) := by decide +kernel
theorem dX11_learns_26 : decode cX11_learns 26 = .ok (.iload 4, 2) := by decide +kernel
theorem dX11_learns_28 : decode cX11_learns 28 = .ok (.ifCond .le 244, 3) := by decide +kernel
theorem dX11_learns_31 : decode cX11_learns 31 = .ok (.iload 5, 2) := by decide +kernel
theorem dX11_learns_33 : decode cX11_learns 33 = .ok (.iconst 2, 1) := by decide +kernel
theorem dX11_learns_34 : decode cX11_learns 34 = .ok (.if_icmp .eq 70, 3) := by decide +kernel
theorem dX11_learns_37 : decode cX11_learns 37 = .ok (.iinc 4 (-1), 3) := by decide +kernel
theorem dX11_learns_40 : decode cX11_learns 40 = .ok (.aload_n 0, 1) := by decide +kernel
theorem dX11_learns_41 : decode cX11_learns 41 = .ok (.getfield 67, 3) := by decide +kernel
theorem dX11_learns_44 : decode cX11_learns 44 = .ok (.iload 4, 2) := by decide +kernel
theorem dX11_learns_46 : decode cX11_learns 46 = .ok (.iload 5, 2) := by decide +kernel
theorem dX11_learns_48 : decode cX11_learns 48 = .ok (.iconst 1, 1) := by decide +kernel
theorem dX11_learns_49 : decode cX11_learns 49 = .ok (.if_icmp .ne 15, 3) := by decide +kernel
theorem dX11_learns_52 : decode cX11_learns 52 = .ok (.aload_n 0, 1) := by decide +kernel
theorem dX11_learns_53 : decode cX11_learns 53 = .ok (.getfield 67, 3) := by decide +kernel
theorem dX11_learns_56 : decode cX11_learns 56 = .ok (.iload 4, 2) := by decide +kernel
theorem dX11_learns_58 : decode cX11_learns 58 = .ok (.iaload, 1) := by decide +kernel
theorem dX11_learns_59 : decode cX11_learns 59 = .ok (.iconst 1, 1) := by decide +kernel
theorem dX11_learns_60 : decode cX11_learns 60 = .ok (.iadd, 1) := by decide +kernel
theorem dX11_learns_61 : decode cX11_learns 61 = .ok (.goto 4, 3) := by decide +kernel
theorem dX11_learns_64 : decode cX11_learns 64 = .ok (.iload_n 3, 1) := by decide +kernel
theorem dX11_learns_65 : decode cX11_learns 65 = .ok (.iastore, 1) := by decide +kernel
theorem dX11_learns_66 : decode cX11_learns 66 = .ok (.iload 5, 2) := by decide +kernel
theorem dX11_learns_68 : decode cX11_learns 68 = .ok (.iconst 1, 1) := by decide +kernel
theorem dX11_learns_69 : decode cX11_learns 69 = .ok (.if_icmp .ne 7, 3) := by decide +kernel
theorem dX11_learns_72 : decode cX11_learns 72 = .ok (.iconst 1, 1) := by decide +kernel
theorem dX11_learns_73 : decode cX11_learns 73 = .ok (.goto 4, 3) := by decide +kernel
theorem dX11_learns_76 : decode cX11_learns 76 = .ok (.iconst 0, 1) := by decide +kernel
theorem dX11_learns_77 : decode cX11_learns 77 = .ok (.istore 6, 2) := by decide +kernel
theorem dX11_learns_79 : decode cX11_learns 79 = .ok (.iload 6, 2) := by decide +kernel
theorem dX11_learns_81 : decode cX11_learns 81 = .ok (.ifCond .eq 17, 3) := by decide +kernel
theorem dX11_learns_84 : decode cX11_learns 84 = .ok (.aload_n 0, 1) := by decide +kernel
theorem dX11_learns_85 : decode cX11_learns 85 = .ok (.getfield 67, 3) := by decide +kernel
theorem dX11_learns_88 : decode cX11_learns 88 = .ok (.iload 4, 2) := by decide +kernel
theorem dX11_learns_90 : decode cX11_learns 90 = .ok (.iaload, 1) := by decide +kernel
theorem dX11_learns_91 : decode cX11_learns 91 = .ok (.iload_n 3, 1) := by decide +kernel
theorem dX11_learns_92 : decode cX11_learns 92 = .ok (.if_icmp .ne 6, 3) := by decide +kernel
theorem dX11_learns_95 : decode cX11_learns 95 = .ok (.goto (-75), 3) := by decide +kernel
theorem dX11_learns_98 : decode cX11_learns 98 = .ok (.iconst 2, 1) := by decide +kernel
theorem dX11_learns_99 : decode cX11_learns 99 = .ok (.istore 5, 2) := by decide +kernel
theorem dX11_learns_101 : decode cX11_learns 101 = .ok (.goto 6, 3) := by decide +kernel
theorem dX11_learns_104 : decode cX11_learns 104 = .ok (.iconst 0, 1) := by decide +kernel
theorem dX11_learns_105 : decode cX11_learns 105 = .ok (.istore 6, 2) := by decide +kernel
theorem dX11_learns_107 : decode cX11_learns 107 = .ok (.iload 6, 2) := by decide +kernel
theorem dX11_learns_109 : decode cX11_learns 109 = .ok (.ifCond .ne 103, 3) := by decide +kernel
theorem dX11_learns_112 : decode cX11_learns 112 = .ok (.aload_n 0, 1) := by decide +kernel
theorem dX11_learns_113 : decode cX11_learns 113 = .ok (.getfield 64, 3) := by decide +kernel
theorem dX11_learns_116 : decode cX11_learns 116 = .ok (.iload 4, 2) := by decide +kernel
theorem dX11_learns_118 : decode cX11_learns 118 = .ok (.dup2, 1) := by decide +kernel
theorem dX11_learns_119 : decode cX11_learns 119 = .ok (.iaload, 1) := by decide +kernel
theorem dX11_learns_120 : decode cX11_learns 120 = .ok (.iconst 1, 1) := by decide +kernel
theorem dX11_learns_121 : decode cX11_learns 121 = .ok (.iadd, 1) := by decide +kernel
theorem dX11_learns_122 : decode cX11_learns 122 = .ok (.iastore, 1) := by decide +kernel
theorem dX11_learns_123 : decode cX11_learns 123 = .ok (.aload_n 0, 1) := by decide +kernel
theorem dX11_learns_124 : decode cX11_learns 124 = .ok (.getfield 64, 3) := by decide +kernel
theorem dX11_learns_127 : decode cX11_learns 127 = .ok (.iload 4, 2) := by decide +kernel
theorem dX11_learns_129 : decode cX11_learns 129 = .ok (.iaload, 1) := by decide +kernel
theorem dX11_learns_130 : decode cX11_learns 130 = .ok (.aload_n 0, 1) := by decide +kernel
theorem dX11_learns_131 : decode cX11_learns 131 = .ok (.getfield 277, 3) := by decide +kernel
theorem dX11_learns_134 : decode cX11_learns 134 = .ok (.if_icmp .ge 27, 3) := by decide +kernel
theorem dX11_learns_137 : decode cX11_learns 137 = .ok (.aload_n 0, 1) := by decide +kernel
theorem dX11_learns_138 : decode cX11_learns 138 = .ok (.iload 4, 2) := by decide +kernel
theorem dX11_learns_140 : decode cX11_learns 140 = .ok (.iload_n 1, 1) := by decide +kernel
theorem dX11_learns_141 : decode cX11_learns 141 = .ok (.invokevirtual 343, 3) := by decide +kernel
theorem dX11_learns_144 : decode cX11_learns 144 = .ok (.ifCond .eq 17, 3) := by decide +kernel
theorem dX11_learns_147 : decode cX11_learns 147 = .ok (.aload_n 0, 1) := by decide +kernel
theorem dX11_learns_148 : decode cX11_learns 148 = .ok (.getfield 64, 3) := by decide +kernel
theorem dX11_learns_151 : decode cX11_learns 151 = .ok (.iload 4, 2) := by decide +kernel
theorem dX11_learns_153 : decode cX11_learns 153 = .ok (.dup2, 1) := by decide +kernel
theorem dX11_learns_154 : decode cX11_learns 154 = .ok (.iaload, 1) := by decide +kernel
theorem dX11_learns_155 : decode cX11_learns 155 = .ok (.iconst 1, 1) := by decide +kernel
theorem dX11_learns_156 : decode cX11_learns 156 = .ok (.iadd, 1) := by decide +kernel
theorem dX11_learns_157 : decode cX11_learns 157 = .ok (.iastore, 1) := by decide +kernel
theorem dX11_learns_158 : decode cX11_learns 158 = .ok (.goto (-35), 3) := by decide +kernel
theorem dX11_learns_161 : decode cX11_learns 161 = .ok (.aload_n 0, 1) := by decide +kernel
theorem dX11_learns_162 : decode cX11_learns 162 = .ok (.getfield 64, 3) := by decide +kernel
theorem dX11_learns_165 : decode cX11_learns 165 = .ok (.iload 4, 2) := by decide +kernel
theorem dX11_learns_167 : decode cX11_learns 167 = .ok (.iaload, 1) := by decide +kernel
theorem dX11_learns_168 : decode cX11_learns 168 = .ok (.aload_n 0, 1) := by decide +kernel
theorem dX11_learns_169 : decode cX11_learns 169 = .ok (.getfield 277, 3) := by decide +kernel
theorem dX11_learns_172 : decode cX11_learns 172 = .ok (.if_icmp .lt 9, 3) := by decide +kernel
theorem dX11_learns_175 : decode cX11_learns 175 = .ok (.iconst 0, 1) := by decide +kernel
theorem dX11_learns_176 : decode cX11_learns 176 = .ok (.istore 5, 2) := by decide +kernel
theorem dX11_learns_178 : decode cX11_learns 178 = .ok (.goto (-158), 3) := by decide +kernel
theorem dX11_learns_181 : decode cX11_learns 181 = .ok (.aload_n 0, 1) := by decide +kernel
theorem dX11_learns_182 : decode cX11_learns 182 = .ok (.dup, 1) := by decide +kernel
theorem dX11_learns_183 : decode cX11_learns 183 = .ok (.getfield 346, 3) := by decide +kernel
theorem dX11_learns_186 : decode cX11_learns 186 = .ok (.iconst 1, 1) := by decide +kernel
theorem dX11_learns_187 : decode cX11_learns 187 = .ok (.iadd, 1) := by decide +kernel
theorem dX11_learns_188 : decode cX11_learns 188 = .ok (.putfield 346, 3) := by decide +kernel
theorem dX11_learns_191 : decode cX11_learns 191 = .ok (.aload_n 0, 1) := by decide +kernel
theorem dX11_learns_192 : decode cX11_learns 192 = .ok (.getfield 346, 3) := by decide +kernel
theorem dX11_learns_195 : decode cX11_learns 195 = .ok (.sipush 4000, 3) := by decide +kernel
theorem dX11_learns_198 : decode cX11_learns 198 = .ok (.if_icmp .le 6, 3) := by decide +kernel
theorem dX11_learns_201 : decode cX11_learns 201 = .ok (.bipush (-2), 2) := by decide +kernel
theorem dX11_learns_203 : decode cX11_learns 203 = .ok (.ireturn, 1) := by decide +kernel
theorem dX11_learns_204 : decode cX11_learns 204 = .ok (.aload_n 0, 1) := by decide +kernel
theorem dX11_learns_205 : decode cX11_learns 205 = .ok (.getfield 67, 3) := by decide +kernel
theorem dX11_learns_208 : decode cX11_learns 208 = .ok (.iload 4, 2) := by decide +kernel
theorem dX11_learns_210 : decode cX11_learns 210 = .ok (.iconst 0, 1) := by decide +kernel
theorem dX11_learns_211 : decode cX11_learns 211 = .ok (.iastore, 1) := by decide +kernel
theorem dX11_learns_212 : decode cX11_learns 212 = .ok (.aload_n 0, 1) := by decide +kernel
theorem dX11_learns_213 : decode cX11_learns 213 = .ok (.iload 4, 2) := by decide +kernel
theorem dX11_learns_215 : decode cX11_learns 215 = .ok (.iload_n 1, 1) := by decide +kernel
theorem dX11_learns_216 : decode cX11_learns 216 = .ok (.aload_n 0, 1) := by decide +kernel
theorem dX11_learns_217 : decode cX11_learns 217 = .ok (.getfield 58, 3) := by decide +kernel
theorem dX11_learns_220 : decode cX11_learns 220 = .ok (.aload_n 0, 1) := by decide +kernel
theorem dX11_learns_221 : decode cX11_learns 221 = .ok (.getfield 64, 3) := by decide +kernel
theorem dX11_learns_224 : decode cX11_learns 224 = .ok (.iload 4, 2) := by decide +kernel
theorem dX11_learns_226 : decode cX11_learns 226 = .ok (.iaload, 1) := by decide +kernel
theorem dX11_learns_227 : decode cX11_learns 227 = .ok (.iaload, 1) := by decide +kernel
theorem dX11_learns_228 : decode cX11_learns 228 = .ok (.aload_n 0, 1) := by decide +kernel
theorem dX11_learns_229 : decode cX11_learns 229 = .ok (.getfield 58, 3) := by decide +kernel
theorem dX11_learns_232 : decode cX11_learns 232 = .ok (.aload_n 0, 1) := by decide +kernel
theorem dX11_learns_233 : decode cX11_learns 233 = .ok (.getfield 64, 3) := by decide +kernel
theorem dX11_learns_236 : decode cX11_learns 236 = .ok (.iload 4, 2) := by decide +kernel
theorem dX11_learns_238 : decode cX11_learns 238 = .ok (.iaload, 1) := by decide +kernel
theorem dX11_learns_239 : decode cX11_learns 239 = .ok (.iaload, 1) := by decide +kernel
theorem dX11_learns_240 : decode cX11_learns 240 = .ok (.aload_n 0, 1) := by decide +kernel
theorem dX11_learns_241 : decode cX11_learns 241 = .ok (.getfield 67, 3) := by decide +kernel
theorem dX11_learns_244 : decode cX11_learns 244 = .ok (.iload 4, 2) := by decide +kernel
theorem dX11_learns_246 : decode cX11_learns 246 = .ok (.iaload, 1) := by decide +kernel
theorem dX11_learns_247 : decode cX11_learns 247 = .ok (.invokestatic 349, 3) := by decide +kernel
theorem dX11_learns_250 : decode cX11_learns 250 = .ok (.invokevirtual 352, 3) := by decide +kernel
theorem dX11_learns_253 : decode cX11_learns 253 = .ok (.iinc 4 1, 3) := by decide +kernel
theorem dX11_learns_256 : decode cX11_learns 256 = .ok (.aload_n 0, 1) := by decide +kernel
theorem dX11_learns_257 : decode cX11_learns 257 = .ok (.iload 4, 2) := by decide +kernel
theorem dX11_learns_259 : decode cX11_learns 259 = .ok (.iload_n 2, 1) := by decide +kernel
theorem dX11_learns_260 : decode cX11_learns 260 = .ok (.iload 4, 2) := by decide +kernel
theorem dX11_learns_262 : decode cX11_learns 262 = .ok (.isub, 1) := by decide +kernel
theorem dX11_learns_263 : decode cX11_learns 263 = .ok (.iload_n 3, 1) := by decide +kernel
theorem dX11_learns_264 : decode cX11_learns 264 = .ok (.invokevirtual 340, 3) := by decide +kernel
theorem dX11_learns_267 : decode cX11_learns 267 = .ok (.istore 5, 2) := by decide +kernel
theorem dX11_learns_269 : decode cX11_learns 269 = .ok (.goto (-249), 3) := by decide +kernel
theorem dX11_learns_272 : decode cX11_learns 272 = .ok (.iload 5, 2) := by decide +kernel
theorem dX11_learns_274 : decode cX11_learns 274 = .ok (.ireturn, 1) := by decide +kernel
def VX11_learns_212 (d : Nat) (c20 : Nat → Int → Int → Int → Int → Int → MS → Prop) (Q : Out → MS → Prop) (x0 : Nat) (x1 : Int) (x2 : Int) (x3 : Int) (x4 : Int) (S : MS) : Prop :=
  S.K x0 = 11 ∧ ∃ b1, S.R x0 22 = some b1 ∧ (S.K x0 = 11 ∧ ∃ b2, S.R x0 28 = some b2 ∧ ((S.K b2 = 13 ∧ 0 ≤ x4 ∧ x4 < S.N b2) ∧ ((S.K b1 = 13 ∧ 0 ≤ (S.I b2 (x4).toNat) ∧ (S.I b2 (x4).toNat) < S.N b1) ∧ (S.K x0 = 11 ∧ ∃ b3, S.R x0 22 = some b3 ∧ (S.K x0 = 11 ∧ ∃ b4, S.R x0 28 = some b4 ∧ ((S.K b4 = 13 ∧ 0 ≤ x4 ∧ x4 < S.N b4) ∧ ((S.K b3 = 13 ∧ 0 ≤ (S.I b4 (x4).toNat) ∧ (S.I b4 (x4).toNat) < S.N b3) ∧ (S.K x0 = 11 ∧ ∃ b5, S.R x0 29 = some b5 ∧ ((S.K b5 = 13 ∧ 0 ≤ x4 ∧ x4 < S.N b5) ∧ (Mw hX11_memberOf yX11_memberOf d [vI (S.I b3 ((S.I b4 (x4).toNat)).toNat), vI (S.I b5 (x4).toNat)] S (oI (fun r6 S6 => S6.K x0 = 11 ∧ Mw hX11_parts yX11_parts d [vA x0, vI x4, vI x1, vI (S.I b1 ((S.I b2 (x4).toNat)).toNat), vI r6] S6 (oV (fun S7 => S7.K x0 = 11 ∧ Mw hX11_plainly yX11_plainly d [vA x0, vI (x4 + 1), vI (x2 - (x4 + 1)), vI x3] S7 (oI (fun r8 S8 => c20 x0 x1 x2 x3 (x4 + 1) r8 S8))))))))))))))))
theorem JX11_learns_212 {d : Nat} {c20 : Nat → Int → Int → Int → Int → Int → MS → Prop} {S0 : MS} {Q : Out → MS → Prop} (hc20 : ∀ (x0 : Nat) (x1 : Int) (x2 : Int) (x3 : Int) (x4 : Int) (x5 : Int) (S : MS), c20 x0 x1 x2 x3 x4 x5 S → Jw FinM RX11 cX11_learns 7 (some .int) [] yX11_learns (d + 1) S0 S 20 [(0, vA x0), (1, vI x1), (2, vI x2), (3, vI x3), (4, vI x4), (5, vI x5)] [] Q) (x0 : Nat) (x1 : Int) (x2 : Int) (x3 : Int) (x4 : Int) (S : MS) (h : VX11_learns_212 d c20 Q x0 x1 x2 x3 x4 S) : Jw FinM RX11 cX11_learns 7 (some .int) [] yX11_learns (d + 1) S0 S 212 [(0, vA x0), (1, vI x1), (2, vI x2), (3, vI x3), (4, vI x4)] [] Q :=
  j_aload_n 0 dX11_learns_212 rfl (j_iload 4 dX11_learns_213 rfl (j_iload_n 1 dX11_learns_215 rfl (j_aload_n 0 dX11_learns_216 rfl (j_getR 11 22 f_RX11_58 dX11_learns_217 h (fun b1 h => j_aload_n 0 dX11_learns_220 rfl (j_getR 11 28 f_RX11_64 dX11_learns_221 h (fun b2 h => j_iload 4 dX11_learns_224 rfl (j_iald dX11_learns_226 h (fun h => j_iald dX11_learns_227 h (fun h => j_aload_n 0 dX11_learns_228 rfl (j_getR 11 22 f_RX11_58 dX11_learns_229 h (fun b3 h => j_aload_n 0 dX11_learns_232 rfl (j_getR 11 28 f_RX11_64 dX11_learns_233 h (fun b4 h => j_iload 4 dX11_learns_236 rfl (j_iald dX11_learns_238 h (fun h => j_iald dX11_learns_239 h (fun h => j_aload_n 0 dX11_learns_240 rfl (j_getR 11 29 f_RX11_67 dX11_learns_241 h (fun b5 h => j_iload 4 dX11_learns_244 rfl (j_iald dX11_learns_246 h (fun h => j_callS (rest := [vI (S.I b1 ((S.I b2 (x4).toNat)).toNat), vI x1, vI x4, vA x0]) [vI (S.I b3 ((S.I b4 (x4).toNat)).toNat), vI (S.I b5 (x4).toNat)] k_RX11_349 w_9_18 rfl rfl (Nat.le_of_ble_eq_true rfl) dX11_learns_247 h (kI (fun r6 S6 h => j_callV (rest := []) 11 [vI x4, vI x1, vI (S.I b1 ((S.I b2 (x4).toNat)).toNat), vI r6] k_RX11_352 ⟨w_9_26, p_7_2⟩ ⟨_, _, rfl⟩ (by decide) rfl rfl (Nat.le_of_ble_eq_true rfl) dX11_learns_250 h (kV (fun S7 h => j_iinc 4 (lv2 := [(4, vI (x4 + 1)), (0, vA x0), (1, vI x1), (2, vI x2), (3, vI x3)]) dX11_learns_253 rfl (by decide) rfl (j_aload_n 1 dX11_learns_256 rfl (j_iload 0 dX11_learns_257 rfl (j_iload_n 3 dX11_learns_259 rfl (j_iload 0 dX11_learns_260 rfl (j_isub dX11_learns_262 (j_iload_n 4 dX11_learns_263 rfl (j_callV (rest := []) 11 [vI (x4 + 1), vI (x2 - (x4 + 1)), vI x3] k_RX11_340 ⟨w_9_7, p_7_0⟩ ⟨_, _, rfl⟩ (by decide) rfl rfl (Nat.le_of_ble_eq_true rfl) dX11_learns_264 h (kI (fun r8 S8 h => j_istore (lv2 := [(5, vI r8), (4, vI (x4 + 1)), (0, vA x0), (1, vI x1), (2, vI x2), (3, vI x3)]) dX11_learns_267 (by decide) rfl (j_goto (tgt := 20) dX11_learns_269 (by decide) (j_sub [2, 3, 4, 5, 1, 0] rfl (hc20 _ _ _ _ _ _ _ h))))) (fun _ _ h => h.elim)))))))))) (fun _ _ h => h.elim))) (fun _ _ h => h.elim))))))))))))))))))))))
def VX11_learns_161 (d : Nat) (c20 : Nat → Int → Int → Int → Int → Int → MS → Prop) (Q : Out → MS → Prop) (x0 : Nat) (x1 : Int) (x2 : Int) (x3 : Int) (x4 : Int) (S : MS) : Prop :=
  S.K x0 = 11 ∧ ∃ b1, S.R x0 28 = some b1 ∧ ((S.K b1 = 13 ∧ 0 ≤ x4 ∧ x4 < S.N b1) ∧ (S.K x0 = 11 ∧ ((R32 (S.I b1 (x4).toNat) ∧ R32 (S.I x0 23)) ∧ (((S.I b1 (x4).toNat) < (S.I x0 23)) → S.K x0 = 11 ∧ (S.K x0 = 11 ∧ ((S.setI x0 30 ((S.I x0 30) + 1)).K x0 = 11 ∧ ((R32 ((S.setI x0 30 ((S.I x0 30) + 1)).I x0 30) ∧ R32 (4000 : Int)) ∧ ((((S.setI x0 30 ((S.I x0 30) + 1)).I x0 30) ≤ (4000 : Int)) → (S.setI x0 30 ((S.I x0 30) + 1)).K x0 = 11 ∧ ∃ b2, (S.setI x0 30 ((S.I x0 30) + 1)).R x0 29 = some b2 ∧ (((S.setI x0 30 ((S.I x0 30) + 1)).K b2 = 13 ∧ 0 ≤ x4 ∧ x4 < (S.setI x0 30 ((S.I x0 30) + 1)).N b2) ∧ (VX11_learns_212 d c20 Q x0 x1 x2 x3 x4 ((S.setI x0 30 ((S.I x0 30) + 1)).setI b2 (x4).toNat 0)))) ∧ (¬ (((S.setI x0 30 ((S.I x0 30) + 1)).I x0 30) ≤ (4000 : Int)) → Q (.inl (some (vI ((-2))))) (S.setI x0 30 ((S.I x0 30) + 1))))))) ∧ (¬ ((S.I b1 (x4).toNat) < (S.I x0 23)) → c20 x0 x1 x2 x3 x4 0 S))))
theorem JX11_learns_161 {d : Nat} {c20 : Nat → Int → Int → Int → Int → Int → MS → Prop} {S0 : MS} {Q : Out → MS → Prop} (hc20 : ∀ (x0 : Nat) (x1 : Int) (x2 : Int) (x3 : Int) (x4 : Int) (x5 : Int) (S : MS), c20 x0 x1 x2 x3 x4 x5 S → Jw FinM RX11 cX11_learns 7 (some .int) [] yX11_learns (d + 1) S0 S 20 [(0, vA x0), (1, vI x1), (2, vI x2), (3, vI x3), (4, vI x4), (5, vI x5)] [] Q) (x0 : Nat) (x1 : Int) (x2 : Int) (x3 : Int) (x4 : Int) (S : MS) (h : VX11_learns_161 d c20 Q x0 x1 x2 x3 x4 S) : Jw FinM RX11 cX11_learns 7 (some .int) [] yX11_learns (d + 1) S0 S 161 [(0, vA x0), (1, vI x1), (2, vI x2), (3, vI x3), (4, vI x4)] [] Q :=
  j_aload_n 0 dX11_learns_161 rfl (j_getR 11 28 f_RX11_64 dX11_learns_162 h (fun b1 h => j_iload 4 dX11_learns_165 rfl (j_iald dX11_learns_167 h (fun h => j_aload_n 0 dX11_learns_168 rfl (j_getI 11 23 f_RX11_277 dX11_learns_169 h (fun h => j_icmp_lt (tgt := 181) dX11_learns_172 (by decide) h (fun h => j_aload_n 0 dX11_learns_181 rfl (j_dup rfl dX11_learns_182 (j_getI 11 30 f_RX11_346 dX11_learns_183 h (fun h => j_iconst dX11_learns_186 (j_iadd dX11_learns_187 (j_putI 11 30 f_RX11_346 dX11_learns_188 h (fun h => j_aload_n 0 dX11_learns_191 rfl (j_getI 11 30 f_RX11_346 dX11_learns_192 h (fun h => j_sipush dX11_learns_195 rfl (j_icmp_le (tgt := 204) dX11_learns_198 (by decide) h (fun h => j_aload_n 0 dX11_learns_204 rfl (j_getR 11 29 f_RX11_67 dX11_learns_205 h (fun b2 h => j_iload 4 dX11_learns_208 rfl (j_iconst dX11_learns_210 (j_iast dX11_learns_211 h (fun h => JX11_learns_212 hc20 _ _ _ _ _ _ h)))))) (fun h => j_bipush dX11_learns_201 rfl (j_iret rfl dX11_learns_203 h)))))))))))) (fun h => j_iconst dX11_learns_175 (j_istore (lv2 := [(5, vI 0), (0, vA x0), (1, vI x1), (2, vI x2), (3, vI x3), (4, vI x4)]) dX11_learns_176 (by decide) rfl (j_goto (tgt := 20) dX11_learns_178 (by decide) (j_sub [1, 2, 3, 4, 5, 0] rfl (hc20 _ _ _ _ _ _ _ h)))))))))))
def VX11_learns_123 (d : Nat) (c20 : Nat → Int → Int → Int → Int → Int → MS → Prop) (Q : Out → MS → Prop) : Nat → Nat → Int → Int → Int → Int → MS → Prop
  | 0, _, _, _, _, _, _ => False
  | n + 1, x0, x1, x2, x3, x4, S => S.K x0 = 11 ∧ ∃ b1, S.R x0 28 = some b1 ∧ ((S.K b1 = 13 ∧ 0 ≤ x4 ∧ x4 < S.N b1) ∧ (S.K x0 = 11 ∧ ((R32 (S.I b1 (x4).toNat) ∧ R32 (S.I x0 23)) ∧ (((S.I x0 23) ≤ (S.I b1 (x4).toNat)) → VX11_learns_161 d c20 Q x0 x1 x2 x3 x4 S) ∧ (¬ ((S.I x0 23) ≤ (S.I b1 (x4).toNat)) → S.K x0 = 11 ∧ Mw hX11_isIdle yX11_isIdle d [vA x0, vI x4, vI x1] S (oI (fun r2 S2 => R32 r2 ∧ ((r2 = 0) → VX11_learns_161 d c20 Q x0 x1 x2 x3 x4 S2) ∧ (¬ (r2 = 0) → S2.K x0 = 11 ∧ ∃ b3, S2.R x0 28 = some b3 ∧ ((S2.K b3 = 13 ∧ 0 ≤ x4 ∧ x4 < S2.N b3) ∧ ((S2.K b3 = 13 ∧ 0 ≤ x4 ∧ x4 < S2.N b3) ∧ ((VX11_learns_123 d c20 Q n) x0 x1 x2 x3 x4 (S2.setI b3 (x4).toNat ((S2.I b3 (x4).toNat) + 1))))))))))))
theorem JX11_learns_123 {d : Nat} {c20 : Nat → Int → Int → Int → Int → Int → MS → Prop} {S0 : MS} {Q : Out → MS → Prop} (hc20 : ∀ (x0 : Nat) (x1 : Int) (x2 : Int) (x3 : Int) (x4 : Int) (x5 : Int) (S : MS), c20 x0 x1 x2 x3 x4 x5 S → Jw FinM RX11 cX11_learns 7 (some .int) [] yX11_learns (d + 1) S0 S 20 [(0, vA x0), (1, vI x1), (2, vI x2), (3, vI x3), (4, vI x4), (5, vI x5)] [] Q) : ∀ (n : Nat) (x0 : Nat) (x1 : Int) (x2 : Int) (x3 : Int) (x4 : Int) (S : MS), VX11_learns_123 d c20 Q n x0 x1 x2 x3 x4 S → Jw FinM RX11 cX11_learns 7 (some .int) [] yX11_learns (d + 1) S0 S 123 [(0, vA x0), (1, vI x1), (2, vI x2), (3, vI x3), (4, vI x4)] [] Q := by
  intro n
  induction n with
  | zero => intro x0 x1 x2 x3 x4 S h; exact h.elim
  | succ n ih =>
    intro x0 x1 x2 x3 x4 S h
    exact j_aload_n 0 dX11_learns_123 rfl (j_getR 11 28 f_RX11_64 dX11_learns_124 h (fun b1 h => j_iload 4 dX11_learns_127 rfl (j_iald dX11_learns_129 h (fun h => j_aload_n 0 dX11_learns_130 rfl (j_getI 11 23 f_RX11_277 dX11_learns_131 h (fun h => j_icmp_ge (tgt := 161) dX11_learns_134 (by decide) h (fun h => JX11_learns_161 hc20 _ _ _ _ _ _ h) (fun h => j_aload_n 0 dX11_learns_137 rfl (j_iload 4 dX11_learns_138 rfl (j_iload_n 1 dX11_learns_140 rfl (j_callV (rest := []) 11 [vI x4, vI x1] k_RX11_343 ⟨w_9_15, p_7_1⟩ ⟨_, _, rfl⟩ (by decide) rfl rfl (Nat.le_of_ble_eq_true rfl) dX11_learns_141 h (kI (fun r2 S2 h => j_if_eq (tgt := 161) dX11_learns_144 (by decide) h (fun h => JX11_learns_161 hc20 _ _ _ _ _ _ h) (fun h => j_aload_n 0 dX11_learns_147 rfl (j_getR 11 28 f_RX11_64 dX11_learns_148 h (fun b3 h => j_iload 4 dX11_learns_151 rfl (j_dup2 rfl rfl dX11_learns_153 (j_iald dX11_learns_154 h (fun h => j_iconst dX11_learns_155 (j_iadd dX11_learns_156 (j_iast dX11_learns_157 h (fun h => j_goto (tgt := 123) dX11_learns_158 (by decide) (ih _ _ _ _ _ _ h)))))))))))) (fun _ _ h => h.elim)))))))))))
def VX11_learns_107 (d : Nat) (c20 : Nat → Int → Int → Int → Int → Int → MS → Prop) (Q : Out → MS → Prop) (x0 : Nat) (x1 : Int) (x2 : Int) (x3 : Int) (x4 : Int) (x6 : Int) (S : MS) : Prop :=
  R32 x6 ∧ (¬ (x6 = 0) → VX11_learns_212 d c20 Q x0 x1 x2 x3 x4 S) ∧ ((x6 = 0) → S.K x0 = 11 ∧ ∃ b1, S.R x0 28 = some b1 ∧ ((S.K b1 = 13 ∧ 0 ≤ x4 ∧ x4 < S.N b1) ∧ ((S.K b1 = 13 ∧ 0 ≤ x4 ∧ x4 < S.N b1) ∧ (∃ m, VX11_learns_123 d c20 Q m x0 x1 x2 x3 x4 (S.setI b1 (x4).toNat ((S.I b1 (x4).toNat) + 1))))))
theorem JX11_learns_107 {d : Nat} {c20 : Nat → Int → Int → Int → Int → Int → MS → Prop} {S0 : MS} {Q : Out → MS → Prop} (hc20 : ∀ (x0 : Nat) (x1 : Int) (x2 : Int) (x3 : Int) (x4 : Int) (x5 : Int) (S : MS), c20 x0 x1 x2 x3 x4 x5 S → Jw FinM RX11 cX11_learns 7 (some .int) [] yX11_learns (d + 1) S0 S 20 [(0, vA x0), (1, vI x1), (2, vI x2), (3, vI x3), (4, vI x4), (5, vI x5)] [] Q) (x0 : Nat) (x1 : Int) (x2 : Int) (x3 : Int) (x4 : Int) (x6 : Int) (S : MS) (h : VX11_learns_107 d c20 Q x0 x1 x2 x3 x4 x6 S) : Jw FinM RX11 cX11_learns 7 (some .int) [] yX11_learns (d + 1) S0 S 107 [(0, vA x0), (1, vI x1), (2, vI x2), (3, vI x3), (4, vI x4), (6, vI x6)] [] Q :=
  j_iload 5 dX11_learns_107 rfl (j_if_ne (tgt := 212) dX11_learns_109 (by decide) h (fun h => j_sub [0, 1, 2, 3, 4] rfl (JX11_learns_212 hc20 _ _ _ _ _ _ h)) (fun h => j_aload_n 0 dX11_learns_112 rfl (j_getR 11 28 f_RX11_64 dX11_learns_113 h (fun b1 h => j_iload 4 dX11_learns_116 rfl (j_dup2 rfl rfl dX11_learns_118 (j_iald dX11_learns_119 h (fun h => j_iconst dX11_learns_120 (j_iadd dX11_learns_121 (j_iast dX11_learns_122 h (fun h => Exists.elim h (fun m h => j_sub [0, 1, 2, 3, 4] rfl (JX11_learns_123 hc20 m _ _ _ _ _ _ h))))))))))))
def VX11_learns_98 (d : Nat) (c20 : Nat → Int → Int → Int → Int → Int → MS → Prop) (Q : Out → MS → Prop) (x0 : Nat) (x1 : Int) (x2 : Int) (x3 : Int) (x4 : Int) (x6 : Int) (S : MS) : Prop :=
  VX11_learns_107 d c20 Q x0 x1 x2 x3 x4 x6 S
theorem JX11_learns_98 {d : Nat} {c20 : Nat → Int → Int → Int → Int → Int → MS → Prop} {S0 : MS} {Q : Out → MS → Prop} (hc20 : ∀ (x0 : Nat) (x1 : Int) (x2 : Int) (x3 : Int) (x4 : Int) (x5 : Int) (S : MS), c20 x0 x1 x2 x3 x4 x5 S → Jw FinM RX11 cX11_learns 7 (some .int) [] yX11_learns (d + 1) S0 S 20 [(0, vA x0), (1, vI x1), (2, vI x2), (3, vI x3), (4, vI x4), (5, vI x5)] [] Q) (x0 : Nat) (x1 : Int) (x2 : Int) (x3 : Int) (x4 : Int) (x6 : Int) (S : MS) (h : VX11_learns_98 d c20 Q x0 x1 x2 x3 x4 x6 S) : Jw FinM RX11 cX11_learns 7 (some .int) [] yX11_learns (d + 1) S0 S 98 [(0, vA x0), (1, vI x1), (2, vI x2), (3, vI x3), (4, vI x4), (6, vI x6)] [] Q :=
  j_iconst dX11_learns_98 (j_istore (lv2 := [(5, vI 2), (0, vA x0), (1, vI x1), (2, vI x2), (3, vI x3), (4, vI x4), (6, vI x6)]) dX11_learns_99 (by decide) rfl (j_goto (tgt := 107) dX11_learns_101 (by decide) (j_sub [1, 2, 3, 4, 5, 6] rfl (JX11_learns_107 hc20 _ _ _ _ _ _ _ h))))
def VX11_learns_77 (d : Nat) (c20 : Nat → Int → Int → Int → Int → Int → MS → Prop) (Q : Out → MS → Prop) (x0 : Nat) (x1 : Int) (x2 : Int) (x3 : Int) (x4 : Int) (x5 : Int) (t0 : Int) (S : MS) : Prop :=
  R32 t0 ∧ ((t0 = 0) → VX11_learns_98 d c20 Q x0 x1 x2 x3 x4 t0 S) ∧ (¬ (t0 = 0) → S.K x0 = 11 ∧ ∃ b1, S.R x0 29 = some b1 ∧ ((S.K b1 = 13 ∧ 0 ≤ x4 ∧ x4 < S.N b1) ∧ ((R32 (S.I b1 (x4).toNat) ∧ R32 x3) ∧ (¬ ((S.I b1 (x4).toNat) = x3) → VX11_learns_98 d c20 Q x0 x1 x2 x3 x4 t0 S) ∧ (((S.I b1 (x4).toNat) = x3) → c20 x0 x1 x2 x3 x4 x5 S))))
theorem JX11_learns_77 {d : Nat} {c20 : Nat → Int → Int → Int → Int → Int → MS → Prop} {S0 : MS} {Q : Out → MS → Prop} (hc20 : ∀ (x0 : Nat) (x1 : Int) (x2 : Int) (x3 : Int) (x4 : Int) (x5 : Int) (S : MS), c20 x0 x1 x2 x3 x4 x5 S → Jw FinM RX11 cX11_learns 7 (some .int) [] yX11_learns (d + 1) S0 S 20 [(0, vA x0), (1, vI x1), (2, vI x2), (3, vI x3), (4, vI x4), (5, vI x5)] [] Q) (x0 : Nat) (x1 : Int) (x2 : Int) (x3 : Int) (x4 : Int) (x5 : Int) (t0 : Int) (S : MS) (h : VX11_learns_77 d c20 Q x0 x1 x2 x3 x4 x5 t0 S) : Jw FinM RX11 cX11_learns 7 (some .int) [] yX11_learns (d + 1) S0 S 77 [(0, vA x0), (1, vI x1), (2, vI x2), (3, vI x3), (4, vI x4), (5, vI x5)] [vI t0] Q :=
  j_istore (lv2 := [(6, vI t0), (0, vA x0), (1, vI x1), (2, vI x2), (3, vI x3), (4, vI x4), (5, vI x5)]) dX11_learns_77 (by decide) rfl (j_iload 0 dX11_learns_79 rfl (j_if_eq (tgt := 98) dX11_learns_81 (by decide) h (fun h => j_sub [1, 2, 3, 4, 5, 0] rfl (JX11_learns_98 hc20 _ _ _ _ _ _ _ h)) (fun h => j_aload_n 1 dX11_learns_84 rfl (j_getR 11 29 f_RX11_67 dX11_learns_85 h (fun b1 h => j_iload 5 dX11_learns_88 rfl (j_iald dX11_learns_90 h (fun h => j_iload_n 4 dX11_learns_91 rfl (j_icmp_ne (tgt := 98) dX11_learns_92 (by decide) h (fun h => j_sub [1, 2, 3, 4, 5, 0] rfl (JX11_learns_98 hc20 _ _ _ _ _ _ _ h)) (fun h => j_goto (tgt := 20) dX11_learns_95 (by decide) (j_sub [1, 2, 3, 4, 5, 6] rfl (hc20 _ _ _ _ _ _ _ h)))))))))))
def VX11_learns_65 (d : Nat) (c20 : Nat → Int → Int → Int → Int → Int → MS → Prop) (Q : Out → MS → Prop) (x0 : Nat) (x1 : Int) (x2 : Int) (x3 : Int) (x4 : Int) (x5 : Int) (t0 : Int) (t1 : Int) (t2 : Nat) (S : MS) : Prop :=
  (S.K t2 = 13 ∧ 0 ≤ t1 ∧ t1 < S.N t2) ∧ ((R32 x5 ∧ R32 (1 : Int)) ∧ (¬ (x5 = (1 : Int)) → VX11_learns_77 d c20 Q x0 x1 x2 x3 x4 x5 0 (S.setI t2 (t1).toNat t0)) ∧ ((x5 = (1 : Int)) → VX11_learns_77 d c20 Q x0 x1 x2 x3 x4 x5 1 (S.setI t2 (t1).toNat t0)))
theorem JX11_learns_65 {d : Nat} {c20 : Nat → Int → Int → Int → Int → Int → MS → Prop} {S0 : MS} {Q : Out → MS → Prop} (hc20 : ∀ (x0 : Nat) (x1 : Int) (x2 : Int) (x3 : Int) (x4 : Int) (x5 : Int) (S : MS), c20 x0 x1 x2 x3 x4 x5 S → Jw FinM RX11 cX11_learns 7 (some .int) [] yX11_learns (d + 1) S0 S 20 [(0, vA x0), (1, vI x1), (2, vI x2), (3, vI x3), (4, vI x4), (5, vI x5)] [] Q) (x0 : Nat) (x1 : Int) (x2 : Int) (x3 : Int) (x4 : Int) (x5 : Int) (t0 : Int) (t1 : Int) (t2 : Nat) (S : MS) (h : VX11_learns_65 d c20 Q x0 x1 x2 x3 x4 x5 t0 t1 t2 S) : Jw FinM RX11 cX11_learns 7 (some .int) [] yX11_learns (d + 1) S0 S 65 [(0, vA x0), (1, vI x1), (2, vI x2), (3, vI x3), (4, vI x4), (5, vI x5)] [vI t0, vI t1, vA t2] Q :=
  j_iast dX11_learns_65 h (fun h => j_iload 5 dX11_learns_66 rfl (j_iconst dX11_learns_68 (j_icmp_ne (tgt := 76) dX11_learns_69 (by decide) h (fun h => j_iconst dX11_learns_76 (JX11_learns_77 hc20 _ _ _ _ _ _ _ _ h)) (fun h => j_iconst dX11_learns_72 (j_goto (tgt := 77) dX11_learns_73 (by decide) (JX11_learns_77 hc20 _ _ _ _ _ _ _ _ h))))))
def VX11_learns_31 (d : Nat) (c20 : Nat → Int → Int → Int → Int → Int → MS → Prop) (Q : Out → MS → Prop) (x0 : Nat) (x1 : Int) (x2 : Int) (x3 : Int) (x4 : Int) (x5 : Int) (S : MS) : Prop :=
  (R32 x5 ∧ R32 (2 : Int)) ∧ ((x5 = (2 : Int)) → VX11_learns_107 d c20 Q x0 x1 x2 x3 x4 0 S) ∧ (¬ (x5 = (2 : Int)) → S.K x0 = 11 ∧ ∃ b1, S.R x0 29 = some b1 ∧ ((R32 x5 ∧ R32 (1 : Int)) ∧ (¬ (x5 = (1 : Int)) → VX11_learns_65 d c20 Q x0 x1 x2 x3 (x4 + (-1)) x5 x3 (x4 + (-1)) b1 S) ∧ ((x5 = (1 : Int)) → S.K x0 = 11 ∧ ∃ b2, S.R x0 29 = some b2 ∧ ((S.K b2 = 13 ∧ 0 ≤ (x4 + (-1)) ∧ (x4 + (-1)) < S.N b2) ∧ (VX11_learns_65 d c20 Q x0 x1 x2 x3 (x4 + (-1)) x5 ((S.I b2 ((x4 + (-1))).toNat) + 1) (x4 + (-1)) b1 S)))))
theorem JX11_learns_31 {d : Nat} {c20 : Nat → Int → Int → Int → Int → Int → MS → Prop} {S0 : MS} {Q : Out → MS → Prop} (hc20 : ∀ (x0 : Nat) (x1 : Int) (x2 : Int) (x3 : Int) (x4 : Int) (x5 : Int) (S : MS), c20 x0 x1 x2 x3 x4 x5 S → Jw FinM RX11 cX11_learns 7 (some .int) [] yX11_learns (d + 1) S0 S 20 [(0, vA x0), (1, vI x1), (2, vI x2), (3, vI x3), (4, vI x4), (5, vI x5)] [] Q) (x0 : Nat) (x1 : Int) (x2 : Int) (x3 : Int) (x4 : Int) (x5 : Int) (S : MS) (h : VX11_learns_31 d c20 Q x0 x1 x2 x3 x4 x5 S) : Jw FinM RX11 cX11_learns 7 (some .int) [] yX11_learns (d + 1) S0 S 31 [(0, vA x0), (1, vI x1), (2, vI x2), (3, vI x3), (4, vI x4), (5, vI x5)] [] Q :=
  j_iload 5 dX11_learns_31 rfl (j_iconst dX11_learns_33 (j_icmp_eq (tgt := 104) dX11_learns_34 (by decide) h (fun h => j_iconst dX11_learns_104 (j_istore (lv2 := [(6, vI 0), (0, vA x0), (1, vI x1), (2, vI x2), (3, vI x3), (4, vI x4), (5, vI x5)]) dX11_learns_105 (by decide) rfl (j_sub [1, 2, 3, 4, 5, 0] rfl (JX11_learns_107 hc20 _ _ _ _ _ _ _ h)))) (fun h => j_iinc 4 (lv2 := [(4, vI (x4 + (-1))), (0, vA x0), (1, vI x1), (2, vI x2), (3, vI x3), (5, vI x5)]) dX11_learns_37 rfl (by decide) rfl (j_aload_n 1 dX11_learns_40 rfl (j_getR 11 29 f_RX11_67 dX11_learns_41 h (fun b1 h => j_iload 0 dX11_learns_44 rfl (j_iload 5 dX11_learns_46 rfl (j_iconst dX11_learns_48 (j_icmp_ne (tgt := 64) dX11_learns_49 (by decide) h (fun h => j_iload_n 4 dX11_learns_64 rfl (j_sub [1, 2, 3, 4, 0, 5] rfl (JX11_learns_65 hc20 _ _ _ _ _ _ _ _ _ _ h))) (fun h => j_aload_n 1 dX11_learns_52 rfl (j_getR 11 29 f_RX11_67 dX11_learns_53 h (fun b2 h => j_iload 0 dX11_learns_56 rfl (j_iald dX11_learns_58 h (fun h => j_iconst dX11_learns_59 (j_iadd dX11_learns_60 (j_goto (tgt := 65) dX11_learns_61 (by decide) (j_sub [1, 2, 3, 4, 0, 5] rfl (JX11_learns_65 hc20 _ _ _ _ _ _ _ _ _ _ h))))))))))))))))))
def VX11_learns_20 (d : Nat) (Q : Out → MS → Prop) : Nat → Nat → Int → Int → Int → Int → Int → MS → Prop
  | 0, _, _, _, _, _, _, _ => False
  | n + 1, x0, x1, x2, x3, x4, x5, S => (R32 x5 ∧ R32 (2 : Int)) ∧ ((x5 = (2 : Int)) → VX11_learns_31 d (VX11_learns_20 d Q n) Q x0 x1 x2 x3 x4 x5 S) ∧ (¬ (x5 = (2 : Int)) → R32 x4 ∧ ((x4 ≤ 0) → Q (.inl (some (vI x5))) S) ∧ (¬ (x4 ≤ 0) → VX11_learns_31 d (VX11_learns_20 d Q n) Q x0 x1 x2 x3 x4 x5 S))
theorem JX11_learns_20 {d : Nat} {S0 : MS} {Q : Out → MS → Prop} : ∀ (n : Nat) (x0 : Nat) (x1 : Int) (x2 : Int) (x3 : Int) (x4 : Int) (x5 : Int) (S : MS), VX11_learns_20 d Q n x0 x1 x2 x3 x4 x5 S → Jw FinM RX11 cX11_learns 7 (some .int) [] yX11_learns (d + 1) S0 S 20 [(0, vA x0), (1, vI x1), (2, vI x2), (3, vI x3), (4, vI x4), (5, vI x5)] [] Q := by
  intro n
  induction n with
  | zero => intro x0 x1 x2 x3 x4 x5 S h; exact h.elim
  | succ n ih =>
    intro x0 x1 x2 x3 x4 x5 S h
    exact j_iload 5 dX11_learns_20 rfl (j_iconst dX11_learns_22 (j_icmp_eq (tgt := 31) dX11_learns_23 (by decide) h (fun h => JX11_learns_31 ih _ _ _ _ _ _ _ h) (fun h => j_iload 4 dX11_learns_26 rfl (j_if_le (tgt := 272) dX11_learns_28 (by decide) h (fun h => j_iload 5 dX11_learns_272 rfl (j_iret rfl dX11_learns_274 h)) (fun h => JX11_learns_31 ih _ _ _ _ _ _ _ h)))))
def VX11_learns_0 (d : Nat) (Q : Out → MS → Prop) (x0 : Nat) (x1 : Int) (x2 : Int) (S : MS) : Prop :=
  Mw hX11_pansOf yX11_pansOf d [vI x1] S (oI (fun r1 S1 => S1.K x0 = 11 ∧ Mw hX11_plainly yX11_plainly d [vA x0, vI 0, vI x2, vI r1] S1 (oI (fun r2 S2 => ∃ m, VX11_learns_20 d Q m x0 x1 x2 r1 0 r2 S2))))
theorem JX11_learns_0 {d : Nat} {S0 : MS} {Q : Out → MS → Prop} (x0 : Nat) (x1 : Int) (x2 : Int) (S : MS) (h : VX11_learns_0 d Q x0 x1 x2 S) : Jw FinM RX11 cX11_learns 7 (some .int) [] yX11_learns (d + 1) S0 S 0 [(0, vA x0), (1, vI x1), (2, vI x2)] [] Q :=
  j_iload_n 1 dX11_learns_0 rfl (j_callS (rest := []) [vI x1] k_RX11_98 w_7_181 rfl rfl (Nat.le_of_ble_eq_true rfl) dX11_learns_1 h (kI (fun r1 S1 h => j_istore_n (lv2 := [(3, vI r1), (0, vA x0), (1, vI x1), (2, vI x2)]) dX11_learns_4 (by decide) rfl (j_iconst dX11_learns_5 (j_istore (lv2 := [(4, vI 0), (3, vI r1), (0, vA x0), (1, vI x1), (2, vI x2)]) dX11_learns_6 (by decide) rfl (j_aload_n 2 dX11_learns_8 rfl (j_iconst dX11_learns_9 (j_iload_n 4 dX11_learns_10 rfl (j_iload_n 1 dX11_learns_11 rfl (j_callV (rest := []) 11 [vI 0, vI x2, vI r1] k_RX11_340 ⟨w_9_7, p_7_0⟩ ⟨_, _, rfl⟩ (by decide) rfl rfl (Nat.le_of_ble_eq_true rfl) dX11_learns_12 h (kI (fun r2 S2 h => j_istore (lv2 := [(5, vI r2), (4, vI 0), (3, vI r1), (0, vA x0), (1, vI x1), (2, vI x2)]) dX11_learns_15 (by decide) rfl (j_iconst dX11_learns_17 (j_istore (lv2 := [(6, vI 0), (5, vI r2), (4, vI 0), (3, vI r1), (0, vA x0), (1, vI x1), (2, vI x2)]) dX11_learns_18 (by decide) rfl (Exists.elim h (fun m h => j_sub [4, 5, 6, 3, 2, 1] rfl (JX11_learns_20 m _ _ _ _ _ _ _ h))))))) (fun _ _ h => h.elim)))))))))) (fun _ _ h => h.elim))
theorem MX11_learns {d : Nat} {x0 : Nat} {x1 : Int} {x2 : Int} {S : MS} {Q : Out → MS → Prop} (h : VX11_learns_0 d Q x0 x1 x2 S) : Mw hX11_learns yX11_learns (d + 1) [vA x0, vI x1, vI x2] S Q := Mw.ofJ (by decide) (Nat.le_of_ble_eq_true rfl) (JX11_learns_0 _ _ _ S h)
theorem dX11_isIdle_0 : decode cX11_isIdle 0 = .ok (.aload_n 0, 1) := by decide +kernel
theorem dX11_isIdle_1 : decode cX11_isIdle 1 = .ok (.iload_n 1, 1) := by decide +kernel
theorem dX11_isIdle_2 : decode cX11_isIdle 2 = .ok (.iload_n 2, 1) := by decide +kernel
theorem dX11_isIdle_3 : decode cX11_isIdle 3 = .ok (.aload_n 0, 1) := by decide +kernel
theorem dX11_isIdle_4 : decode cX11_isIdle 4 = .ok (.getfield 58, 3) := by decide +kernel
theorem dX11_isIdle_7 : decode cX11_isIdle 7 = .ok (.aload_n 0, 1) := by decide +kernel
theorem dX11_isIdle_8 : decode cX11_isIdle 8 = .ok (.getfield 64, 3) := by decide +kernel
theorem dX11_isIdle_11 : decode cX11_isIdle 11 = .ok (.iload_n 1, 1) := by decide +kernel
theorem dX11_isIdle_12 : decode cX11_isIdle 12 = .ok (.iaload, 1) := by decide +kernel
theorem dX11_isIdle_13 : decode cX11_isIdle 13 = .ok (.iaload, 1) := by decide +kernel
theorem dX11_isIdle_14 : decode cX11_isIdle 14 = .ok (.invokevirtual 321, 3) := by decide +kernel
theorem dX11_isIdle_17 : decode cX11_isIdle 17 = .ok (.aload_n 0, 1) := by decide +kernel
theorem dX11_isIdle_18 : decode cX11_isIdle 18 = .ok (.getfield 310, 3) := by decide +kernel
theorem dX11_isIdle_21 : decode cX11_isIdle 21 = .ok (.aload_n 0, 1) := by decide +kernel
theorem dX11_isIdle_22 : decode cX11_isIdle 22 = .ok (.getfield 45, 3) := by decide +kernel
theorem dX11_isIdle_25 : decode cX11_isIdle 25 = .ok (.iload_n 1, 1) := by decide +kernel
theorem dX11_isIdle_26 : decode cX11_isIdle 26 = .ok (.iaload, 1) := by decide +kernel
theorem dX11_isIdle_27 : decode cX11_isIdle 27 = .ok (.if_icmp .ne 7, 3) := by decide +kernel
theorem dX11_isIdle_30 : decode cX11_isIdle 30 = .ok (.iconst 1, 1) := by decide +kernel
theorem dX11_isIdle_31 : decode cX11_isIdle 31 = .ok (.goto 4, 3) := by decide +kernel
theorem dX11_isIdle_34 : decode cX11_isIdle 34 = .ok (.iconst 0, 1) := by decide +kernel
theorem dX11_isIdle_35 : decode cX11_isIdle 35 = .ok (.ireturn, 1) := by decide +kernel
def VX11_isIdle_0 (d : Nat) (Q : Out → MS → Prop) (x0 : Nat) (x1 : Int) (x2 : Int) (S : MS) : Prop :=
  S.K x0 = 11 ∧ ∃ b1, S.R x0 22 = some b1 ∧ (S.K x0 = 11 ∧ ∃ b2, S.R x0 28 = some b2 ∧ ((S.K b2 = 13 ∧ 0 ≤ x1 ∧ x1 < S.N b2) ∧ ((S.K b1 = 13 ∧ 0 ≤ (S.I b2 (x1).toNat) ∧ (S.I b2 (x1).toNat) < S.N b1) ∧ (S.K x0 = 11 ∧ Mw hX11_lays yX11_lays d [vA x0, vI x1, vI x2, vI (S.I b1 ((S.I b2 (x1).toNat)).toNat)] S (oV (fun S3 => S3.K x0 = 11 ∧ (S3.K x0 = 11 ∧ ∃ b4, S3.R x0 17 = some b4 ∧ ((S3.K b4 = 13 ∧ 0 ≤ x1 ∧ x1 < S3.N b4) ∧ ((R32 (S3.I x0 25) ∧ R32 (S3.I b4 (x1).toNat)) ∧ (¬ ((S3.I x0 25) = (S3.I b4 (x1).toNat)) → B01 0 ∧ Q (.inl (some (vI 0))) S3) ∧ (((S3.I x0 25) = (S3.I b4 (x1).toNat)) → B01 1 ∧ Q (.inl (some (vI 1))) S3))))))))))
theorem JX11_isIdle_0 {d : Nat} {S0 : MS} {Q : Out → MS → Prop} (x0 : Nat) (x1 : Int) (x2 : Int) (S : MS) (h : VX11_isIdle_0 d Q x0 x1 x2 S) : Jw FinM RX11 cX11_isIdle 3 (some .boolean) [] yX11_isIdle (d + 1) S0 S 0 [(0, vA x0), (1, vI x1), (2, vI x2)] [] Q :=
  j_aload_n 0 dX11_isIdle_0 rfl (j_iload_n 1 dX11_isIdle_1 rfl (j_iload_n 2 dX11_isIdle_2 rfl (j_aload_n 0 dX11_isIdle_3 rfl (j_getR 11 22 f_RX11_58 dX11_isIdle_4 h (fun b1 h => j_aload_n 0 dX11_isIdle_7 rfl (j_getR 11 28 f_RX11_64 dX11_isIdle_8 h (fun b2 h => j_iload_n 1 dX11_isIdle_11 rfl (j_iald dX11_isIdle_12 h (fun h => j_iald dX11_isIdle_13 h (fun h => j_callV (rest := []) 11 [vI x1, vI x2, vI (S.I b1 ((S.I b2 (x1).toNat)).toNat)] k_RX11_321 ⟨w_8_226, p_6_13⟩ ⟨_, _, rfl⟩ (by decide) rfl rfl (Nat.le_of_ble_eq_true rfl) dX11_isIdle_14 h (kV (fun S3 h => j_aload_n 0 dX11_isIdle_17 rfl (j_getI 11 25 f_RX11_310 dX11_isIdle_18 h (fun h => j_aload_n 0 dX11_isIdle_21 rfl (j_getR 11 17 f_RX11_45 dX11_isIdle_22 h (fun b4 h => j_iload_n 1 dX11_isIdle_25 rfl (j_iald dX11_isIdle_26 h (fun h => j_icmp_ne (tgt := 34) dX11_isIdle_27 (by decide) h (fun h => j_iconst dX11_isIdle_34 (j_zret rfl dX11_isIdle_35 h)) (fun h => j_iconst dX11_isIdle_30 (j_goto (tgt := 35) dX11_isIdle_31 (by decide) (j_zret rfl dX11_isIdle_35 h))))))))))) (fun _ _ h => h.elim)))))))))))
theorem MX11_isIdle {d : Nat} {x0 : Nat} {x1 : Int} {x2 : Int} {S : MS} {Q : Out → MS → Prop} (h : VX11_isIdle_0 d Q x0 x1 x2 S) : Mw hX11_isIdle yX11_isIdle (d + 1) [vA x0, vI x1, vI x2] S Q := Mw.ofJ (by decide) (Nat.le_of_ble_eq_true rfl) (JX11_isIdle_0 _ _ _ S h)
theorem dX11_fewest_0 : decode cX11_fewest 0 = .ok (.aload_n 0, 1) := by decide +kernel
theorem dX11_fewest_1 : decode cX11_fewest 1 = .ok (.iconst 0, 1) := by decide +kernel
theorem dX11_fewest_2 : decode cX11_fewest 2 = .ok (.putfield 3, 3) := by decide +kernel
theorem dX11_fewest_5 : decode cX11_fewest 5 = .ok (.aload_n 0, 1) := by decide +kernel
theorem dX11_fewest_6 : decode cX11_fewest 6 = .ok (.aload_n 0, 1) := by decide +kernel
theorem dX11_fewest_7 : decode cX11_fewest 7 = .ok (.iload_n 1, 1) := by decide +kernel
theorem dX11_fewest_8 : decode cX11_fewest 8 = .ok (.invokevirtual 203, 3) := by decide +kernel
theorem dX11_fewest_11 : decode cX11_fewest 11 = .ok (.iconst 1, 1) := by decide +kernel
theorem dX11_fewest_12 : decode cX11_fewest 12 = .ok (.invokevirtual 190, 3) := by decide +kernel
theorem dX11_fewest_15 : decode cX11_fewest 15 = .ok (.ifCond .eq 5, 3) := by decide +kernel
theorem dX11_fewest_18 : decode cX11_fewest 18 = .ok (.iconst 0, 1) := by decide +kernel
theorem dX11_fewest_19 : decode cX11_fewest 19 = .ok (.ireturn, 1) := by decide +kernel
theorem dX11_fewest_20 : decode cX11_fewest 20 = .ok (.aload_n 0, 1) := by decide +kernel
theorem dX11_fewest_21 : decode cX11_fewest 21 = .ok (.iload_n 1, 1) := by decide +kernel
theorem dX11_fewest_22 : decode cX11_fewest 22 = .ok (.iconst 0, 1) := by decide +kernel
theorem dX11_fewest_23 : decode cX11_fewest 23 = .ok (.invokevirtual 94, 3) := by decide +kernel
theorem dX11_fewest_26 : decode cX11_fewest 26 = .ok (.istore_n 2, 1) := by decide +kernel
theorem dX11_fewest_27 : decode cX11_fewest 27 = .ok (.aload_n 0, 1) := by decide +kernel
theorem dX11_fewest_28 : decode cX11_fewest 28 = .ok (.invokevirtual 253, 3) := by decide +kernel
theorem dX11_fewest_31 : decode cX11_fewest 31 = .ok (.aload_n 0, 1) := by decide +kernel
theorem dX11_fewest_32 : decode cX11_fewest 32 = .ok (.iload_n 2, 1) := by decide +kernel
theorem dX11_fewest_33 : decode cX11_fewest 33 = .ok (.invokestatic 98, 3) := by decide +kernel
theorem dX11_fewest_36 : decode cX11_fewest 36 = .ok (.invokevirtual 274, 3) := by decide +kernel
theorem dX11_fewest_39 : decode cX11_fewest 39 = .ok (.aload_n 0, 1) := by decide +kernel
theorem dX11_fewest_40 : decode cX11_fewest 40 = .ok (.iconst 0, 1) := by decide +kernel
theorem dX11_fewest_41 : decode cX11_fewest 41 = .ok (.putfield 346, 3) := by decide +kernel
theorem dX11_fewest_44 : decode cX11_fewest 44 = .ok (.iconst 0, 1) := by decide +kernel
theorem dX11_fewest_45 : decode cX11_fewest 45 = .ok (.istore_n 3, 1) := by decide +kernel
theorem dX11_fewest_46 : decode cX11_fewest 46 = .ok (.iload_n 3, 1) := by decide +kernel
theorem dX11_fewest_47 : decode cX11_fewest 47 = .ok (.bipush 9, 2) := by decide +kernel
theorem dX11_fewest_49 : decode cX11_fewest 49 = .ok (.if_icmp .ge 35, 3) := by decide +kernel
theorem dX11_fewest_52 : decode cX11_fewest 52 = .ok (.aload_n 0, 1) := by decide +kernel
theorem dX11_fewest_53 : decode cX11_fewest 53 = .ok (.iload_n 2, 1) := by decide +kernel
theorem dX11_fewest_54 : decode cX11_fewest 54 = .ok (.iload_n 3, 1) := by decide +kernel
theorem dX11_fewest_55 : decode cX11_fewest 55 = .ok (.invokevirtual 356, 3) := by decide +kernel
theorem dX11_fewest_58 : decode cX11_fewest 58 = .ok (.istore 4, 2) := by decide +kernel
theorem dX11_fewest_60 : decode cX11_fewest 60 = .ok (.iload 4, 2) := by decide +kernel
theorem dX11_fewest_62 : decode cX11_fewest 62 = .ok (.bipush (-2), 2) := by decide +kernel
theorem dX11_fewest_64 : decode cX11_fewest 64 = .ok (.if_icmp .ne 6, 3) := by decide +kernel
theorem dX11_fewest_67 : decode cX11_fewest 67 = .ok (.bipush (-2), 2) := by decide +kernel
theorem dX11_fewest_69 : decode cX11_fewest 69 = .ok (.ireturn, 1) := by decide +kernel
theorem dX11_fewest_70 : decode cX11_fewest 70 = .ok (.iload 4, 2) := by decide +kernel
theorem dX11_fewest_72 : decode cX11_fewest 72 = .ok (.iconst 1, 1) := by decide +kernel
theorem dX11_fewest_73 : decode cX11_fewest 73 = .ok (.if_icmp .ne 5, 3) := by decide +kernel
theorem dX11_fewest_76 : decode cX11_fewest 76 = .ok (.iload_n 3, 1) := by decide +kernel
theorem dX11_fewest_77 : decode cX11_fewest 77 = .ok (.ireturn, 1) := by decide +kernel
theorem dX11_fewest_78 : decode cX11_fewest 78 = .ok (.iinc 3 1, 3) := by decide +kernel
theorem dX11_fewest_81 : decode cX11_fewest 81 = .ok (.goto (-35), 3) := by decide +kernel
theorem dX11_fewest_84 : decode cX11_fewest 84 = .ok (.iconst (-1), 1) := by decide +kernel
theorem dX11_fewest_85 : decode cX11_fewest 85 = .ok (.ireturn, 1) := by decide +kernel
def VX11_fewest_46 (d : Nat) (Q : Out → MS → Prop) : Nat → Nat → Int → Int → MS → Prop
  | 0, _, _, _, _ => False
  | n + 1, x0, x2, x3, S => (R32 x3 ∧ R32 (9 : Int)) ∧ (((9 : Int) ≤ x3) → Q (.inl (some (vI ((-1))))) S) ∧ (¬ ((9 : Int) ≤ x3) → S.K x0 = 11 ∧ Mw hX11_learns yX11_learns d [vA x0, vI x2, vI x3] S (oI (fun r1 S1 => (R32 r1 ∧ R32 ((-2) : Int)) ∧ (¬ (r1 = ((-2) : Int)) → (R32 r1 ∧ R32 (1 : Int)) ∧ (¬ (r1 = (1 : Int)) → (VX11_fewest_46 d Q n) x0 x2 (x3 + 1) S1) ∧ ((r1 = (1 : Int)) → Q (.inl (some (vI x3))) S1)) ∧ ((r1 = ((-2) : Int)) → Q (.inl (some (vI ((-2))))) S1))))
theorem JX11_fewest_46 {d : Nat} {S0 : MS} {Q : Out → MS → Prop} : ∀ (n : Nat) (x0 : Nat) (x2 : Int) (x3 : Int) (S : MS), VX11_fewest_46 d Q n x0 x2 x3 S → Jw FinM RX11 cX11_fewest 5 (some .int) [] yX11_fewest (d + 1) S0 S 46 [(0, vA x0), (2, vI x2), (3, vI x3)] [] Q := by
  intro n
  induction n with
  | zero => intro x0 x2 x3 S h; exact h.elim
  | succ n ih =>
    intro x0 x2 x3 S h
    exact j_iload_n 2 dX11_fewest_46 rfl (j_bipush dX11_fewest_47 rfl (j_icmp_ge (tgt := 84) dX11_fewest_49 (by decide) h (fun h => j_iconst dX11_fewest_84 (j_iret rfl dX11_fewest_85 h)) (fun h => j_aload_n 0 dX11_fewest_52 rfl (j_iload_n 1 dX11_fewest_53 rfl (j_iload_n 2 dX11_fewest_54 rfl (j_callV (rest := []) 11 [vI x2, vI x3] k_RX11_356 ⟨w_9_3, p_6_15⟩ ⟨_, _, rfl⟩ (by decide) rfl rfl (Nat.le_of_ble_eq_true rfl) dX11_fewest_55 h (kI (fun r1 S1 h => j_istore (lv2 := [(4, vI r1), (0, vA x0), (2, vI x2), (3, vI x3)]) dX11_fewest_58 (by decide) rfl (j_iload 0 dX11_fewest_60 rfl (j_bipush dX11_fewest_62 rfl (j_icmp_ne (tgt := 70) dX11_fewest_64 (by decide) h (fun h => j_iload 0 dX11_fewest_70 rfl (j_iconst dX11_fewest_72 (j_icmp_ne (tgt := 78) dX11_fewest_73 (by decide) h (fun h => j_iinc 3 (lv2 := [(3, vI (x3 + 1)), (4, vI r1), (0, vA x0), (2, vI x2)]) dX11_fewest_78 rfl (by decide) rfl (j_goto (tgt := 46) dX11_fewest_81 (by decide) (j_sub [2, 3, 0] rfl (ih _ _ _ _ h)))) (fun h => j_iload_n 3 dX11_fewest_76 rfl (j_iret rfl dX11_fewest_77 h))))) (fun h => j_bipush dX11_fewest_67 rfl (j_iret rfl dX11_fewest_69 h))))))) (fun _ _ h => h.elim)))))))
def VX11_fewest_0 (d : Nat) (Q : Out → MS → Prop) (x0 : Nat) (x1 : Int) (S : MS) : Prop :=
  S.K x0 = 11 ∧ ((S.setI x0 0 0).K x0 = 11 ∧ Mw hX11_noScale yX11_noScale d [vA x0, vI x1] (S.setI x0 0 0) (oI (fun r1 S1 => S1.K x0 = 11 ∧ Mw hX11_throwsIf yX11_throwsIf d [vA x0, vI r1, vI 1] S1 (oI (fun r2 S2 => R32 r2 ∧ ((r2 = 0) → S2.K x0 = 11 ∧ Mw hX11_ofScale yX11_ofScale d [vA x0, vI x1, vI 0] S2 (oI (fun r3 S3 => S3.K x0 = 11 ∧ Mw hX11_leaves yX11_leaves d [vA x0] S3 (oV (fun S4 => Mw hX11_pansOf yX11_pansOf d [vI r3] S4 (oI (fun r5 S5 => S5.K x0 = 11 ∧ Mw hX11_listsSets yX11_listsSets d [vA x0, vI r5] S5 (oV (fun S6 => S6.K x0 = 11 ∧ (∃ m, VX11_fewest_46 d Q m x0 r3 0 (S6.setI x0 30 0))))))))))) ∧ (¬ (r2 = 0) → Q (.inl (some (vI 0))) S2))))))
theorem JX11_fewest_0 {d : Nat} {S0 : MS} {Q : Out → MS → Prop} (x0 : Nat) (x1 : Int) (S : MS) (h : VX11_fewest_0 d Q x0 x1 S) : Jw FinM RX11 cX11_fewest 5 (some .int) [] yX11_fewest (d + 1) S0 S 0 [(0, vA x0), (1, vI x1)] [] Q :=
  j_aload_n 0 dX11_fewest_0 rfl (j_iconst dX11_fewest_1 (j_putI 11 0 f_RX11_3 dX11_fewest_2 h (fun h => j_aload_n 0 dX11_fewest_5 rfl (j_aload_n 0 dX11_fewest_6 rfl (j_iload_n 1 dX11_fewest_7 rfl (j_callV (rest := [vA x0]) 11 [vI x1] k_RX11_203 ⟨w_7_226, p_4_11⟩ ⟨_, _, rfl⟩ (by decide) rfl rfl (Nat.le_of_ble_eq_true rfl) dX11_fewest_8 h (kI (fun r1 S1 h => j_iconst dX11_fewest_11 (j_callV (rest := []) 11 [vI r1, vI 1] k_RX11_190 ⟨w_7_191, p_4_7⟩ ⟨_, _, rfl⟩ (by decide) rfl rfl (Nat.le_of_ble_eq_true rfl) dX11_fewest_12 h (kI (fun r2 S2 h => j_if_eq (tgt := 20) dX11_fewest_15 (by decide) h (fun h => j_aload_n 0 dX11_fewest_20 rfl (j_iload_n 1 dX11_fewest_21 rfl (j_iconst dX11_fewest_22 (j_callV (rest := []) 11 [vI x1, vI 0] k_RX11_94 ⟨w_7_239, p_4_14⟩ ⟨_, _, rfl⟩ (by decide) rfl rfl (Nat.le_of_ble_eq_true rfl) dX11_fewest_23 h (kI (fun r3 S3 h => j_istore_n (lv2 := [(2, vI r3), (0, vA x0), (1, vI x1)]) dX11_fewest_26 (by decide) rfl (j_aload_n 1 dX11_fewest_27 rfl (j_callV (rest := []) 11 [] k_RX11_253 ⟨w_8_42, p_5_4⟩ ⟨_, _, rfl⟩ (by decide) rfl rfl (Nat.le_of_ble_eq_true rfl) dX11_fewest_28 h (kV (fun S4 h => j_aload_n 1 dX11_fewest_31 rfl (j_iload_n 0 dX11_fewest_32 rfl (j_callS (rest := [vA x0]) [vI r3] k_RX11_98 w_7_181 rfl rfl (Nat.le_of_ble_eq_true rfl) dX11_fewest_33 h (kI (fun r5 S5 h => j_callV (rest := []) 11 [vI r5] k_RX11_274 ⟨w_8_130, p_6_2⟩ ⟨_, _, rfl⟩ (by decide) rfl rfl (Nat.le_of_ble_eq_true rfl) dX11_fewest_36 h (kV (fun S6 h => j_aload_n 1 dX11_fewest_39 rfl (j_iconst dX11_fewest_40 (j_putI 11 30 f_RX11_346 dX11_fewest_41 h (fun h => j_iconst dX11_fewest_44 (j_istore_n (lv2 := [(3, vI 0), (2, vI r3), (0, vA x0), (1, vI x1)]) dX11_fewest_45 (by decide) rfl (Exists.elim h (fun m h => j_sub [2, 1, 0] rfl (JX11_fewest_46 m _ _ _ _ h))))))))) (fun _ _ h => h.elim))) (fun _ _ h => h.elim))))) (fun _ _ h => h.elim))))) (fun _ _ h => h.elim))))) (fun h => j_iconst dX11_fewest_18 (j_iret rfl dX11_fewest_19 h)))) (fun _ _ h => h.elim)))) (fun _ _ h => h.elim)))))))
theorem MX11_fewest {d : Nat} {x0 : Nat} {x1 : Int} {S : MS} {Q : Out → MS → Prop} (h : VX11_fewest_0 d Q x0 x1 S) : Mw hX11_fewest yX11_fewest (d + 1) [vA x0, vI x1] S Q := Mw.ofJ (by decide) (Nat.le_of_ble_eq_true rfl) (JX11_fewest_0 _ _ S h)
theorem dX11_bound_0 : decode cX11_bound 0 = .ok (.aload_n 0, 1) := by decide +kernel
theorem dX11_bound_1 : decode cX11_bound 1 = .ok (.iconst 0, 1) := by decide +kernel
theorem dX11_bound_2 : decode cX11_bound 2 = .ok (.putfield 3, 3) := by decide +kernel
theorem dX11_bound_5 : decode cX11_bound 5 = .ok (.aload_n 0, 1) := by decide +kernel
theorem dX11_bound_6 : decode cX11_bound 6 = .ok (.aload_n 0, 1) := by decide +kernel
theorem dX11_bound_7 : decode cX11_bound 7 = .ok (.iload_n 1, 1) := by decide +kernel
theorem dX11_bound_8 : decode cX11_bound 8 = .ok (.invokevirtual 203, 3) := by decide +kernel
theorem dX11_bound_11 : decode cX11_bound 11 = .ok (.iconst 1, 1) := by decide +kernel
theorem dX11_bound_12 : decode cX11_bound 12 = .ok (.invokevirtual 190, 3) := by decide +kernel
theorem dX11_bound_15 : decode cX11_bound 15 = .ok (.ifCond .eq 5, 3) := by decide +kernel
theorem dX11_bound_18 : decode cX11_bound 18 = .ok (.iconst 0, 1) := by decide +kernel
theorem dX11_bound_19 : decode cX11_bound 19 = .ok (.ireturn, 1) := by decide +kernel
theorem dX11_bound_20 : decode cX11_bound 20 = .ok (.aload_n 0, 1) := by decide +kernel
theorem dX11_bound_21 : decode cX11_bound 21 = .ok (.invokevirtual 253, 3) := by decide +kernel
theorem dX11_bound_24 : decode cX11_bound 24 = .ok (.aload_n 0, 1) := by decide +kernel
theorem dX11_bound_25 : decode cX11_bound 25 = .ok (.getfield 45, 3) := by decide +kernel
theorem dX11_bound_28 : decode cX11_bound 28 = .ok (.iconst 0, 1) := by decide +kernel
theorem dX11_bound_29 : decode cX11_bound 29 = .ok (.iaload, 1) := by decide +kernel
theorem dX11_bound_30 : decode cX11_bound 30 = .ok (.ifCond .eq 11, 3) := by decide +kernel
theorem dX11_bound_33 : decode cX11_bound 33 = .ok (.aload_n 0, 1) := by decide +kernel
theorem dX11_bound_34 : decode cX11_bound 34 = .ok (.iconst 0, 1) := by decide +kernel
theorem dX11_bound_35 : decode cX11_bound 35 = .ok (.invokevirtual 286, 3) := by decide +kernel
theorem dX11_bound_38 : decode cX11_bound 38 = .ok (.ifCond .eq 5, 3) := by decide +kernel
theorem dX11_bound_41 : decode cX11_bound 41 = .ok (.iconst 0, 1) := by decide +kernel
theorem dX11_bound_42 : decode cX11_bound 42 = .ok (.ireturn, 1) := by decide +kernel
theorem dX11_bound_43 : decode cX11_bound 43 = .ok (.iconst 0, 1) := by decide +kernel
theorem dX11_bound_44 : decode cX11_bound 44 = .ok (.istore_n 2, 1) := by decide +kernel
theorem dX11_bound_45 : decode cX11_bound 45 = .ok (.aload_n 0, 1) := by decide +kernel
theorem dX11_bound_46 : decode cX11_bound 46 = .ok (.getfield 45, 3) := by decide +kernel
theorem dX11_bound_49 : decode cX11_bound 49 = .ok (.iconst 0, 1) := by decide +kernel
theorem dX11_bound_50 : decode cX11_bound 50 = .ok (.iaload, 1) := by decide +kernel
theorem dX11_bound_51 : decode cX11_bound 51 = .ok (.aload_n 0, 1) := by decide +kernel
theorem dX11_bound_52 : decode cX11_bound 52 = .ok (.iload_n 1, 1) := by decide +kernel
theorem dX11_bound_53 : decode cX11_bound 53 = .ok (.invokevirtual 107, 3) := by decide +kernel
theorem dX11_bound_56 : decode cX11_bound 56 = .ok (.iload_n 2, 1) := by decide +kernel
theorem dX11_bound_57 : decode cX11_bound 57 = .ok (.invokestatic 337, 3) := by decide +kernel
theorem dX11_bound_60 : decode cX11_bound 60 = .ok (.if_icmp .le 9, 3) := by decide +kernel
theorem dX11_bound_63 : decode cX11_bound 63 = .ok (.iinc 2 1, 3) := by decide +kernel
theorem dX11_bound_66 : decode cX11_bound 66 = .ok (.goto (-21), 3) := by decide +kernel
theorem dX11_bound_69 : decode cX11_bound 69 = .ok (.iload_n 2, 1) := by decide +kernel
theorem dX11_bound_70 : decode cX11_bound 70 = .ok (.ireturn, 1) := by decide +kernel
def VX11_bound_45 (d : Nat) (Q : Out → MS → Prop) : Nat → Nat → Int → Int → MS → Prop
  | 0, _, _, _, _ => False
  | n + 1, x0, x1, x2, S => S.K x0 = 11 ∧ ∃ b1, S.R x0 17 = some b1 ∧ ((S.K b1 = 13 ∧ 0 ≤ (0 : Int) ∧ (0 : Int) < S.N b1) ∧ (S.K x0 = 11 ∧ Mw hX11_pans yX11_pans d [vA x0, vI x1] S (oI (fun r2 S2 => Mw hX11_boundFor yX11_boundFor d [vI r2, vI x2] S2 (oI (fun r3 S3 => (R32 (S.I b1 ((0 : Int)).toNat) ∧ R32 r3) ∧ (((S.I b1 ((0 : Int)).toNat) ≤ r3) → Q (.inl (some (vI x2))) S3) ∧ (¬ ((S.I b1 ((0 : Int)).toNat) ≤ r3) → (VX11_bound_45 d Q n) x0 x1 (x2 + 1) S3)))))))
theorem JX11_bound_45 {d : Nat} {S0 : MS} {Q : Out → MS → Prop} : ∀ (n : Nat) (x0 : Nat) (x1 : Int) (x2 : Int) (S : MS), VX11_bound_45 d Q n x0 x1 x2 S → Jw FinM RX11 cX11_bound 3 (some .int) [] yX11_bound (d + 1) S0 S 45 [(0, vA x0), (1, vI x1), (2, vI x2)] [] Q := by
  intro n
  induction n with
  | zero => intro x0 x1 x2 S h; exact h.elim
  | succ n ih =>
    intro x0 x1 x2 S h
    exact j_aload_n 0 dX11_bound_45 rfl (j_getR 11 17 f_RX11_45 dX11_bound_46 h (fun b1 h => j_iconst dX11_bound_49 (j_iald dX11_bound_50 h (fun h => j_aload_n 0 dX11_bound_51 rfl (j_iload_n 1 dX11_bound_52 rfl (j_callV (rest := [vI (S.I b1 ((0 : Int)).toNat)]) 11 [vI x1] k_RX11_107 ⟨w_7_235, p_4_13⟩ ⟨_, _, rfl⟩ (by decide) rfl rfl (Nat.le_of_ble_eq_true rfl) dX11_bound_53 h (kI (fun r2 S2 h => j_iload_n 2 dX11_bound_56 rfl (j_callS (rest := [vI (S.I b1 ((0 : Int)).toNat)]) [vI r2, vI x2] k_RX11_337 w_9_10 rfl rfl (Nat.le_of_ble_eq_true rfl) dX11_bound_57 h (kI (fun r3 S3 h => j_icmp_le (tgt := 69) dX11_bound_60 (by decide) h (fun h => j_iload_n 2 dX11_bound_69 rfl (j_iret rfl dX11_bound_70 h)) (fun h => j_iinc 2 (lv2 := [(2, vI (x2 + 1)), (0, vA x0), (1, vI x1)]) dX11_bound_63 rfl (by decide) rfl (j_goto (tgt := 45) dX11_bound_66 (by decide) (j_sub [1, 2, 0] rfl (ih _ _ _ _ h)))))) (fun _ _ h => h.elim)))) (fun _ _ h => h.elim)))))))
def VX11_bound_0 (d : Nat) (Q : Out → MS → Prop) (x0 : Nat) (x1 : Int) (S : MS) : Prop :=
  S.K x0 = 11 ∧ ((S.setI x0 0 0).K x0 = 11 ∧ Mw hX11_noScale yX11_noScale d [vA x0, vI x1] (S.setI x0 0 0) (oI (fun r1 S1 => S1.K x0 = 11 ∧ Mw hX11_throwsIf yX11_throwsIf d [vA x0, vI r1, vI 1] S1 (oI (fun r2 S2 => R32 r2 ∧ ((r2 = 0) → S2.K x0 = 11 ∧ Mw hX11_leaves yX11_leaves d [vA x0] S2 (oV (fun S3 => S3.K x0 = 11 ∧ ∃ b4, S3.R x0 17 = some b4 ∧ ((S3.K b4 = 13 ∧ 0 ≤ (0 : Int) ∧ (0 : Int) < S3.N b4) ∧ (R32 (S3.I b4 ((0 : Int)).toNat) ∧ (((S3.I b4 ((0 : Int)).toNat) = 0) → Q (.inl (some (vI 0))) S3) ∧ (¬ ((S3.I b4 ((0 : Int)).toNat) = 0) → S3.K x0 = 11 ∧ Mw hX11_isKnown yX11_isKnown d [vA x0, vI 0] S3 (oI (fun r5 S5 => R32 r5 ∧ ((r5 = 0) → ∃ m, VX11_bound_45 d Q m x0 x1 0 S5) ∧ (¬ (r5 = 0) → Q (.inl (some (vI 0))) S5))))))))) ∧ (¬ (r2 = 0) → Q (.inl (some (vI 0))) S2))))))
theorem JX11_bound_0 {d : Nat} {S0 : MS} {Q : Out → MS → Prop} (x0 : Nat) (x1 : Int) (S : MS) (h : VX11_bound_0 d Q x0 x1 S) : Jw FinM RX11 cX11_bound 3 (some .int) [] yX11_bound (d + 1) S0 S 0 [(0, vA x0), (1, vI x1)] [] Q :=
  j_aload_n 0 dX11_bound_0 rfl (j_iconst dX11_bound_1 (j_putI 11 0 f_RX11_3 dX11_bound_2 h (fun h => j_aload_n 0 dX11_bound_5 rfl (j_aload_n 0 dX11_bound_6 rfl (j_iload_n 1 dX11_bound_7 rfl (j_callV (rest := [vA x0]) 11 [vI x1] k_RX11_203 ⟨w_7_226, p_4_11⟩ ⟨_, _, rfl⟩ (by decide) rfl rfl (Nat.le_of_ble_eq_true rfl) dX11_bound_8 h (kI (fun r1 S1 h => j_iconst dX11_bound_11 (j_callV (rest := []) 11 [vI r1, vI 1] k_RX11_190 ⟨w_7_191, p_4_7⟩ ⟨_, _, rfl⟩ (by decide) rfl rfl (Nat.le_of_ble_eq_true rfl) dX11_bound_12 h (kI (fun r2 S2 h => j_if_eq (tgt := 20) dX11_bound_15 (by decide) h (fun h => j_aload_n 0 dX11_bound_20 rfl (j_callV (rest := []) 11 [] k_RX11_253 ⟨w_8_42, p_5_4⟩ ⟨_, _, rfl⟩ (by decide) rfl rfl (Nat.le_of_ble_eq_true rfl) dX11_bound_21 h (kV (fun S3 h => j_aload_n 0 dX11_bound_24 rfl (j_getR 11 17 f_RX11_45 dX11_bound_25 h (fun b4 h => j_iconst dX11_bound_28 (j_iald dX11_bound_29 h (fun h => j_if_eq (tgt := 41) dX11_bound_30 (by decide) h (fun h => j_iconst dX11_bound_41 (j_iret rfl dX11_bound_42 h)) (fun h => j_aload_n 0 dX11_bound_33 rfl (j_iconst dX11_bound_34 (j_callV (rest := []) 11 [vI 0] k_RX11_286 ⟨w_8_162, p_6_7⟩ ⟨_, _, rfl⟩ (by decide) rfl rfl (Nat.le_of_ble_eq_true rfl) dX11_bound_35 h (kI (fun r5 S5 h => j_if_eq (tgt := 43) dX11_bound_38 (by decide) h (fun h => j_iconst dX11_bound_43 (j_istore_n (lv2 := [(2, vI 0), (0, vA x0), (1, vI x1)]) dX11_bound_44 (by decide) rfl (Exists.elim h (fun m h => j_sub [1, 2, 0] rfl (JX11_bound_45 m _ _ _ _ h))))) (fun h => j_iconst dX11_bound_41 (j_iret rfl dX11_bound_42 h)))) (fun _ _ h => h.elim)))))))))) (fun _ _ h => h.elim))) (fun h => j_iconst dX11_bound_18 (j_iret rfl dX11_bound_19 h)))) (fun _ _ h => h.elim)))) (fun _ _ h => h.elim)))))))
theorem MX11_bound {d : Nat} {x0 : Nat} {x1 : Int} {S : MS} {Q : Out → MS → Prop} (h : VX11_bound_0 d Q x0 x1 S) : Mw hX11_bound yX11_bound (d + 1) [vA x0, vI x1] S Q := Mw.ofJ (by decide) (Nat.le_of_ble_eq_true rfl) (JX11_bound_0 _ _ S h)
theorem dX11_laidFor_0 : decode cX11_laidFor 0 = .ok (.aload_n 0, 1) := by decide +kernel
theorem dX11_laidFor_1 : decode cX11_laidFor 1 = .ok (.getfield 45, 3) := by decide +kernel
theorem dX11_laidFor_4 : decode cX11_laidFor 4 = .ok (.iload_n 1, 1) := by decide +kernel
theorem dX11_laidFor_5 : decode cX11_laidFor 5 = .ok (.iaload, 1) := by decide +kernel
theorem dX11_laidFor_6 : decode cX11_laidFor 6 = .ok (.ifCond .eq 11, 3) := by decide +kernel
theorem dX11_laidFor_9 : decode cX11_laidFor 9 = .ok (.aload_n 0, 1) := by decide +kernel
theorem dX11_laidFor_10 : decode cX11_laidFor 10 = .ok (.iload_n 1, 1) := by decide +kernel
theorem dX11_laidFor_11 : decode cX11_laidFor 11 = .ok (.invokevirtual 286, 3) := by decide +kernel
theorem dX11_laidFor_14 : decode cX11_laidFor 14 = .ok (.ifCond .eq 5, 3) := by decide +kernel
theorem dX11_laidFor_17 : decode cX11_laidFor 17 = .ok (.iconst (-1), 1) := by decide +kernel
theorem dX11_laidFor_18 : decode cX11_laidFor 18 = .ok (.ireturn, 1) := by decide +kernel
theorem dX11_laidFor_19 : decode cX11_laidFor 19 = .ok (.aload_n 0, 1) := by decide +kernel
theorem dX11_laidFor_20 : decode cX11_laidFor 20 = .ok (.iload_n 1, 1) := by decide +kernel
theorem dX11_laidFor_21 : decode cX11_laidFor 21 = .ok (.iload_n 2, 1) := by decide +kernel
theorem dX11_laidFor_22 : decode cX11_laidFor 22 = .ok (.invokevirtual 328, 3) := by decide +kernel
theorem dX11_laidFor_25 : decode cX11_laidFor 25 = .ok (.istore_n 3, 1) := by decide +kernel
theorem dX11_laidFor_26 : decode cX11_laidFor 26 = .ok (.iload_n 3, 1) := by decide +kernel
theorem dX11_laidFor_27 : decode cX11_laidFor 27 = .ok (.ifCond .lt 16, 3) := by decide +kernel
theorem dX11_laidFor_30 : decode cX11_laidFor 30 = .ok (.aload_n 0, 1) := by decide +kernel
theorem dX11_laidFor_31 : decode cX11_laidFor 31 = .ok (.getfield 325, 3) := by decide +kernel
theorem dX11_laidFor_34 : decode cX11_laidFor 34 = .ok (.aload_n 0, 1) := by decide +kernel
theorem dX11_laidFor_35 : decode cX11_laidFor 35 = .ok (.getfield 45, 3) := by decide +kernel
theorem dX11_laidFor_38 : decode cX11_laidFor 38 = .ok (.iload_n 1, 1) := by decide +kernel
theorem dX11_laidFor_39 : decode cX11_laidFor 39 = .ok (.iaload, 1) := by decide +kernel
theorem dX11_laidFor_40 : decode cX11_laidFor 40 = .ok (.if_icmp .ne 7, 3) := by decide +kernel
theorem dX11_laidFor_43 : decode cX11_laidFor 43 = .ok (.iconst (-1), 1) := by decide +kernel
theorem dX11_laidFor_44 : decode cX11_laidFor 44 = .ok (.goto 4, 3) := by decide +kernel
theorem dX11_laidFor_47 : decode cX11_laidFor 47 = .ok (.iload_n 3, 1) := by decide +kernel
theorem dX11_laidFor_48 : decode cX11_laidFor 48 = .ok (.ireturn, 1) := by decide +kernel
def VX11_laidFor_43 (d : Nat) (Q : Out → MS → Prop) (S : MS) : Prop :=
  Q (.inl (some (vI ((-1))))) S
theorem JX11_laidFor_43 {d : Nat} {S0 : MS} {Q : Out → MS → Prop} (S : MS) (h : VX11_laidFor_43 d Q S) : Jw FinM RX11 cX11_laidFor 4 (some .int) [] yX11_laidFor (d + 1) S0 S 43 [] [] Q :=
  j_iconst dX11_laidFor_43 (j_goto (tgt := 48) dX11_laidFor_44 (by decide) (j_iret rfl dX11_laidFor_48 h))
def VX11_laidFor_0 (d : Nat) (Q : Out → MS → Prop) (x0 : Nat) (x1 : Int) (x2 : Int) (S : MS) : Prop :=
  S.K x0 = 11 ∧ ∃ b1, S.R x0 17 = some b1 ∧ ((S.K b1 = 13 ∧ 0 ≤ x1 ∧ x1 < S.N b1) ∧ (R32 (S.I b1 (x1).toNat) ∧ (((S.I b1 (x1).toNat) = 0) → Q (.inl (some (vI ((-1))))) S) ∧ (¬ ((S.I b1 (x1).toNat) = 0) → S.K x0 = 11 ∧ Mw hX11_isKnown yX11_isKnown d [vA x0, vI x1] S (oI (fun r2 S2 => R32 r2 ∧ ((r2 = 0) → S2.K x0 = 11 ∧ Mw hX11_nextOf yX11_nextOf d [vA x0, vI x1, vI x2] S2 (oI (fun r3 S3 => R32 r3 ∧ ((r3 < 0) → VX11_laidFor_43 d Q S3) ∧ (¬ (r3 < 0) → S3.K x0 = 11 ∧ (S3.K x0 = 11 ∧ ∃ b4, S3.R x0 17 = some b4 ∧ ((S3.K b4 = 13 ∧ 0 ≤ x1 ∧ x1 < S3.N b4) ∧ ((R32 (S3.I x0 27) ∧ R32 (S3.I b4 (x1).toNat)) ∧ (¬ ((S3.I x0 27) = (S3.I b4 (x1).toNat)) → Q (.inl (some (vI r3))) S3) ∧ (((S3.I x0 27) = (S3.I b4 (x1).toNat)) → VX11_laidFor_43 d Q S3)))))))) ∧ (¬ (r2 = 0) → Q (.inl (some (vI ((-1))))) S2))))))
theorem JX11_laidFor_0 {d : Nat} {S0 : MS} {Q : Out → MS → Prop} (x0 : Nat) (x1 : Int) (x2 : Int) (S : MS) (h : VX11_laidFor_0 d Q x0 x1 x2 S) : Jw FinM RX11 cX11_laidFor 4 (some .int) [] yX11_laidFor (d + 1) S0 S 0 [(0, vA x0), (1, vI x1), (2, vI x2)] [] Q :=
  j_aload_n 0 dX11_laidFor_0 rfl (j_getR 11 17 f_RX11_45 dX11_laidFor_1 h (fun b1 h => j_iload_n 1 dX11_laidFor_4 rfl (j_iald dX11_laidFor_5 h (fun h => j_if_eq (tgt := 17) dX11_laidFor_6 (by decide) h (fun h => j_iconst dX11_laidFor_17 (j_iret rfl dX11_laidFor_18 h)) (fun h => j_aload_n 0 dX11_laidFor_9 rfl (j_iload_n 1 dX11_laidFor_10 rfl (j_callV (rest := []) 11 [vI x1] k_RX11_286 ⟨w_8_162, p_6_7⟩ ⟨_, _, rfl⟩ (by decide) rfl rfl (Nat.le_of_ble_eq_true rfl) dX11_laidFor_11 h (kI (fun r2 S2 h => j_if_eq (tgt := 19) dX11_laidFor_14 (by decide) h (fun h => j_aload_n 0 dX11_laidFor_19 rfl (j_iload_n 1 dX11_laidFor_20 rfl (j_iload_n 2 dX11_laidFor_21 rfl (j_callV (rest := []) 11 [vI x1, vI x2] k_RX11_328 ⟨w_8_235, p_6_14⟩ ⟨_, _, rfl⟩ (by decide) rfl rfl (Nat.le_of_ble_eq_true rfl) dX11_laidFor_22 h (kI (fun r3 S3 h => j_istore_n (lv2 := [(3, vI r3), (0, vA x0), (1, vI x1), (2, vI x2)]) dX11_laidFor_25 (by decide) rfl (j_iload_n 0 dX11_laidFor_26 rfl (j_if_lt (tgt := 43) dX11_laidFor_27 (by decide) h (fun h => j_sub [] rfl (JX11_laidFor_43 _ h)) (fun h => j_aload_n 1 dX11_laidFor_30 rfl (j_getI 11 27 f_RX11_325 dX11_laidFor_31 h (fun h => j_aload_n 1 dX11_laidFor_34 rfl (j_getR 11 17 f_RX11_45 dX11_laidFor_35 h (fun b4 h => j_iload_n 2 dX11_laidFor_38 rfl (j_iald dX11_laidFor_39 h (fun h => j_icmp_ne (tgt := 47) dX11_laidFor_40 (by decide) h (fun h => j_iload_n 0 dX11_laidFor_47 rfl (j_iret rfl dX11_laidFor_48 h)) (fun h => j_sub [] rfl (JX11_laidFor_43 _ h))))))))))))) (fun _ _ h => h.elim))))) (fun h => j_iconst dX11_laidFor_17 (j_iret rfl dX11_laidFor_18 h)))) (fun _ _ h => h.elim))))))))
theorem MX11_laidFor {d : Nat} {x0 : Nat} {x1 : Int} {x2 : Int} {S : MS} {Q : Out → MS → Prop} (h : VX11_laidFor_0 d Q x0 x1 x2 S) : Mw hX11_laidFor yX11_laidFor (d + 1) [vA x0, vI x1, vI x2] S Q := Mw.ofJ (by decide) (Nat.le_of_ble_eq_true rfl) (JX11_laidFor_0 _ _ _ S h)
theorem dX11_arrives_0 : decode cX11_arrives 0 = .ok (.iload_n 3, 1) := by decide +kernel
theorem dX11_arrives_1 : decode cX11_arrives 1 = .ok (.ifCond .lt 16, 3) := by decide +kernel
theorem dX11_arrives_4 : decode cX11_arrives 4 = .ok (.aload_n 0, 1) := by decide +kernel
theorem dX11_arrives_5 : decode cX11_arrives 5 = .ok (.iload_n 1, 1) := by decide +kernel
theorem dX11_arrives_6 : decode cX11_arrives 6 = .ok (.iload_n 3, 1) := by decide +kernel
theorem dX11_arrives_7 : decode cX11_arrives 7 = .ok (.invokevirtual 359, 3) := by decide +kernel
theorem dX11_arrives_10 : decode cX11_arrives 10 = .ok (.ifCond .eq 7, 3) := by decide +kernel
theorem dX11_arrives_13 : decode cX11_arrives 13 = .ok (.iconst 1, 1) := by decide +kernel
theorem dX11_arrives_14 : decode cX11_arrives 14 = .ok (.goto 4, 3) := by decide +kernel
theorem dX11_arrives_17 : decode cX11_arrives 17 = .ok (.iconst 0, 1) := by decide +kernel
theorem dX11_arrives_18 : decode cX11_arrives 18 = .ok (.istore 4, 2) := by decide +kernel
theorem dX11_arrives_20 : decode cX11_arrives 20 = .ok (.aload_n 0, 1) := by decide +kernel
theorem dX11_arrives_21 : decode cX11_arrives 21 = .ok (.getfield 70, 3) := by decide +kernel
theorem dX11_arrives_24 : decode cX11_arrives 24 = .ok (.iload_n 1, 1) := by decide +kernel
theorem dX11_arrives_25 : decode cX11_arrives 25 = .ok (.iload 4, 2) := by decide +kernel
theorem dX11_arrives_27 : decode cX11_arrives 27 = .ok (.ifCond .eq 7, 3) := by decide +kernel
theorem dX11_arrives_30 : decode cX11_arrives 30 = .ok (.iconst (-1), 1) := by decide +kernel
theorem dX11_arrives_31 : decode cX11_arrives 31 = .ok (.goto 9, 3) := by decide +kernel
theorem dX11_arrives_34 : decode cX11_arrives 34 = .ok (.aload_n 0, 1) := by decide +kernel
theorem dX11_arrives_35 : decode cX11_arrives 35 = .ok (.iload_n 1, 1) := by decide +kernel
theorem dX11_arrives_36 : decode cX11_arrives 36 = .ok (.iload_n 2, 1) := by decide +kernel
theorem dX11_arrives_37 : decode cX11_arrives 37 = .ok (.invokevirtual 362, 3) := by decide +kernel
theorem dX11_arrives_40 : decode cX11_arrives 40 = .ok (.iastore, 1) := by decide +kernel
theorem dX11_arrives_41 : decode cX11_arrives 41 = .ok (.aload_n 0, 1) := by decide +kernel
theorem dX11_arrives_42 : decode cX11_arrives 42 = .ok (.getfield 73, 3) := by decide +kernel
theorem dX11_arrives_45 : decode cX11_arrives 45 = .ok (.iload_n 1, 1) := by decide +kernel
theorem dX11_arrives_46 : decode cX11_arrives 46 = .ok (.iconst 0, 1) := by decide +kernel
theorem dX11_arrives_47 : decode cX11_arrives 47 = .ok (.iastore, 1) := by decide +kernel
theorem dX11_arrives_48 : decode cX11_arrives 48 = .ok (.aload_n 0, 1) := by decide +kernel
theorem dX11_arrives_49 : decode cX11_arrives 49 = .ok (.aload_n 0, 1) := by decide +kernel
theorem dX11_arrives_50 : decode cX11_arrives 50 = .ok (.getfield 365, 3) := by decide +kernel
theorem dX11_arrives_53 : decode cX11_arrives 53 = .ok (.iload_n 1, 1) := by decide +kernel
theorem dX11_arrives_54 : decode cX11_arrives 54 = .ok (.invokestatic 316, 3) := by decide +kernel
theorem dX11_arrives_57 : decode cX11_arrives 57 = .ok (.putfield 365, 3) := by decide +kernel
theorem dX11_arrives_60 : decode cX11_arrives 60 = .ok (.aload_n 0, 1) := by decide +kernel
theorem dX11_arrives_61 : decode cX11_arrives 61 = .ok (.getfield 70, 3) := by decide +kernel
theorem dX11_arrives_64 : decode cX11_arrives 64 = .ok (.iload_n 1, 1) := by decide +kernel
theorem dX11_arrives_65 : decode cX11_arrives 65 = .ok (.iaload, 1) := by decide +kernel
theorem dX11_arrives_66 : decode cX11_arrives 66 = .ok (.ifCond .lt 21, 3) := by decide +kernel
theorem dX11_arrives_69 : decode cX11_arrives 69 = .ok (.aload_n 0, 1) := by decide +kernel
theorem dX11_arrives_70 : decode cX11_arrives 70 = .ok (.dup, 1) := by decide +kernel
theorem dX11_arrives_71 : decode cX11_arrives 71 = .ok (.getfield 368, 3) := by decide +kernel
theorem dX11_arrives_74 : decode cX11_arrives 74 = .ok (.aload_n 0, 1) := by decide +kernel
theorem dX11_arrives_75 : decode cX11_arrives 75 = .ok (.getfield 45, 3) := by decide +kernel
theorem dX11_arrives_78 : decode cX11_arrives 78 = .ok (.iload_n 1, 1) := by decide +kernel
theorem dX11_arrives_79 : decode cX11_arrives 79 = .ok (.iaload, 1) := by decide +kernel
theorem dX11_arrives_80 : decode cX11_arrives 80 = .ok (.iadd, 1) := by decide +kernel
theorem dX11_arrives_81 : decode cX11_arrives 81 = .ok (.putfield 368, 3) := by decide +kernel
theorem dX11_arrives_84 : decode cX11_arrives 84 = .ok (.goto 36, 3) := by decide +kernel
theorem dX11_arrives_87 : decode cX11_arrives 87 = .ok (.aload_n 0, 1) := by decide +kernel
theorem dX11_arrives_88 : decode cX11_arrives 88 = .ok (.aload_n 0, 1) := by decide +kernel
theorem dX11_arrives_89 : decode cX11_arrives 89 = .ok (.getfield 371, 3) := by decide +kernel
theorem dX11_arrives_92 : decode cX11_arrives 92 = .ok (.ifCond .eq 24, 3) := by decide +kernel
theorem dX11_arrives_95 : decode cX11_arrives 95 = .ok (.aload_n 0, 1) := by decide +kernel
theorem dX11_arrives_96 : decode cX11_arrives 96 = .ok (.getfield 45, 3) := by decide +kernel
theorem dX11_arrives_99 : decode cX11_arrives 99 = .ok (.iload_n 1, 1) := by decide +kernel
theorem dX11_arrives_100 : decode cX11_arrives 100 = .ok (.iaload, 1) := by decide +kernel
theorem dX11_arrives_101 : decode cX11_arrives 101 = .ok (.ifCond .eq 11, 3) := by decide +kernel
theorem dX11_arrives_104 : decode cX11_arrives 104 = .ok (.aload_n 0, 1) := by decide +kernel
theorem dX11_arrives_105 : decode cX11_arrives 105 = .ok (.iload_n 1, 1) := by decide +kernel
theorem dX11_arrives_106 : decode cX11_arrives 106 = .ok (.invokevirtual 286, 3) := by decide +kernel
theorem dX11_arrives_109 : decode cX11_arrives 109 = .ok (.ifCond .eq 7, 3) := by decide +kernel
theorem dX11_arrives_112 : decode cX11_arrives 112 = .ok (.iconst 1, 1) := by decide +kernel
theorem dX11_arrives_113 : decode cX11_arrives 113 = .ok (.goto 4, 3) := by decide +kernel
theorem dX11_arrives_116 : decode cX11_arrives 116 = .ok (.iconst 0, 1) := by decide +kernel
theorem dX11_arrives_117 : decode cX11_arrives 117 = .ok (.putfield 371, 3) := by decide +kernel
theorem dX11_arrives_120 : decode cX11_arrives 120 = .ok (.return_, 1) := by decide +kernel
def VX11_arrives_117 (d : Nat) (Q : Out → MS → Prop) (t0 : Int) (t1 : Nat) (S : MS) : Prop :=
  (S.K t1 = 11 ∧ B01 t0) ∧ (Q (.inl none) (S.setI t1 35 t0))
theorem JX11_arrives_117 {d : Nat} {S0 : MS} {Q : Out → MS → Prop} (t0 : Int) (t1 : Nat) (S : MS) (h : VX11_arrives_117 d Q t0 t1 S) : Jw FinM RX11 cX11_arrives 5 none [] yX11_arrives (d + 1) S0 S 117 [] [vI t0, vA t1] Q :=
  j_putZ 11 35 f_RX11_371 dX11_arrives_117 h (fun h => j_vret rfl dX11_arrives_120 h)
def VX11_arrives_112 (d : Nat) (Q : Out → MS → Prop) (t0 : Nat) (S : MS) : Prop :=
  VX11_arrives_117 d Q 1 t0 S
theorem JX11_arrives_112 {d : Nat} {S0 : MS} {Q : Out → MS → Prop} (t0 : Nat) (S : MS) (h : VX11_arrives_112 d Q t0 S) : Jw FinM RX11 cX11_arrives 5 none [] yX11_arrives (d + 1) S0 S 112 [] [vA t0] Q :=
  j_iconst dX11_arrives_112 (j_goto (tgt := 117) dX11_arrives_113 (by decide) (JX11_arrives_117 _ _ _ h))
def VX11_arrives_116 (d : Nat) (Q : Out → MS → Prop) (t0 : Nat) (S : MS) : Prop :=
  VX11_arrives_117 d Q 0 t0 S
theorem JX11_arrives_116 {d : Nat} {S0 : MS} {Q : Out → MS → Prop} (t0 : Nat) (S : MS) (h : VX11_arrives_116 d Q t0 S) : Jw FinM RX11 cX11_arrives 5 none [] yX11_arrives (d + 1) S0 S 116 [] [vA t0] Q :=
  j_iconst dX11_arrives_116 (JX11_arrives_117 _ _ _ h)
def VX11_arrives_40 (d : Nat) (Q : Out → MS → Prop) (x0 : Nat) (x1 : Int) (t0 : Int) (t1 : Int) (t2 : Nat) (S : MS) : Prop :=
  (S.K t2 = 13 ∧ 0 ≤ t1 ∧ t1 < S.N t2) ∧ ((S.setI t2 (t1).toNat t0).K x0 = 11 ∧ ∃ b1, (S.setI t2 (t1).toNat t0).R x0 32 = some b1 ∧ (((S.setI t2 (t1).toNat t0).K b1 = 13 ∧ 0 ≤ x1 ∧ x1 < (S.setI t2 (t1).toNat t0).N b1) ∧ (((S.setI t2 (t1).toNat t0).setI b1 (x1).toNat 0).K x0 = 11 ∧ ((R32 (((S.setI t2 (t1).toNat t0).setI b1 (x1).toNat 0).I x0 33) ∧ R32 x1) ∧ (((S.setI t2 (t1).toNat t0).setI b1 (x1).toNat 0).K x0 = 11 ∧ (∀ S2 : MS, S2 = ((S.setI t2 (t1).toNat t0).setI b1 (x1).toNat 0).setI x0 33 (max (((S.setI t2 (t1).toNat t0).setI b1 (x1).toNat 0).I x0 33) x1) → S2.K x0 = 11 ∧ ∃ b3, S2.R x0 31 = some b3 ∧ ((S2.K b3 = 13 ∧ 0 ≤ x1 ∧ x1 < S2.N b3) ∧ (R32 (S2.I b3 (x1).toNat) ∧ (((S2.I b3 (x1).toNat) < 0) → S2.K x0 = 11 ∧ (R32 (S2.I x0 35) ∧ (((S2.I x0 35) = 0) → VX11_arrives_116 d Q x0 S2) ∧ (¬ ((S2.I x0 35) = 0) → S2.K x0 = 11 ∧ ∃ b4, S2.R x0 17 = some b4 ∧ ((S2.K b4 = 13 ∧ 0 ≤ x1 ∧ x1 < S2.N b4) ∧ (R32 (S2.I b4 (x1).toNat) ∧ (((S2.I b4 (x1).toNat) = 0) → VX11_arrives_112 d Q x0 S2) ∧ (¬ ((S2.I b4 (x1).toNat) = 0) → S2.K x0 = 11 ∧ Mw hX11_isKnown yX11_isKnown d [vA x0, vI x1] S2 (oI (fun r5 S5 => R32 r5 ∧ ((r5 = 0) → VX11_arrives_116 d Q x0 S5) ∧ (¬ (r5 = 0) → VX11_arrives_112 d Q x0 S5))))))))) ∧ (¬ ((S2.I b3 (x1).toNat) < 0) → S2.K x0 = 11 ∧ (S2.K x0 = 11 ∧ ∃ b6, S2.R x0 17 = some b6 ∧ ((S2.K b6 = 13 ∧ 0 ≤ x1 ∧ x1 < S2.N b6) ∧ (S2.K x0 = 11 ∧ (Q (.inl none) (S2.setI x0 34 ((S2.I x0 34) + (S2.I b6 (x1).toNat))))))))))))))))
theorem JX11_arrives_40 {d : Nat} {S0 : MS} {Q : Out → MS → Prop} (x0 : Nat) (x1 : Int) (t0 : Int) (t1 : Int) (t2 : Nat) (S : MS) (h : VX11_arrives_40 d Q x0 x1 t0 t1 t2 S) : Jw FinM RX11 cX11_arrives 5 none [] yX11_arrives (d + 1) S0 S 40 [(0, vA x0), (1, vI x1)] [vI t0, vI t1, vA t2] Q :=
  j_iast dX11_arrives_40 h (fun h => j_aload_n 0 dX11_arrives_41 rfl (j_getR 11 32 f_RX11_73 dX11_arrives_42 h (fun b1 h => j_iload_n 1 dX11_arrives_45 rfl (j_iconst dX11_arrives_46 (j_iast dX11_arrives_47 h (fun h => j_aload_n 0 dX11_arrives_48 rfl (j_aload_n 0 dX11_arrives_49 rfl (j_getI 11 33 f_RX11_365 dX11_arrives_50 h (fun h => j_iload_n 1 dX11_arrives_53 rfl (j_mmax w_8_228 w_2_67 w_1_16 w_mmax (Nat.le_of_ble_eq_true rfl) dX11_arrives_54 h (fun h => j_putI 11 33 f_RX11_365 dX11_arrives_57 h (fun h => j_bind h (fun S2 h => j_aload_n 0 dX11_arrives_60 rfl (j_getR 11 31 f_RX11_70 dX11_arrives_61 h (fun b3 h => j_iload_n 1 dX11_arrives_64 rfl (j_iald dX11_arrives_65 h (fun h => j_if_lt (tgt := 87) dX11_arrives_66 (by decide) h (fun h => j_aload_n 0 dX11_arrives_87 rfl (j_aload_n 0 dX11_arrives_88 rfl (j_getI 11 35 f_RX11_371 dX11_arrives_89 h (fun h => j_if_eq (tgt := 116) dX11_arrives_92 (by decide) h (fun h => j_sub [] rfl (JX11_arrives_116 _ _ h)) (fun h => j_aload_n 0 dX11_arrives_95 rfl (j_getR 11 17 f_RX11_45 dX11_arrives_96 h (fun b4 h => j_iload_n 1 dX11_arrives_99 rfl (j_iald dX11_arrives_100 h (fun h => j_if_eq (tgt := 112) dX11_arrives_101 (by decide) h (fun h => j_sub [] rfl (JX11_arrives_112 _ _ h)) (fun h => j_aload_n 0 dX11_arrives_104 rfl (j_iload_n 1 dX11_arrives_105 rfl (j_callV (rest := [vA x0]) 11 [vI x1] k_RX11_286 ⟨w_8_162, p_6_7⟩ ⟨_, _, rfl⟩ (by decide) rfl rfl (Nat.le_of_ble_eq_true rfl) dX11_arrives_106 h (kI (fun r5 S5 h => j_if_eq (tgt := 116) dX11_arrives_109 (by decide) h (fun h => j_sub [] rfl (JX11_arrives_116 _ _ h)) (fun h => j_sub [] rfl (JX11_arrives_112 _ _ h)))) (fun _ _ h => h.elim))))))))))))) (fun h => j_aload_n 0 dX11_arrives_69 rfl (j_dup rfl dX11_arrives_70 (j_getI 11 34 f_RX11_368 dX11_arrives_71 h (fun h => j_aload_n 0 dX11_arrives_74 rfl (j_getR 11 17 f_RX11_45 dX11_arrives_75 h (fun b6 h => j_iload_n 1 dX11_arrives_78 rfl (j_iald dX11_arrives_79 h (fun h => j_iadd dX11_arrives_80 (j_putI 11 34 f_RX11_368 dX11_arrives_81 h (fun h => j_goto (tgt := 120) dX11_arrives_84 (by decide) (j_vret rfl dX11_arrives_120 h))))))))))))))))))))))))))))
def VX11_arrives_18 (d : Nat) (Q : Out → MS → Prop) (x0 : Nat) (x1 : Int) (x2 : Int) (t0 : Int) (S : MS) : Prop :=
  S.K x0 = 11 ∧ ∃ b1, S.R x0 31 = some b1 ∧ (R32 t0 ∧ ((t0 = 0) → S.K x0 = 11 ∧ Mw hX11_laidFor yX11_laidFor d [vA x0, vI x1, vI x2] S (oI (fun r2 S2 => VX11_arrives_40 d Q x0 x1 r2 x1 b1 S2))) ∧ (¬ (t0 = 0) → VX11_arrives_40 d Q x0 x1 ((-1)) x1 b1 S))
theorem JX11_arrives_18 {d : Nat} {S0 : MS} {Q : Out → MS → Prop} (x0 : Nat) (x1 : Int) (x2 : Int) (t0 : Int) (S : MS) (h : VX11_arrives_18 d Q x0 x1 x2 t0 S) : Jw FinM RX11 cX11_arrives 5 none [] yX11_arrives (d + 1) S0 S 18 [(0, vA x0), (1, vI x1), (2, vI x2)] [vI t0] Q :=
  j_istore (lv2 := [(4, vI t0), (0, vA x0), (1, vI x1), (2, vI x2)]) dX11_arrives_18 (by decide) rfl (j_aload_n 1 dX11_arrives_20 rfl (j_getR 11 31 f_RX11_70 dX11_arrives_21 h (fun b1 h => j_iload_n 2 dX11_arrives_24 rfl (j_iload 0 dX11_arrives_25 rfl (j_if_eq (tgt := 34) dX11_arrives_27 (by decide) h (fun h => j_aload_n 1 dX11_arrives_34 rfl (j_iload_n 2 dX11_arrives_35 rfl (j_iload_n 3 dX11_arrives_36 rfl (j_callV (rest := [vI x1, vA b1]) 11 [vI x1, vI x2] k_RX11_362 ⟨w_9_50, p_7_6⟩ ⟨_, _, rfl⟩ (by decide) rfl rfl (Nat.le_of_ble_eq_true rfl) dX11_arrives_37 h (kI (fun r2 S2 h => j_sub [1, 2] rfl (JX11_arrives_40 _ _ _ _ _ _ h))) (fun _ _ h => h.elim))))) (fun h => j_iconst dX11_arrives_30 (j_goto (tgt := 40) dX11_arrives_31 (by decide) (j_sub [1, 2] rfl (JX11_arrives_40 _ _ _ _ _ _ h)))))))))
def VX11_arrives_17 (d : Nat) (Q : Out → MS → Prop) (x0 : Nat) (x1 : Int) (x2 : Int) (S : MS) : Prop :=
  VX11_arrives_18 d Q x0 x1 x2 0 S
theorem JX11_arrives_17 {d : Nat} {S0 : MS} {Q : Out → MS → Prop} (x0 : Nat) (x1 : Int) (x2 : Int) (S : MS) (h : VX11_arrives_17 d Q x0 x1 x2 S) : Jw FinM RX11 cX11_arrives 5 none [] yX11_arrives (d + 1) S0 S 17 [(0, vA x0), (1, vI x1), (2, vI x2)] [] Q :=
  j_iconst dX11_arrives_17 (JX11_arrives_18 _ _ _ _ _ h)
def VX11_arrives_0 (d : Nat) (Q : Out → MS → Prop) (x0 : Nat) (x1 : Int) (x2 : Int) (x3 : Int) (S : MS) : Prop :=
  R32 x3 ∧ ((x3 < 0) → VX11_arrives_17 d Q x0 x1 x2 S) ∧ (¬ (x3 < 0) → S.K x0 = 11 ∧ Mw hX11_isPlaced yX11_isPlaced d [vA x0, vI x1, vI x3] S (oI (fun r1 S1 => R32 r1 ∧ ((r1 = 0) → VX11_arrives_17 d Q x0 x1 x2 S1) ∧ (¬ (r1 = 0) → VX11_arrives_18 d Q x0 x1 x2 1 S1))))
theorem JX11_arrives_0 {d : Nat} {S0 : MS} {Q : Out → MS → Prop} (x0 : Nat) (x1 : Int) (x2 : Int) (x3 : Int) (S : MS) (h : VX11_arrives_0 d Q x0 x1 x2 x3 S) : Jw FinM RX11 cX11_arrives 5 none [] yX11_arrives (d + 1) S0 S 0 [(0, vA x0), (1, vI x1), (2, vI x2), (3, vI x3)] [] Q :=
  j_iload_n 3 dX11_arrives_0 rfl (j_if_lt (tgt := 17) dX11_arrives_1 (by decide) h (fun h => j_sub [0, 1, 2] rfl (JX11_arrives_17 _ _ _ _ h)) (fun h => j_aload_n 0 dX11_arrives_4 rfl (j_iload_n 1 dX11_arrives_5 rfl (j_iload_n 3 dX11_arrives_6 rfl (j_callV (rest := []) 11 [vI x1, vI x3] k_RX11_359 ⟨w_9_46, p_7_5⟩ ⟨_, _, rfl⟩ (by decide) rfl rfl (Nat.le_of_ble_eq_true rfl) dX11_arrives_7 h (kI (fun r1 S1 h => j_if_eq (tgt := 17) dX11_arrives_10 (by decide) h (fun h => j_sub [0, 1, 2] rfl (JX11_arrives_17 _ _ _ _ h)) (fun h => j_iconst dX11_arrives_13 (j_goto (tgt := 18) dX11_arrives_14 (by decide) (j_sub [0, 1, 2] rfl (JX11_arrives_18 _ _ _ _ _ h)))))) (fun _ _ h => h.elim))))))
theorem MX11_arrives {d : Nat} {x0 : Nat} {x1 : Int} {x2 : Int} {x3 : Int} {S : MS} {Q : Out → MS → Prop} (h : VX11_arrives_0 d Q x0 x1 x2 x3 S) : Mw hX11_arrives yX11_arrives (d + 1) [vA x0, vI x1, vI x2, vI x3] S Q := Mw.ofJ (by decide) (Nat.le_of_ble_eq_true rfl) (JX11_arrives_0 _ _ _ _ S h)
theorem dX11_walks_0 : decode cX11_walks 0 = .ok (.aload_n 0, 1) := by decide +kernel
theorem dX11_walks_1 : decode cX11_walks 1 = .ok (.invokevirtual 253, 3) := by decide +kernel
theorem dX11_walks_4 : decode cX11_walks 4 = .ok (.aload_n 0, 1) := by decide +kernel
theorem dX11_walks_5 : decode cX11_walks 5 = .ok (.iconst 0, 1) := by decide +kernel
theorem dX11_walks_6 : decode cX11_walks 6 = .ok (.putfield 365, 3) := by decide +kernel
theorem dX11_walks_9 : decode cX11_walks 9 = .ok (.aload_n 0, 1) := by decide +kernel
theorem dX11_walks_10 : decode cX11_walks 10 = .ok (.iconst 0, 1) := by decide +kernel
theorem dX11_walks_11 : decode cX11_walks 11 = .ok (.putfield 368, 3) := by decide +kernel
theorem dX11_walks_14 : decode cX11_walks 14 = .ok (.aload_n 0, 1) := by decide +kernel
theorem dX11_walks_15 : decode cX11_walks 15 = .ok (.iconst 1, 1) := by decide +kernel
theorem dX11_walks_16 : decode cX11_walks 16 = .ok (.putfield 371, 3) := by decide +kernel
theorem dX11_walks_19 : decode cX11_walks 19 = .ok (.iconst 0, 1) := by decide +kernel
theorem dX11_walks_20 : decode cX11_walks 20 = .ok (.istore_n 3, 1) := by decide +kernel
theorem dX11_walks_21 : decode cX11_walks 21 = .ok (.aload_n 0, 1) := by decide +kernel
theorem dX11_walks_22 : decode cX11_walks 22 = .ok (.iconst 0, 1) := by decide +kernel
theorem dX11_walks_23 : decode cX11_walks 23 = .ok (.iload_n 1, 1) := by decide +kernel
theorem dX11_walks_24 : decode cX11_walks 24 = .ok (.iload_n 2, 1) := by decide +kernel
theorem dX11_walks_25 : decode cX11_walks 25 = .ok (.invokevirtual 374, 3) := by decide +kernel
theorem dX11_walks_28 : decode cX11_walks 28 = .ok (.iload_n 3, 1) := by decide +kernel
theorem dX11_walks_29 : decode cX11_walks 29 = .ok (.ifCond .lt 81, 3) := by decide +kernel
theorem dX11_walks_32 : decode cX11_walks 32 = .ok (.aload_n 0, 1) := by decide +kernel
theorem dX11_walks_33 : decode cX11_walks 33 = .ok (.getfield 70, 3) := by decide +kernel
theorem dX11_walks_36 : decode cX11_walks 36 = .ok (.iload_n 3, 1) := by decide +kernel
theorem dX11_walks_37 : decode cX11_walks 37 = .ok (.iaload, 1) := by decide +kernel
theorem dX11_walks_38 : decode cX11_walks 38 = .ok (.ifCond .ge 7, 3) := by decide +kernel
theorem dX11_walks_41 : decode cX11_walks 41 = .ok (.iconst (-1), 1) := by decide +kernel
theorem dX11_walks_42 : decode cX11_walks 42 = .ok (.goto 18, 3) := by decide +kernel
theorem dX11_walks_45 : decode cX11_walks 45 = .ok (.aload_n 0, 1) := by decide +kernel
theorem dX11_walks_46 : decode cX11_walks 46 = .ok (.getfield 70, 3) := by decide +kernel
theorem dX11_walks_49 : decode cX11_walks 49 = .ok (.iload_n 3, 1) := by decide +kernel
theorem dX11_walks_50 : decode cX11_walks 50 = .ok (.iaload, 1) := by decide +kernel
theorem dX11_walks_51 : decode cX11_walks 51 = .ok (.aload_n 0, 1) := by decide +kernel
theorem dX11_walks_52 : decode cX11_walks 52 = .ok (.getfield 73, 3) := by decide +kernel
theorem dX11_walks_55 : decode cX11_walks 55 = .ok (.iload_n 3, 1) := by decide +kernel
theorem dX11_walks_56 : decode cX11_walks 56 = .ok (.iaload, 1) := by decide +kernel
theorem dX11_walks_57 : decode cX11_walks 57 = .ok (.invokestatic 349, 3) := by decide +kernel
theorem dX11_walks_60 : decode cX11_walks 60 = .ok (.istore 4, 2) := by decide +kernel
theorem dX11_walks_62 : decode cX11_walks 62 = .ok (.iload 4, 2) := by decide +kernel
theorem dX11_walks_64 : decode cX11_walks 64 = .ok (.ifCond .ge 9, 3) := by decide +kernel
theorem dX11_walks_67 : decode cX11_walks 67 = .ok (.iinc 3 (-1), 3) := by decide +kernel
theorem dX11_walks_70 : decode cX11_walks 70 = .ok (.goto (-42), 3) := by decide +kernel
theorem dX11_walks_73 : decode cX11_walks 73 = .ok (.aload_n 0, 1) := by decide +kernel
theorem dX11_walks_74 : decode cX11_walks 74 = .ok (.getfield 73, 3) := by decide +kernel
theorem dX11_walks_77 : decode cX11_walks 77 = .ok (.iload_n 3, 1) := by decide +kernel
theorem dX11_walks_78 : decode cX11_walks 78 = .ok (.dup2, 1) := by decide +kernel
theorem dX11_walks_79 : decode cX11_walks 79 = .ok (.iaload, 1) := by decide +kernel
theorem dX11_walks_80 : decode cX11_walks 80 = .ok (.iconst 1, 1) := by decide +kernel
theorem dX11_walks_81 : decode cX11_walks 81 = .ok (.iadd, 1) := by decide +kernel
theorem dX11_walks_82 : decode cX11_walks 82 = .ok (.iastore, 1) := by decide +kernel
theorem dX11_walks_83 : decode cX11_walks 83 = .ok (.aload_n 0, 1) := by decide +kernel
theorem dX11_walks_84 : decode cX11_walks 84 = .ok (.iload_n 3, 1) := by decide +kernel
theorem dX11_walks_85 : decode cX11_walks 85 = .ok (.iload_n 1, 1) := by decide +kernel
theorem dX11_walks_86 : decode cX11_walks 86 = .ok (.aload_n 0, 1) := by decide +kernel
theorem dX11_walks_87 : decode cX11_walks 87 = .ok (.getfield 70, 3) := by decide +kernel
theorem dX11_walks_90 : decode cX11_walks 90 = .ok (.iload_n 3, 1) := by decide +kernel
theorem dX11_walks_91 : decode cX11_walks 91 = .ok (.iaload, 1) := by decide +kernel
theorem dX11_walks_92 : decode cX11_walks 92 = .ok (.iload 4, 2) := by decide +kernel
theorem dX11_walks_94 : decode cX11_walks 94 = .ok (.invokevirtual 352, 3) := by decide +kernel
theorem dX11_walks_97 : decode cX11_walks 97 = .ok (.iinc 3 1, 3) := by decide +kernel
theorem dX11_walks_100 : decode cX11_walks 100 = .ok (.aload_n 0, 1) := by decide +kernel
theorem dX11_walks_101 : decode cX11_walks 101 = .ok (.iload_n 3, 1) := by decide +kernel
theorem dX11_walks_102 : decode cX11_walks 102 = .ok (.iload_n 1, 1) := by decide +kernel
theorem dX11_walks_103 : decode cX11_walks 103 = .ok (.iload_n 2, 1) := by decide +kernel
theorem dX11_walks_104 : decode cX11_walks 104 = .ok (.invokevirtual 374, 3) := by decide +kernel
theorem dX11_walks_107 : decode cX11_walks 107 = .ok (.goto (-79), 3) := by decide +kernel
theorem dX11_walks_110 : decode cX11_walks 110 = .ok (.return_, 1) := by decide +kernel
def VX11_walks_60 (d : Nat) (c28 : Nat → Int → Int → Int → MS → Prop) (Q : Out → MS → Prop) (x0 : Nat) (x1 : Int) (x2 : Int) (x3 : Int) (t0 : Int) (S : MS) : Prop :=
  R32 t0 ∧ ((0 ≤ t0) → S.K x0 = 11 ∧ ∃ b1, S.R x0 32 = some b1 ∧ ((S.K b1 = 13 ∧ 0 ≤ x3 ∧ x3 < S.N b1) ∧ ((S.K b1 = 13 ∧ 0 ≤ x3 ∧ x3 < S.N b1) ∧ ((S.setI b1 (x3).toNat ((S.I b1 (x3).toNat) + 1)).K x0 = 11 ∧ ∃ b2, (S.setI b1 (x3).toNat ((S.I b1 (x3).toNat) + 1)).R x0 31 = some b2 ∧ (((S.setI b1 (x3).toNat ((S.I b1 (x3).toNat) + 1)).K b2 = 13 ∧ 0 ≤ x3 ∧ x3 < (S.setI b1 (x3).toNat ((S.I b1 (x3).toNat) + 1)).N b2) ∧ ((S.setI b1 (x3).toNat ((S.I b1 (x3).toNat) + 1)).K x0 = 11 ∧ Mw hX11_parts yX11_parts d [vA x0, vI x3, vI x1, vI ((S.setI b1 (x3).toNat ((S.I b1 (x3).toNat) + 1)).I b2 (x3).toNat), vI t0] (S.setI b1 (x3).toNat ((S.I b1 (x3).toNat) + 1)) (oV (fun S3 => S3.K x0 = 11 ∧ Mw hX11_arrives yX11_arrives d [vA x0, vI (x3 + 1), vI x1, vI x2] S3 (oV (fun S4 => c28 x0 x1 x2 (x3 + 1) S4)))))))))) ∧ (¬ (0 ≤ t0) → c28 x0 x1 x2 (x3 + (-1)) S)
theorem JX11_walks_60 {d : Nat} {c28 : Nat → Int → Int → Int → MS → Prop} {S0 : MS} {Q : Out → MS → Prop} (hc28 : ∀ (x0 : Nat) (x1 : Int) (x2 : Int) (x3 : Int) (S : MS), c28 x0 x1 x2 x3 S → Jw FinM RX11 cX11_walks 5 none [] yX11_walks (d + 1) S0 S 28 [(0, vA x0), (1, vI x1), (2, vI x2), (3, vI x3)] [] Q) (x0 : Nat) (x1 : Int) (x2 : Int) (x3 : Int) (t0 : Int) (S : MS) (h : VX11_walks_60 d c28 Q x0 x1 x2 x3 t0 S) : Jw FinM RX11 cX11_walks 5 none [] yX11_walks (d + 1) S0 S 60 [(0, vA x0), (1, vI x1), (2, vI x2), (3, vI x3)] [vI t0] Q :=
  j_istore (lv2 := [(4, vI t0), (0, vA x0), (1, vI x1), (2, vI x2), (3, vI x3)]) dX11_walks_60 (by decide) rfl (j_iload 0 dX11_walks_62 rfl (j_if_ge (tgt := 73) dX11_walks_64 (by decide) h (fun h => j_aload_n 1 dX11_walks_73 rfl (j_getR 11 32 f_RX11_73 dX11_walks_74 h (fun b1 h => j_iload_n 4 dX11_walks_77 rfl (j_dup2 rfl rfl dX11_walks_78 (j_iald dX11_walks_79 h (fun h => j_iconst dX11_walks_80 (j_iadd dX11_walks_81 (j_iast dX11_walks_82 h (fun h => j_aload_n 1 dX11_walks_83 rfl (j_iload_n 4 dX11_walks_84 rfl (j_iload_n 2 dX11_walks_85 rfl (j_aload_n 1 dX11_walks_86 rfl (j_getR 11 31 f_RX11_70 dX11_walks_87 h (fun b2 h => j_iload_n 4 dX11_walks_90 rfl (j_iald dX11_walks_91 h (fun h => j_iload 0 dX11_walks_92 rfl (j_callV (rest := []) 11 [vI x3, vI x1, vI ((S.setI b1 (x3).toNat ((S.I b1 (x3).toNat) + 1)).I b2 (x3).toNat), vI t0] k_RX11_352 ⟨w_9_26, p_7_2⟩ ⟨_, _, rfl⟩ (by decide) rfl rfl (Nat.le_of_ble_eq_true rfl) dX11_walks_94 h (kV (fun S3 h => j_iinc 4 (lv2 := [(3, vI (x3 + 1)), (4, vI t0), (0, vA x0), (1, vI x1), (2, vI x2)]) dX11_walks_97 rfl (by decide) rfl (j_aload_n 2 dX11_walks_100 rfl (j_iload_n 0 dX11_walks_101 rfl (j_iload_n 3 dX11_walks_102 rfl (j_iload_n 4 dX11_walks_103 rfl (j_callV (rest := []) 11 [vI (x3 + 1), vI x1, vI x2] k_RX11_374 ⟨w_9_42, p_7_4⟩ ⟨_, _, rfl⟩ (by decide) rfl rfl (Nat.le_of_ble_eq_true rfl) dX11_walks_104 h (kV (fun S4 h => j_goto (tgt := 28) dX11_walks_107 (by decide) (j_sub [2, 3, 4, 0] rfl (hc28 _ _ _ _ _ h)))) (fun _ _ h => h.elim)))))))) (fun _ _ h => h.elim)))))))))))))))))) (fun h => j_iinc 4 (lv2 := [(3, vI (x3 + (-1))), (4, vI t0), (0, vA x0), (1, vI x1), (2, vI x2)]) dX11_walks_67 rfl (by decide) rfl (j_goto (tgt := 28) dX11_walks_70 (by decide) (j_sub [2, 3, 4, 0] rfl (hc28 _ _ _ _ _ h))))))
def VX11_walks_28 (d : Nat) (Q : Out → MS → Prop) : Nat → Nat → Int → Int → Int → MS → Prop
  | 0, _, _, _, _, _ => False
  | n + 1, x0, x1, x2, x3, S => R32 x3 ∧ ((x3 < 0) → Q (.inl none) S) ∧ (¬ (x3 < 0) → S.K x0 = 11 ∧ ∃ b1, S.R x0 31 = some b1 ∧ ((S.K b1 = 13 ∧ 0 ≤ x3 ∧ x3 < S.N b1) ∧ (R32 (S.I b1 (x3).toNat) ∧ ((0 ≤ (S.I b1 (x3).toNat)) → S.K x0 = 11 ∧ ∃ b2, S.R x0 31 = some b2 ∧ ((S.K b2 = 13 ∧ 0 ≤ x3 ∧ x3 < S.N b2) ∧ (S.K x0 = 11 ∧ ∃ b3, S.R x0 32 = some b3 ∧ ((S.K b3 = 13 ∧ 0 ≤ x3 ∧ x3 < S.N b3) ∧ (Mw hX11_memberOf yX11_memberOf d [vI (S.I b2 (x3).toNat), vI (S.I b3 (x3).toNat)] S (oI (fun r4 S4 => VX11_walks_60 d (VX11_walks_28 d Q n) Q x0 x1 x2 x3 r4 S4))))))) ∧ (¬ (0 ≤ (S.I b1 (x3).toNat)) → VX11_walks_60 d (VX11_walks_28 d Q n) Q x0 x1 x2 x3 ((-1)) S))))
theorem JX11_walks_28 {d : Nat} {S0 : MS} {Q : Out → MS → Prop} : ∀ (n : Nat) (x0 : Nat) (x1 : Int) (x2 : Int) (x3 : Int) (S : MS), VX11_walks_28 d Q n x0 x1 x2 x3 S → Jw FinM RX11 cX11_walks 5 none [] yX11_walks (d + 1) S0 S 28 [(0, vA x0), (1, vI x1), (2, vI x2), (3, vI x3)] [] Q := by
  intro n
  induction n with
  | zero => intro x0 x1 x2 x3 S h; exact h.elim
  | succ n ih =>
    intro x0 x1 x2 x3 S h
    exact j_iload_n 3 dX11_walks_28 rfl (j_if_lt (tgt := 110) dX11_walks_29 (by decide) h (fun h => j_vret rfl dX11_walks_110 h) (fun h => j_aload_n 0 dX11_walks_32 rfl (j_getR 11 31 f_RX11_70 dX11_walks_33 h (fun b1 h => j_iload_n 3 dX11_walks_36 rfl (j_iald dX11_walks_37 h (fun h => j_if_ge (tgt := 45) dX11_walks_38 (by decide) h (fun h => j_aload_n 0 dX11_walks_45 rfl (j_getR 11 31 f_RX11_70 dX11_walks_46 h (fun b2 h => j_iload_n 3 dX11_walks_49 rfl (j_iald dX11_walks_50 h (fun h => j_aload_n 0 dX11_walks_51 rfl (j_getR 11 32 f_RX11_73 dX11_walks_52 h (fun b3 h => j_iload_n 3 dX11_walks_55 rfl (j_iald dX11_walks_56 h (fun h => j_callS (rest := []) [vI (S.I b2 (x3).toNat), vI (S.I b3 (x3).toNat)] k_RX11_349 w_9_18 rfl rfl (Nat.le_of_ble_eq_true rfl) dX11_walks_57 h (kI (fun r4 S4 h => JX11_walks_60 ih _ _ _ _ _ _ h)) (fun _ _ h => h.elim)))))))))) (fun h => j_iconst dX11_walks_41 (j_goto (tgt := 60) dX11_walks_42 (by decide) (JX11_walks_60 ih _ _ _ _ _ _ h)))))))))
def VX11_walks_0 (d : Nat) (Q : Out → MS → Prop) (x0 : Nat) (x1 : Int) (x2 : Int) (S : MS) : Prop :=
  S.K x0 = 11 ∧ Mw hX11_leaves yX11_leaves d [vA x0] S (oV (fun S1 => S1.K x0 = 11 ∧ ((S1.setI x0 33 0).K x0 = 11 ∧ ((((S1.setI x0 33 0).setI x0 34 0).K x0 = 11 ∧ B01 1) ∧ ((((S1.setI x0 33 0).setI x0 34 0).setI x0 35 1).K x0 = 11 ∧ Mw hX11_arrives yX11_arrives d [vA x0, vI 0, vI x1, vI x2] (((S1.setI x0 33 0).setI x0 34 0).setI x0 35 1) (oV (fun S2 => ∃ m, VX11_walks_28 d Q m x0 x1 x2 0 S2)))))))
theorem JX11_walks_0 {d : Nat} {S0 : MS} {Q : Out → MS → Prop} (x0 : Nat) (x1 : Int) (x2 : Int) (S : MS) (h : VX11_walks_0 d Q x0 x1 x2 S) : Jw FinM RX11 cX11_walks 5 none [] yX11_walks (d + 1) S0 S 0 [(0, vA x0), (1, vI x1), (2, vI x2)] [] Q :=
  j_aload_n 0 dX11_walks_0 rfl (j_callV (rest := []) 11 [] k_RX11_253 ⟨w_8_42, p_5_4⟩ ⟨_, _, rfl⟩ (by decide) rfl rfl (Nat.le_of_ble_eq_true rfl) dX11_walks_1 h (kV (fun S1 h => j_aload_n 0 dX11_walks_4 rfl (j_iconst dX11_walks_5 (j_putI 11 33 f_RX11_365 dX11_walks_6 h (fun h => j_aload_n 0 dX11_walks_9 rfl (j_iconst dX11_walks_10 (j_putI 11 34 f_RX11_368 dX11_walks_11 h (fun h => j_aload_n 0 dX11_walks_14 rfl (j_iconst dX11_walks_15 (j_putZ 11 35 f_RX11_371 dX11_walks_16 h (fun h => j_iconst dX11_walks_19 (j_istore_n (lv2 := [(3, vI 0), (0, vA x0), (1, vI x1), (2, vI x2)]) dX11_walks_20 (by decide) rfl (j_aload_n 1 dX11_walks_21 rfl (j_iconst dX11_walks_22 (j_iload_n 2 dX11_walks_23 rfl (j_iload_n 3 dX11_walks_24 rfl (j_callV (rest := []) 11 [vI 0, vI x1, vI x2] k_RX11_374 ⟨w_9_42, p_7_4⟩ ⟨_, _, rfl⟩ (by decide) rfl rfl (Nat.le_of_ble_eq_true rfl) dX11_walks_25 h (kV (fun S2 h => Exists.elim h (fun m h => j_sub [1, 2, 3, 0] rfl (JX11_walks_28 m _ _ _ _ _ h)))) (fun _ _ h => h.elim)))))))))))))))))) (fun _ _ h => h.elim))
theorem MX11_walks {d : Nat} {x0 : Nat} {x1 : Int} {x2 : Int} {S : MS} {Q : Out → MS → Prop} (h : VX11_walks_0 d Q x0 x1 x2 S) : Mw hX11_walks yX11_walks (d + 1) [vA x0, vI x1, vI x2] S Q := Mw.ofJ (by decide) (Nat.le_of_ble_eq_true rfl) (JX11_walks_0 _ _ _ S h)
theorem dX11_isPlaced_0 : decode cX11_isPlaced 0 = .ok (.iconst 0, 1) := by decide +kernel
theorem dX11_isPlaced_1 : decode cX11_isPlaced 1 = .ok (.istore_n 3, 1) := by decide +kernel
theorem dX11_isPlaced_2 : decode cX11_isPlaced 2 = .ok (.iconst 0, 1) := by decide +kernel
theorem dX11_isPlaced_3 : decode cX11_isPlaced 3 = .ok (.istore 4, 2) := by decide +kernel
theorem dX11_isPlaced_5 : decode cX11_isPlaced 5 = .ok (.iload 4, 2) := by decide +kernel
theorem dX11_isPlaced_7 : decode cX11_isPlaced 7 = .ok (.aload_n 0, 1) := by decide +kernel
theorem dX11_isPlaced_8 : decode cX11_isPlaced 8 = .ok (.getfield 45, 3) := by decide +kernel
theorem dX11_isPlaced_11 : decode cX11_isPlaced 11 = .ok (.iload_n 1, 1) := by decide +kernel
theorem dX11_isPlaced_12 : decode cX11_isPlaced 12 = .ok (.iaload, 1) := by decide +kernel
theorem dX11_isPlaced_13 : decode cX11_isPlaced 13 = .ok (.if_icmp .ge 26, 3) := by decide +kernel
theorem dX11_isPlaced_16 : decode cX11_isPlaced 16 = .ok (.iload_n 3, 1) := by decide +kernel
theorem dX11_isPlaced_17 : decode cX11_isPlaced 17 = .ok (.iconst 1, 1) := by decide +kernel
theorem dX11_isPlaced_18 : decode cX11_isPlaced 18 = .ok (.aload_n 0, 1) := by decide +kernel
theorem dX11_isPlaced_19 : decode cX11_isPlaced 19 = .ok (.aload_n 0, 1) := by decide +kernel
theorem dX11_isPlaced_20 : decode cX11_isPlaced 20 = .ok (.iload_n 1, 1) := by decide +kernel
theorem dX11_isPlaced_21 : decode cX11_isPlaced 21 = .ok (.iload 4, 2) := by decide +kernel
theorem dX11_isPlaced_23 : decode cX11_isPlaced 23 = .ok (.invokevirtual 247, 3) := by decide +kernel
theorem dX11_isPlaced_26 : decode cX11_isPlaced 26 = .ok (.iload_n 2, 1) := by decide +kernel
theorem dX11_isPlaced_27 : decode cX11_isPlaced 27 = .ok (.invokevirtual 262, 3) := by decide +kernel
theorem dX11_isPlaced_30 : decode cX11_isPlaced 30 = .ok (.ishl, 1) := by decide +kernel
theorem dX11_isPlaced_31 : decode cX11_isPlaced 31 = .ok (.ior, 1) := by decide +kernel
theorem dX11_isPlaced_32 : decode cX11_isPlaced 32 = .ok (.istore_n 3, 1) := by decide +kernel
theorem dX11_isPlaced_33 : decode cX11_isPlaced 33 = .ok (.iinc 4 1, 3) := by decide +kernel
theorem dX11_isPlaced_36 : decode cX11_isPlaced 36 = .ok (.goto (-31), 3) := by decide +kernel
theorem dX11_isPlaced_39 : decode cX11_isPlaced 39 = .ok (.iload_n 3, 1) := by decide +kernel
theorem dX11_isPlaced_40 : decode cX11_isPlaced 40 = .ok (.invokestatic 331, 3) := by decide +kernel
theorem dX11_isPlaced_43 : decode cX11_isPlaced 43 = .ok (.istore 4, 2) := by decide +kernel
theorem dX11_isPlaced_45 : decode cX11_isPlaced 45 = .ok (.iload_n 3, 1) := by decide +kernel
theorem dX11_isPlaced_46 : decode cX11_isPlaced 46 = .ok (.invokestatic 102, 3) := by decide +kernel
theorem dX11_isPlaced_49 : decode cX11_isPlaced 49 = .ok (.iconst 1, 1) := by decide +kernel
theorem dX11_isPlaced_50 : decode cX11_isPlaced 50 = .ok (.if_icmp .eq 31, 3) := by decide +kernel
theorem dX11_isPlaced_53 : decode cX11_isPlaced 53 = .ok (.iload_n 3, 1) := by decide +kernel
theorem dX11_isPlaced_54 : decode cX11_isPlaced 54 = .ok (.invokestatic 102, 3) := by decide +kernel
theorem dX11_isPlaced_57 : decode cX11_isPlaced 57 = .ok (.iconst 2, 1) := by decide +kernel
theorem dX11_isPlaced_58 : decode cX11_isPlaced 58 = .ok (.if_icmp .ne 27, 3) := by decide +kernel
theorem dX11_isPlaced_61 : decode cX11_isPlaced 61 = .ok (.iload_n 3, 1) := by decide +kernel
theorem dX11_isPlaced_62 : decode cX11_isPlaced 62 = .ok (.iconst 1, 1) := by decide +kernel
theorem dX11_isPlaced_63 : decode cX11_isPlaced 63 = .ok (.iload 4, 2) := by decide +kernel
theorem dX11_isPlaced_65 : decode cX11_isPlaced 65 = .ok (.ishl, 1) := by decide +kernel
theorem dX11_isPlaced_66 : decode cX11_isPlaced 66 = .ok (.iconst 1, 1) := by decide +kernel
theorem dX11_isPlaced_67 : decode cX11_isPlaced 67 = .ok (.aload_n 0, 1) := by decide +kernel
theorem dX11_isPlaced_68 : decode cX11_isPlaced 68 = .ok (.getfield 222, 3) := by decide +kernel
theorem dX11_isPlaced_71 : decode cX11_isPlaced 71 = .ok (.iconst 1, 1) := by decide +kernel
theorem dX11_isPlaced_72 : decode cX11_isPlaced 72 = .ok (.isub, 1) := by decide +kernel
theorem dX11_isPlaced_73 : decode cX11_isPlaced 73 = .ok (.iload 4, 2) := by decide +kernel
theorem dX11_isPlaced_75 : decode cX11_isPlaced 75 = .ok (.isub, 1) := by decide +kernel
theorem dX11_isPlaced_76 : decode cX11_isPlaced 76 = .ok (.ishl, 1) := by decide +kernel
theorem dX11_isPlaced_77 : decode cX11_isPlaced 77 = .ok (.ior, 1) := by decide +kernel
theorem dX11_isPlaced_78 : decode cX11_isPlaced 78 = .ok (.if_icmp .ne 7, 3) := by decide +kernel
theorem dX11_isPlaced_81 : decode cX11_isPlaced 81 = .ok (.iconst 1, 1) := by decide +kernel
theorem dX11_isPlaced_82 : decode cX11_isPlaced 82 = .ok (.goto 4, 3) := by decide +kernel
theorem dX11_isPlaced_85 : decode cX11_isPlaced 85 = .ok (.iconst 0, 1) := by decide +kernel
theorem dX11_isPlaced_86 : decode cX11_isPlaced 86 = .ok (.ireturn, 1) := by decide +kernel
def VX11_isPlaced_81 (d : Nat) (Q : Out → MS → Prop) (S : MS) : Prop :=
  B01 1 ∧ Q (.inl (some (vI 1))) S
theorem JX11_isPlaced_81 {d : Nat} {S0 : MS} {Q : Out → MS → Prop} (S : MS) (h : VX11_isPlaced_81 d Q S) : Jw FinM RX11 cX11_isPlaced 5 (some .boolean) [] yX11_isPlaced (d + 1) S0 S 81 [] [] Q :=
  j_iconst dX11_isPlaced_81 (j_goto (tgt := 86) dX11_isPlaced_82 (by decide) (j_zret rfl dX11_isPlaced_86 h))
def VX11_isPlaced_5 (d : Nat) (Q : Out → MS → Prop) : Nat → Nat → Int → Int → Int → Int → MS → Prop
  | 0, _, _, _, _, _, _ => False
  | n + 1, x0, x1, x2, x3, x4, S => S.K x0 = 11 ∧ ∃ b1, S.R x0 17 = some b1 ∧ ((S.K b1 = 13 ∧ 0 ≤ x1 ∧ x1 < S.N b1) ∧ ((R32 x4 ∧ R32 (S.I b1 (x1).toNat)) ∧ (((S.I b1 (x1).toNat) ≤ x4) → Mw hJ6_numberOfTrailingZeros_0f7a4 yJ6_numberOfTrailingZeros_0f7a4 d [vI x3] S (oI (fun r2 S2 => Mw hJ6_bitCount_0f7a4 yJ6_bitCount_0f7a4 d [vI x3] S2 (oI (fun r3 S3 => (R32 r3 ∧ R32 (1 : Int)) ∧ ((r3 = (1 : Int)) → VX11_isPlaced_81 d Q S3) ∧ (¬ (r3 = (1 : Int)) → Mw hJ6_bitCount_0f7a4 yJ6_bitCount_0f7a4 d [vI x3] S3 (oI (fun r4 S4 => (R32 r4 ∧ R32 (2 : Int)) ∧ (¬ (r4 = (2 : Int)) → B01 0 ∧ Q (.inl (some (vI 0))) S4) ∧ ((r4 = (2 : Int)) → S4.K x0 = 11 ∧ ((R32 x3 ∧ R32 (iOr (iShl 1 r2) (iShl 1 (((S4.I x0 14) - 1) - r2)))) ∧ (¬ (x3 = (iOr (iShl 1 r2) (iShl 1 (((S4.I x0 14) - 1) - r2)))) → B01 0 ∧ Q (.inl (some (vI 0))) S4) ∧ ((x3 = (iOr (iShl 1 r2) (iShl 1 (((S4.I x0 14) - 1) - r2)))) → VX11_isPlaced_81 d Q S4))))))))))) ∧ (¬ ((S.I b1 (x1).toNat) ≤ x4) → S.K x0 = 11 ∧ Mw hX11_rowAt yX11_rowAt d [vA x0, vI x1, vI x4] S (oI (fun r5 S5 => S5.K x0 = 11 ∧ Mw hX11_placeOf yX11_placeOf d [vA x0, vI r5, vI x2] S5 (oI (fun r6 S6 => (VX11_isPlaced_5 d Q n) x0 x1 x2 (iOr x3 (iShl 1 r6)) (x4 + 1) S6)))))))
theorem JX11_isPlaced_5 {d : Nat} {S0 : MS} {Q : Out → MS → Prop} : ∀ (n : Nat) (x0 : Nat) (x1 : Int) (x2 : Int) (x3 : Int) (x4 : Int) (S : MS), VX11_isPlaced_5 d Q n x0 x1 x2 x3 x4 S → Jw FinM RX11 cX11_isPlaced 5 (some .boolean) [] yX11_isPlaced (d + 1) S0 S 5 [(0, vA x0), (1, vI x1), (2, vI x2), (3, vI x3), (4, vI x4)] [] Q := by
  intro n
  induction n with
  | zero => intro x0 x1 x2 x3 x4 S h; exact h.elim
  | succ n ih =>
    intro x0 x1 x2 x3 x4 S h
    exact j_iload 4 dX11_isPlaced_5 rfl (j_aload_n 0 dX11_isPlaced_7 rfl (j_getR 11 17 f_RX11_45 dX11_isPlaced_8 h (fun b1 h => j_iload_n 1 dX11_isPlaced_11 rfl (j_iald dX11_isPlaced_12 h (fun h => j_icmp_ge (tgt := 39) dX11_isPlaced_13 (by decide) h (fun h => j_iload_n 3 dX11_isPlaced_39 rfl (j_callS (rest := []) [vI x3] k_RX11_331 w_9_21 rfl rfl (Nat.le_of_ble_eq_true rfl) dX11_isPlaced_40 h (kI (fun r2 S2 h => j_istore (lv2 := [(4, vI r2), (0, vA x0), (1, vI x1), (2, vI x2), (3, vI x3)]) dX11_isPlaced_43 (by decide) rfl (j_iload_n 4 dX11_isPlaced_45 rfl (j_callS (rest := []) [vI x3] k_RX11_102 w_2_86 rfl rfl (Nat.le_of_ble_eq_true rfl) dX11_isPlaced_46 h (kI (fun r3 S3 h => j_iconst dX11_isPlaced_49 (j_icmp_eq (tgt := 81) dX11_isPlaced_50 (by decide) h (fun h => j_sub [] rfl (JX11_isPlaced_81 _ h)) (fun h => j_iload_n 4 dX11_isPlaced_53 rfl (j_callS (rest := []) [vI x3] k_RX11_102 w_2_86 rfl rfl (Nat.le_of_ble_eq_true rfl) dX11_isPlaced_54 h (kI (fun r4 S4 h => j_iconst dX11_isPlaced_57 (j_icmp_ne (tgt := 85) dX11_isPlaced_58 (by decide) h (fun h => j_iconst dX11_isPlaced_85 (j_zret rfl dX11_isPlaced_86 h)) (fun h => j_iload_n 4 dX11_isPlaced_61 rfl (j_iconst dX11_isPlaced_62 (j_iload 0 dX11_isPlaced_63 rfl (j_ishl dX11_isPlaced_65 (j_iconst dX11_isPlaced_66 (j_aload_n 1 dX11_isPlaced_67 rfl (j_getI 11 14 f_RX11_222 dX11_isPlaced_68 h (fun h => j_iconst dX11_isPlaced_71 (j_isub dX11_isPlaced_72 (j_iload 0 dX11_isPlaced_73 rfl (j_isub dX11_isPlaced_75 (j_ishl dX11_isPlaced_76 (j_ior dX11_isPlaced_77 (j_icmp_ne (tgt := 85) dX11_isPlaced_78 (by decide) h (fun h => j_iconst dX11_isPlaced_85 (j_zret rfl dX11_isPlaced_86 h)) (fun h => j_sub [] rfl (JX11_isPlaced_81 _ h))))))))))))))))))) (fun _ _ h => h.elim)))))) (fun _ _ h => h.elim))))) (fun _ _ h => h.elim))) (fun h => j_iload_n 3 dX11_isPlaced_16 rfl (j_iconst dX11_isPlaced_17 (j_aload_n 0 dX11_isPlaced_18 rfl (j_aload_n 0 dX11_isPlaced_19 rfl (j_iload_n 1 dX11_isPlaced_20 rfl (j_iload 4 dX11_isPlaced_21 rfl (j_callV (rest := [vA x0, vI 1, vI x3]) 11 [vI x1, vI x4] k_RX11_247 ⟨w_8_74, p_5_11⟩ ⟨_, _, rfl⟩ (by decide) rfl rfl (Nat.le_of_ble_eq_true rfl) dX11_isPlaced_23 h (kI (fun r5 S5 h => j_iload_n 2 dX11_isPlaced_26 rfl (j_callV (rest := [vI 1, vI x3]) 11 [vI r5, vI x2] k_RX11_262 ⟨w_8_102, p_5_15⟩ ⟨_, _, rfl⟩ (by decide) rfl rfl (Nat.le_of_ble_eq_true rfl) dX11_isPlaced_27 h (kI (fun r6 S6 h => j_ishl dX11_isPlaced_30 (j_ior dX11_isPlaced_31 (j_istore_n (lv2 := [(3, vI (iOr x3 (iShl 1 r6))), (0, vA x0), (1, vI x1), (2, vI x2), (4, vI x4)]) dX11_isPlaced_32 (by decide) rfl (j_iinc 4 (lv2 := [(4, vI (x4 + 1)), (3, vI (iOr x3 (iShl 1 r6))), (0, vA x0), (1, vI x1), (2, vI x2)]) dX11_isPlaced_33 rfl (by decide) rfl (j_goto (tgt := 5) dX11_isPlaced_36 (by decide) (j_sub [2, 3, 4, 1, 0] rfl (ih _ _ _ _ _ _ h)))))))) (fun _ _ h => h.elim)))) (fun _ _ h => h.elim)))))))))))))
def VX11_isPlaced_0 (d : Nat) (Q : Out → MS → Prop) (x0 : Nat) (x1 : Int) (x2 : Int) (S : MS) : Prop :=
  ∃ m, VX11_isPlaced_5 d Q m x0 x1 x2 0 0 S
theorem JX11_isPlaced_0 {d : Nat} {S0 : MS} {Q : Out → MS → Prop} (x0 : Nat) (x1 : Int) (x2 : Int) (S : MS) (h : VX11_isPlaced_0 d Q x0 x1 x2 S) : Jw FinM RX11 cX11_isPlaced 5 (some .boolean) [] yX11_isPlaced (d + 1) S0 S 0 [(0, vA x0), (1, vI x1), (2, vI x2)] [] Q :=
  j_iconst dX11_isPlaced_0 (j_istore_n (lv2 := [(3, vI 0), (0, vA x0), (1, vI x1), (2, vI x2)]) dX11_isPlaced_1 (by decide) rfl (j_iconst dX11_isPlaced_2 (j_istore (lv2 := [(4, vI 0), (3, vI 0), (0, vA x0), (1, vI x1), (2, vI x2)]) dX11_isPlaced_3 (by decide) rfl (Exists.elim h (fun m h => j_sub [2, 3, 4, 1, 0] rfl (JX11_isPlaced_5 m _ _ _ _ _ _ h))))))
theorem MX11_isPlaced {d : Nat} {x0 : Nat} {x1 : Int} {x2 : Int} {S : MS} {Q : Out → MS → Prop} (h : VX11_isPlaced_0 d Q x0 x1 x2 S) : Mw hX11_isPlaced yX11_isPlaced (d + 1) [vA x0, vI x1, vI x2] S Q := Mw.ofJ (by decide) (Nat.le_of_ble_eq_true rfl) (JX11_isPlaced_0 _ _ _ S h)
theorem dX11_byNext_0 : decode cX11_byNext 0 = .ok (.aload_n 0, 1) := by decide +kernel
theorem dX11_byNext_1 : decode cX11_byNext 1 = .ok (.iconst 0, 1) := by decide +kernel
theorem dX11_byNext_2 : decode cX11_byNext 2 = .ok (.putfield 3, 3) := by decide +kernel
theorem dX11_byNext_5 : decode cX11_byNext 5 = .ok (.aload_n 0, 1) := by decide +kernel
theorem dX11_byNext_6 : decode cX11_byNext 6 = .ok (.aload_n 0, 1) := by decide +kernel
theorem dX11_byNext_7 : decode cX11_byNext 7 = .ok (.iload_n 1, 1) := by decide +kernel
theorem dX11_byNext_8 : decode cX11_byNext 8 = .ok (.invokevirtual 203, 3) := by decide +kernel
theorem dX11_byNext_11 : decode cX11_byNext 11 = .ok (.iconst 1, 1) := by decide +kernel
theorem dX11_byNext_12 : decode cX11_byNext 12 = .ok (.invokevirtual 190, 3) := by decide +kernel
theorem dX11_byNext_15 : decode cX11_byNext 15 = .ok (.ifCond .eq 5, 3) := by decide +kernel
theorem dX11_byNext_18 : decode cX11_byNext 18 = .ok (.iconst 0, 1) := by decide +kernel
theorem dX11_byNext_19 : decode cX11_byNext 19 = .ok (.ireturn, 1) := by decide +kernel
theorem dX11_byNext_20 : decode cX11_byNext 20 = .ok (.aload_n 0, 1) := by decide +kernel
theorem dX11_byNext_21 : decode cX11_byNext 21 = .ok (.aload_n 0, 1) := by decide +kernel
theorem dX11_byNext_22 : decode cX11_byNext 22 = .ok (.iload_n 1, 1) := by decide +kernel
theorem dX11_byNext_23 : decode cX11_byNext 23 = .ok (.iconst 0, 1) := by decide +kernel
theorem dX11_byNext_24 : decode cX11_byNext 24 = .ok (.invokevirtual 94, 3) := by decide +kernel
theorem dX11_byNext_27 : decode cX11_byNext 27 = .ok (.iconst (-1), 1) := by decide +kernel
theorem dX11_byNext_28 : decode cX11_byNext 28 = .ok (.invokevirtual 377, 3) := by decide +kernel
theorem dX11_byNext_31 : decode cX11_byNext 31 = .ok (.aload_n 0, 1) := by decide +kernel
theorem dX11_byNext_32 : decode cX11_byNext 32 = .ok (.getfield 365, 3) := by decide +kernel
theorem dX11_byNext_35 : decode cX11_byNext 35 = .ok (.ireturn, 1) := by decide +kernel
def VX11_byNext_0 (d : Nat) (Q : Out → MS → Prop) (x0 : Nat) (x1 : Int) (S : MS) : Prop :=
  S.K x0 = 11 ∧ ((S.setI x0 0 0).K x0 = 11 ∧ Mw hX11_noScale yX11_noScale d [vA x0, vI x1] (S.setI x0 0 0) (oI (fun r1 S1 => S1.K x0 = 11 ∧ Mw hX11_throwsIf yX11_throwsIf d [vA x0, vI r1, vI 1] S1 (oI (fun r2 S2 => R32 r2 ∧ ((r2 = 0) → S2.K x0 = 11 ∧ Mw hX11_ofScale yX11_ofScale d [vA x0, vI x1, vI 0] S2 (oI (fun r3 S3 => S3.K x0 = 11 ∧ Mw hX11_walks yX11_walks d [vA x0, vI r3, vI ((-1))] S3 (oV (fun S4 => S4.K x0 = 11 ∧ (Q (.inl (some (vI (S4.I x0 33)))) S4)))))) ∧ (¬ (r2 = 0) → Q (.inl (some (vI 0))) S2))))))
theorem JX11_byNext_0 {d : Nat} {S0 : MS} {Q : Out → MS → Prop} (x0 : Nat) (x1 : Int) (S : MS) (h : VX11_byNext_0 d Q x0 x1 S) : Jw FinM RX11 cX11_byNext 2 (some .int) [] yX11_byNext (d + 1) S0 S 0 [(0, vA x0), (1, vI x1)] [] Q :=
  j_aload_n 0 dX11_byNext_0 rfl (j_iconst dX11_byNext_1 (j_putI 11 0 f_RX11_3 dX11_byNext_2 h (fun h => j_aload_n 0 dX11_byNext_5 rfl (j_aload_n 0 dX11_byNext_6 rfl (j_iload_n 1 dX11_byNext_7 rfl (j_callV (rest := [vA x0]) 11 [vI x1] k_RX11_203 ⟨w_7_226, p_4_11⟩ ⟨_, _, rfl⟩ (by decide) rfl rfl (Nat.le_of_ble_eq_true rfl) dX11_byNext_8 h (kI (fun r1 S1 h => j_iconst dX11_byNext_11 (j_callV (rest := []) 11 [vI r1, vI 1] k_RX11_190 ⟨w_7_191, p_4_7⟩ ⟨_, _, rfl⟩ (by decide) rfl rfl (Nat.le_of_ble_eq_true rfl) dX11_byNext_12 h (kI (fun r2 S2 h => j_if_eq (tgt := 20) dX11_byNext_15 (by decide) h (fun h => j_aload_n 0 dX11_byNext_20 rfl (j_aload_n 0 dX11_byNext_21 rfl (j_iload_n 1 dX11_byNext_22 rfl (j_iconst dX11_byNext_23 (j_callV (rest := [vA x0]) 11 [vI x1, vI 0] k_RX11_94 ⟨w_7_239, p_4_14⟩ ⟨_, _, rfl⟩ (by decide) rfl rfl (Nat.le_of_ble_eq_true rfl) dX11_byNext_24 h (kI (fun r3 S3 h => j_iconst dX11_byNext_27 (j_callV (rest := []) 11 [vI r3, vI ((-1))] k_RX11_377 ⟨w_9_38, p_7_3⟩ ⟨_, _, rfl⟩ (by decide) rfl rfl (Nat.le_of_ble_eq_true rfl) dX11_byNext_28 h (kV (fun S4 h => j_aload_n 0 dX11_byNext_31 rfl (j_getI 11 33 f_RX11_365 dX11_byNext_32 h (fun h => j_iret rfl dX11_byNext_35 h)))) (fun _ _ h => h.elim)))) (fun _ _ h => h.elim)))))) (fun h => j_iconst dX11_byNext_18 (j_iret rfl dX11_byNext_19 h)))) (fun _ _ h => h.elim)))) (fun _ _ h => h.elim)))))))
theorem MX11_byNext {d : Nat} {x0 : Nat} {x1 : Int} {S : MS} {Q : Out → MS → Prop} (h : VX11_byNext_0 d Q x0 x1 S) : Mw hX11_byNext yX11_byNext (d + 1) [vA x0, vI x1] S Q := Mw.ofJ (by decide) (Nat.le_of_ble_eq_true rfl) (JX11_byNext_0 _ _ S h)
theorem dX11_mean_0 : decode cX11_mean 0 = .ok (.aload_n 0, 1) := by decide +kernel
theorem dX11_mean_1 : decode cX11_mean 1 = .ok (.iconst 0, 1) := by decide +kernel
theorem dX11_mean_2 : decode cX11_mean 2 = .ok (.putfield 3, 3) := by decide +kernel
theorem dX11_mean_5 : decode cX11_mean 5 = .ok (.aload_n 0, 1) := by decide +kernel
theorem dX11_mean_6 : decode cX11_mean 6 = .ok (.aload_n 0, 1) := by decide +kernel
theorem dX11_mean_7 : decode cX11_mean 7 = .ok (.iload_n 1, 1) := by decide +kernel
theorem dX11_mean_8 : decode cX11_mean 8 = .ok (.invokevirtual 203, 3) := by decide +kernel
theorem dX11_mean_11 : decode cX11_mean 11 = .ok (.iconst 1, 1) := by decide +kernel
theorem dX11_mean_12 : decode cX11_mean 12 = .ok (.invokevirtual 190, 3) := by decide +kernel
theorem dX11_mean_15 : decode cX11_mean 15 = .ok (.ifCond .eq 5, 3) := by decide +kernel
theorem dX11_mean_18 : decode cX11_mean 18 = .ok (.iconst 0, 1) := by decide +kernel
theorem dX11_mean_19 : decode cX11_mean 19 = .ok (.ireturn, 1) := by decide +kernel
theorem dX11_mean_20 : decode cX11_mean 20 = .ok (.aload_n 0, 1) := by decide +kernel
theorem dX11_mean_21 : decode cX11_mean 21 = .ok (.aload_n 0, 1) := by decide +kernel
theorem dX11_mean_22 : decode cX11_mean 22 = .ok (.iload_n 1, 1) := by decide +kernel
theorem dX11_mean_23 : decode cX11_mean 23 = .ok (.iconst 0, 1) := by decide +kernel
theorem dX11_mean_24 : decode cX11_mean 24 = .ok (.invokevirtual 94, 3) := by decide +kernel
theorem dX11_mean_27 : decode cX11_mean 27 = .ok (.iconst (-1), 1) := by decide +kernel
theorem dX11_mean_28 : decode cX11_mean 28 = .ok (.invokevirtual 377, 3) := by decide +kernel
theorem dX11_mean_31 : decode cX11_mean 31 = .ok (.aload_n 0, 1) := by decide +kernel
theorem dX11_mean_32 : decode cX11_mean 32 = .ok (.getfield 368, 3) := by decide +kernel
theorem dX11_mean_35 : decode cX11_mean 35 = .ok (.ireturn, 1) := by decide +kernel
def VX11_mean_0 (d : Nat) (Q : Out → MS → Prop) (x0 : Nat) (x1 : Int) (S : MS) : Prop :=
  S.K x0 = 11 ∧ ((S.setI x0 0 0).K x0 = 11 ∧ Mw hX11_noScale yX11_noScale d [vA x0, vI x1] (S.setI x0 0 0) (oI (fun r1 S1 => S1.K x0 = 11 ∧ Mw hX11_throwsIf yX11_throwsIf d [vA x0, vI r1, vI 1] S1 (oI (fun r2 S2 => R32 r2 ∧ ((r2 = 0) → S2.K x0 = 11 ∧ Mw hX11_ofScale yX11_ofScale d [vA x0, vI x1, vI 0] S2 (oI (fun r3 S3 => S3.K x0 = 11 ∧ Mw hX11_walks yX11_walks d [vA x0, vI r3, vI ((-1))] S3 (oV (fun S4 => S4.K x0 = 11 ∧ (Q (.inl (some (vI (S4.I x0 34)))) S4)))))) ∧ (¬ (r2 = 0) → Q (.inl (some (vI 0))) S2))))))
theorem JX11_mean_0 {d : Nat} {S0 : MS} {Q : Out → MS → Prop} (x0 : Nat) (x1 : Int) (S : MS) (h : VX11_mean_0 d Q x0 x1 S) : Jw FinM RX11 cX11_mean 2 (some .int) [] yX11_mean (d + 1) S0 S 0 [(0, vA x0), (1, vI x1)] [] Q :=
  j_aload_n 0 dX11_mean_0 rfl (j_iconst dX11_mean_1 (j_putI 11 0 f_RX11_3 dX11_mean_2 h (fun h => j_aload_n 0 dX11_mean_5 rfl (j_aload_n 0 dX11_mean_6 rfl (j_iload_n 1 dX11_mean_7 rfl (j_callV (rest := [vA x0]) 11 [vI x1] k_RX11_203 ⟨w_7_226, p_4_11⟩ ⟨_, _, rfl⟩ (by decide) rfl rfl (Nat.le_of_ble_eq_true rfl) dX11_mean_8 h (kI (fun r1 S1 h => j_iconst dX11_mean_11 (j_callV (rest := []) 11 [vI r1, vI 1] k_RX11_190 ⟨w_7_191, p_4_7⟩ ⟨_, _, rfl⟩ (by decide) rfl rfl (Nat.le_of_ble_eq_true rfl) dX11_mean_12 h (kI (fun r2 S2 h => j_if_eq (tgt := 20) dX11_mean_15 (by decide) h (fun h => j_aload_n 0 dX11_mean_20 rfl (j_aload_n 0 dX11_mean_21 rfl (j_iload_n 1 dX11_mean_22 rfl (j_iconst dX11_mean_23 (j_callV (rest := [vA x0]) 11 [vI x1, vI 0] k_RX11_94 ⟨w_7_239, p_4_14⟩ ⟨_, _, rfl⟩ (by decide) rfl rfl (Nat.le_of_ble_eq_true rfl) dX11_mean_24 h (kI (fun r3 S3 h => j_iconst dX11_mean_27 (j_callV (rest := []) 11 [vI r3, vI ((-1))] k_RX11_377 ⟨w_9_38, p_7_3⟩ ⟨_, _, rfl⟩ (by decide) rfl rfl (Nat.le_of_ble_eq_true rfl) dX11_mean_28 h (kV (fun S4 h => j_aload_n 0 dX11_mean_31 rfl (j_getI 11 34 f_RX11_368 dX11_mean_32 h (fun h => j_iret rfl dX11_mean_35 h)))) (fun _ _ h => h.elim)))) (fun _ _ h => h.elim)))))) (fun h => j_iconst dX11_mean_18 (j_iret rfl dX11_mean_19 h)))) (fun _ _ h => h.elim)))) (fun _ _ h => h.elim)))))))
theorem MX11_mean {d : Nat} {x0 : Nat} {x1 : Int} {S : MS} {Q : Out → MS → Prop} (h : VX11_mean_0 d Q x0 x1 S) : Mw hX11_mean yX11_mean (d + 1) [vA x0, vI x1] S Q := Mw.ofJ (by decide) (Nat.le_of_ble_eq_true rfl) (JX11_mean_0 _ _ S h)
theorem dX11_where_0 : decode cX11_where 0 = .ok (.aload_n 0, 1) := by decide +kernel
theorem dX11_where_1 : decode cX11_where 1 = .ok (.iconst 0, 1) := by decide +kernel
theorem dX11_where_2 : decode cX11_where 2 = .ok (.putfield 3, 3) := by decide +kernel
theorem dX11_where_5 : decode cX11_where 5 = .ok (.aload_n 0, 1) := by decide +kernel
theorem dX11_where_6 : decode cX11_where 6 = .ok (.aload_n 0, 1) := by decide +kernel
theorem dX11_where_7 : decode cX11_where 7 = .ok (.iload_n 1, 1) := by decide +kernel
theorem dX11_where_8 : decode cX11_where 8 = .ok (.invokevirtual 194, 3) := by decide +kernel
theorem dX11_where_11 : decode cX11_where 11 = .ok (.ifCond .ne 11, 3) := by decide +kernel
theorem dX11_where_14 : decode cX11_where 14 = .ok (.aload_n 0, 1) := by decide +kernel
theorem dX11_where_15 : decode cX11_where 15 = .ok (.iload_n 2, 1) := by decide +kernel
theorem dX11_where_16 : decode cX11_where 16 = .ok (.invokevirtual 203, 3) := by decide +kernel
theorem dX11_where_19 : decode cX11_where 19 = .ok (.ifCond .eq 7, 3) := by decide +kernel
theorem dX11_where_22 : decode cX11_where 22 = .ok (.iconst 1, 1) := by decide +kernel
theorem dX11_where_23 : decode cX11_where 23 = .ok (.goto 4, 3) := by decide +kernel
theorem dX11_where_26 : decode cX11_where 26 = .ok (.iconst 0, 1) := by decide +kernel
theorem dX11_where_27 : decode cX11_where 27 = .ok (.iconst 1, 1) := by decide +kernel
theorem dX11_where_28 : decode cX11_where 28 = .ok (.invokevirtual 190, 3) := by decide +kernel
theorem dX11_where_31 : decode cX11_where 31 = .ok (.ifCond .eq 5, 3) := by decide +kernel
theorem dX11_where_34 : decode cX11_where 34 = .ok (.iconst 0, 1) := by decide +kernel
theorem dX11_where_35 : decode cX11_where 35 = .ok (.ireturn, 1) := by decide +kernel
theorem dX11_where_36 : decode cX11_where 36 = .ok (.aload_n 0, 1) := by decide +kernel
theorem dX11_where_37 : decode cX11_where 37 = .ok (.aload_n 0, 1) := by decide +kernel
theorem dX11_where_38 : decode cX11_where 38 = .ok (.iload_n 2, 1) := by decide +kernel
theorem dX11_where_39 : decode cX11_where 39 = .ok (.iconst 0, 1) := by decide +kernel
theorem dX11_where_40 : decode cX11_where 40 = .ok (.invokevirtual 94, 3) := by decide +kernel
theorem dX11_where_43 : decode cX11_where 43 = .ok (.iload_n 1, 1) := by decide +kernel
theorem dX11_where_44 : decode cX11_where 44 = .ok (.invokevirtual 377, 3) := by decide +kernel
theorem dX11_where_47 : decode cX11_where 47 = .ok (.aload_n 0, 1) := by decide +kernel
theorem dX11_where_48 : decode cX11_where 48 = .ok (.getfield 365, 3) := by decide +kernel
theorem dX11_where_51 : decode cX11_where 51 = .ok (.ireturn, 1) := by decide +kernel
def VX11_where_27 (d : Nat) (Q : Out → MS → Prop) (x0 : Nat) (x1 : Int) (x2 : Int) (t0 : Int) (t1 : Nat) (S : MS) : Prop :=
  S.K t1 = 11 ∧ Mw hX11_throwsIf yX11_throwsIf d [vA t1, vI t0, vI 1] S (oI (fun r1 S1 => R32 r1 ∧ ((r1 = 0) → S1.K x0 = 11 ∧ Mw hX11_ofScale yX11_ofScale d [vA x0, vI x2, vI 0] S1 (oI (fun r2 S2 => S2.K x0 = 11 ∧ Mw hX11_walks yX11_walks d [vA x0, vI r2, vI x1] S2 (oV (fun S3 => S3.K x0 = 11 ∧ (Q (.inl (some (vI (S3.I x0 33)))) S3)))))) ∧ (¬ (r1 = 0) → Q (.inl (some (vI 0))) S1)))
theorem JX11_where_27 {d : Nat} {S0 : MS} {Q : Out → MS → Prop} (x0 : Nat) (x1 : Int) (x2 : Int) (t0 : Int) (t1 : Nat) (S : MS) (h : VX11_where_27 d Q x0 x1 x2 t0 t1 S) : Jw FinM RX11 cX11_where 3 (some .int) [] yX11_where (d + 1) S0 S 27 [(0, vA x0), (1, vI x1), (2, vI x2)] [vI t0, vA t1] Q :=
  j_iconst dX11_where_27 (j_callV (rest := []) 11 [vI t0, vI 1] k_RX11_190 ⟨w_7_191, p_4_7⟩ ⟨_, _, rfl⟩ (by decide) rfl rfl (Nat.le_of_ble_eq_true rfl) dX11_where_28 h (kI (fun r1 S1 h => j_if_eq (tgt := 36) dX11_where_31 (by decide) h (fun h => j_aload_n 0 dX11_where_36 rfl (j_aload_n 0 dX11_where_37 rfl (j_iload_n 2 dX11_where_38 rfl (j_iconst dX11_where_39 (j_callV (rest := [vA x0]) 11 [vI x2, vI 0] k_RX11_94 ⟨w_7_239, p_4_14⟩ ⟨_, _, rfl⟩ (by decide) rfl rfl (Nat.le_of_ble_eq_true rfl) dX11_where_40 h (kI (fun r2 S2 h => j_iload_n 1 dX11_where_43 rfl (j_callV (rest := []) 11 [vI r2, vI x1] k_RX11_377 ⟨w_9_38, p_7_3⟩ ⟨_, _, rfl⟩ (by decide) rfl rfl (Nat.le_of_ble_eq_true rfl) dX11_where_44 h (kV (fun S3 h => j_aload_n 0 dX11_where_47 rfl (j_getI 11 33 f_RX11_365 dX11_where_48 h (fun h => j_iret rfl dX11_where_51 h)))) (fun _ _ h => h.elim)))) (fun _ _ h => h.elim)))))) (fun h => j_iconst dX11_where_34 (j_iret rfl dX11_where_35 h)))) (fun _ _ h => h.elim))
def VX11_where_22 (d : Nat) (Q : Out → MS → Prop) (x0 : Nat) (x1 : Int) (x2 : Int) (t0 : Nat) (S : MS) : Prop :=
  VX11_where_27 d Q x0 x1 x2 1 t0 S
theorem JX11_where_22 {d : Nat} {S0 : MS} {Q : Out → MS → Prop} (x0 : Nat) (x1 : Int) (x2 : Int) (t0 : Nat) (S : MS) (h : VX11_where_22 d Q x0 x1 x2 t0 S) : Jw FinM RX11 cX11_where 3 (some .int) [] yX11_where (d + 1) S0 S 22 [(0, vA x0), (1, vI x1), (2, vI x2)] [vA t0] Q :=
  j_iconst dX11_where_22 (j_goto (tgt := 27) dX11_where_23 (by decide) (JX11_where_27 _ _ _ _ _ _ h))
def VX11_where_0 (d : Nat) (Q : Out → MS → Prop) (x0 : Nat) (x1 : Int) (x2 : Int) (S : MS) : Prop :=
  S.K x0 = 11 ∧ ((S.setI x0 0 0).K x0 = 11 ∧ Mw hX11_noThing yX11_noThing d [vA x0, vI x1] (S.setI x0 0 0) (oI (fun r1 S1 => R32 r1 ∧ (¬ (r1 = 0) → VX11_where_22 d Q x0 x1 x2 x0 S1) ∧ ((r1 = 0) → S1.K x0 = 11 ∧ Mw hX11_noScale yX11_noScale d [vA x0, vI x2] S1 (oI (fun r2 S2 => R32 r2 ∧ ((r2 = 0) → VX11_where_27 d Q x0 x1 x2 0 x0 S2) ∧ (¬ (r2 = 0) → VX11_where_22 d Q x0 x1 x2 x0 S2)))))))
theorem JX11_where_0 {d : Nat} {S0 : MS} {Q : Out → MS → Prop} (x0 : Nat) (x1 : Int) (x2 : Int) (S : MS) (h : VX11_where_0 d Q x0 x1 x2 S) : Jw FinM RX11 cX11_where 3 (some .int) [] yX11_where (d + 1) S0 S 0 [(0, vA x0), (1, vI x1), (2, vI x2)] [] Q :=
  j_aload_n 0 dX11_where_0 rfl (j_iconst dX11_where_1 (j_putI 11 0 f_RX11_3 dX11_where_2 h (fun h => j_aload_n 0 dX11_where_5 rfl (j_aload_n 0 dX11_where_6 rfl (j_iload_n 1 dX11_where_7 rfl (j_callV (rest := [vA x0]) 11 [vI x1] k_RX11_194 ⟨w_7_214, p_4_9⟩ ⟨_, _, rfl⟩ (by decide) rfl rfl (Nat.le_of_ble_eq_true rfl) dX11_where_8 h (kI (fun r1 S1 h => j_if_ne (tgt := 22) dX11_where_11 (by decide) h (fun h => JX11_where_22 _ _ _ _ _ h) (fun h => j_aload_n 0 dX11_where_14 rfl (j_iload_n 2 dX11_where_15 rfl (j_callV (rest := [vA x0]) 11 [vI x2] k_RX11_203 ⟨w_7_226, p_4_11⟩ ⟨_, _, rfl⟩ (by decide) rfl rfl (Nat.le_of_ble_eq_true rfl) dX11_where_16 h (kI (fun r2 S2 h => j_if_eq (tgt := 26) dX11_where_19 (by decide) h (fun h => j_iconst dX11_where_26 (JX11_where_27 _ _ _ _ _ _ h)) (fun h => JX11_where_22 _ _ _ _ _ h))) (fun _ _ h => h.elim)))))) (fun _ _ h => h.elim)))))))
theorem MX11_where {d : Nat} {x0 : Nat} {x1 : Int} {x2 : Int} {S : MS} {Q : Out → MS → Prop} (h : VX11_where_0 d Q x0 x1 x2 S) : Mw hX11_where yX11_where (d + 1) [vA x0, vI x1, vI x2] S Q := Mw.ofJ (by decide) (Nat.le_of_ble_eq_true rfl) (JX11_where_0 _ _ _ S h)
theorem dX11_cheapest_0 : decode cX11_cheapest 0 = .ok (.aload_n 0, 1) := by decide +kernel
theorem dX11_cheapest_1 : decode cX11_cheapest 1 = .ok (.iconst 0, 1) := by decide +kernel
theorem dX11_cheapest_2 : decode cX11_cheapest 2 = .ok (.putfield 3, 3) := by decide +kernel
theorem dX11_cheapest_5 : decode cX11_cheapest 5 = .ok (.iconst (-1), 1) := by decide +kernel
theorem dX11_cheapest_6 : decode cX11_cheapest 6 = .ok (.istore_n 2, 1) := by decide +kernel
theorem dX11_cheapest_7 : decode cX11_cheapest 7 = .ok (.iconst 0, 1) := by decide +kernel
theorem dX11_cheapest_8 : decode cX11_cheapest 8 = .ok (.istore_n 3, 1) := by decide +kernel
theorem dX11_cheapest_9 : decode cX11_cheapest 9 = .ok (.iconst 0, 1) := by decide +kernel
theorem dX11_cheapest_10 : decode cX11_cheapest 10 = .ok (.istore 4, 2) := by decide +kernel
theorem dX11_cheapest_12 : decode cX11_cheapest 12 = .ok (.iload 4, 2) := by decide +kernel
theorem dX11_cheapest_14 : decode cX11_cheapest 14 = .ok (.aload_n 0, 1) := by decide +kernel
theorem dX11_cheapest_15 : decode cX11_cheapest 15 = .ok (.getfield 13, 3) := by decide +kernel
theorem dX11_cheapest_18 : decode cX11_cheapest 18 = .ok (.iconst 1, 1) := by decide +kernel
theorem dX11_cheapest_19 : decode cX11_cheapest 19 = .ok (.iaload, 1) := by decide +kernel
theorem dX11_cheapest_20 : decode cX11_cheapest 20 = .ok (.if_icmp .ge 61, 3) := by decide +kernel
theorem dX11_cheapest_23 : decode cX11_cheapest 23 = .ok (.aload_n 0, 1) := by decide +kernel
theorem dX11_cheapest_24 : decode cX11_cheapest 24 = .ok (.aload_n 0, 1) := by decide +kernel
theorem dX11_cheapest_25 : decode cX11_cheapest 25 = .ok (.iload 4, 2) := by decide +kernel
theorem dX11_cheapest_27 : decode cX11_cheapest 27 = .ok (.iconst 0, 1) := by decide +kernel
theorem dX11_cheapest_28 : decode cX11_cheapest 28 = .ok (.invokevirtual 94, 3) := by decide +kernel
theorem dX11_cheapest_31 : decode cX11_cheapest 31 = .ok (.iconst (-1), 1) := by decide +kernel
theorem dX11_cheapest_32 : decode cX11_cheapest 32 = .ok (.invokevirtual 377, 3) := by decide +kernel
theorem dX11_cheapest_35 : decode cX11_cheapest 35 = .ok (.aload_n 0, 1) := by decide +kernel
theorem dX11_cheapest_36 : decode cX11_cheapest 36 = .ok (.iload 4, 2) := by decide +kernel
theorem dX11_cheapest_38 : decode cX11_cheapest 38 = .ok (.iconst 1, 1) := by decide +kernel
theorem dX11_cheapest_39 : decode cX11_cheapest 39 = .ok (.invokevirtual 94, 3) := by decide +kernel
theorem dX11_cheapest_42 : decode cX11_cheapest 42 = .ok (.aload_n 0, 1) := by decide +kernel
theorem dX11_cheapest_43 : decode cX11_cheapest 43 = .ok (.getfield 365, 3) := by decide +kernel
theorem dX11_cheapest_46 : decode cX11_cheapest 46 = .ok (.imul, 1) := by decide +kernel
theorem dX11_cheapest_47 : decode cX11_cheapest 47 = .ok (.istore 5, 2) := by decide +kernel
theorem dX11_cheapest_49 : decode cX11_cheapest 49 = .ok (.aload_n 0, 1) := by decide +kernel
theorem dX11_cheapest_50 : decode cX11_cheapest 50 = .ok (.getfield 371, 3) := by decide +kernel
theorem dX11_cheapest_53 : decode cX11_cheapest 53 = .ok (.ifCond .eq 22, 3) := by decide +kernel
theorem dX11_cheapest_56 : decode cX11_cheapest 56 = .ok (.iload_n 2, 1) := by decide +kernel
theorem dX11_cheapest_57 : decode cX11_cheapest 57 = .ok (.ifCond .lt 12, 3) := by decide +kernel
theorem dX11_cheapest_60 : decode cX11_cheapest 60 = .ok (.iload 5, 2) := by decide +kernel
theorem dX11_cheapest_62 : decode cX11_cheapest 62 = .ok (.iload_n 3, 1) := by decide +kernel
theorem dX11_cheapest_63 : decode cX11_cheapest 63 = .ok (.if_icmp .lt 6, 3) := by decide +kernel
theorem dX11_cheapest_66 : decode cX11_cheapest 66 = .ok (.goto 9, 3) := by decide +kernel
theorem dX11_cheapest_69 : decode cX11_cheapest 69 = .ok (.iload 4, 2) := by decide +kernel
theorem dX11_cheapest_71 : decode cX11_cheapest 71 = .ok (.istore_n 2, 1) := by decide +kernel
theorem dX11_cheapest_72 : decode cX11_cheapest 72 = .ok (.iload 5, 2) := by decide +kernel
theorem dX11_cheapest_74 : decode cX11_cheapest 74 = .ok (.istore_n 3, 1) := by decide +kernel
theorem dX11_cheapest_75 : decode cX11_cheapest 75 = .ok (.iinc 4 1, 3) := by decide +kernel
theorem dX11_cheapest_78 : decode cX11_cheapest 78 = .ok (.goto (-66), 3) := by decide +kernel
theorem dX11_cheapest_81 : decode cX11_cheapest 81 = .ok (.iload_n 2, 1) := by decide +kernel
theorem dX11_cheapest_82 : decode cX11_cheapest 82 = .ok (.ifCond .ge 7, 3) := by decide +kernel
theorem dX11_cheapest_85 : decode cX11_cheapest 85 = .ok (.iconst (-1), 1) := by decide +kernel
theorem dX11_cheapest_86 : decode cX11_cheapest 86 = .ok (.goto 12, 3) := by decide +kernel
theorem dX11_cheapest_89 : decode cX11_cheapest 89 = .ok (.iload_n 1, 1) := by decide +kernel
theorem dX11_cheapest_90 : decode cX11_cheapest 90 = .ok (.ifCond .eq 7, 3) := by decide +kernel
theorem dX11_cheapest_93 : decode cX11_cheapest 93 = .ok (.iload_n 3, 1) := by decide +kernel
theorem dX11_cheapest_94 : decode cX11_cheapest 94 = .ok (.goto 4, 3) := by decide +kernel
theorem dX11_cheapest_97 : decode cX11_cheapest 97 = .ok (.iload_n 2, 1) := by decide +kernel
theorem dX11_cheapest_98 : decode cX11_cheapest 98 = .ok (.ireturn, 1) := by decide +kernel
def VX11_cheapest_75 (d : Nat) (c12 : Nat → Int → Int → Int → Int → MS → Prop) (Q : Out → MS → Prop) (x0 : Nat) (x1 : Int) (x2 : Int) (x3 : Int) (x4 : Int) (S : MS) : Prop :=
  c12 x0 x1 x2 x3 (x4 + 1) S
theorem JX11_cheapest_75 {d : Nat} {c12 : Nat → Int → Int → Int → Int → MS → Prop} {S0 : MS} {Q : Out → MS → Prop} (hc12 : ∀ (x0 : Nat) (x1 : Int) (x2 : Int) (x3 : Int) (x4 : Int) (S : MS), c12 x0 x1 x2 x3 x4 S → Jw FinM RX11 cX11_cheapest 6 (some .int) [] yX11_cheapest (d + 1) S0 S 12 [(0, vA x0), (1, vI x1), (2, vI x2), (3, vI x3), (4, vI x4)] [] Q) (x0 : Nat) (x1 : Int) (x2 : Int) (x3 : Int) (x4 : Int) (S : MS) (h : VX11_cheapest_75 d c12 Q x0 x1 x2 x3 x4 S) : Jw FinM RX11 cX11_cheapest 6 (some .int) [] yX11_cheapest (d + 1) S0 S 75 [(0, vA x0), (1, vI x1), (2, vI x2), (3, vI x3), (4, vI x4)] [] Q :=
  j_iinc 4 (lv2 := [(4, vI (x4 + 1)), (0, vA x0), (1, vI x1), (2, vI x2), (3, vI x3)]) dX11_cheapest_75 rfl (by decide) rfl (j_goto (tgt := 12) dX11_cheapest_78 (by decide) (j_sub [1, 2, 3, 4, 0] rfl (hc12 _ _ _ _ _ _ h)))
def VX11_cheapest_69 (d : Nat) (c12 : Nat → Int → Int → Int → Int → MS → Prop) (Q : Out → MS → Prop) (x0 : Nat) (x1 : Int) (x4 : Int) (x5 : Int) (S : MS) : Prop :=
  VX11_cheapest_75 d c12 Q x0 x1 x4 x5 x4 S
theorem JX11_cheapest_69 {d : Nat} {c12 : Nat → Int → Int → Int → Int → MS → Prop} {S0 : MS} {Q : Out → MS → Prop} (hc12 : ∀ (x0 : Nat) (x1 : Int) (x2 : Int) (x3 : Int) (x4 : Int) (S : MS), c12 x0 x1 x2 x3 x4 S → Jw FinM RX11 cX11_cheapest 6 (some .int) [] yX11_cheapest (d + 1) S0 S 12 [(0, vA x0), (1, vI x1), (2, vI x2), (3, vI x3), (4, vI x4)] [] Q) (x0 : Nat) (x1 : Int) (x4 : Int) (x5 : Int) (S : MS) (h : VX11_cheapest_69 d c12 Q x0 x1 x4 x5 S) : Jw FinM RX11 cX11_cheapest 6 (some .int) [] yX11_cheapest (d + 1) S0 S 69 [(0, vA x0), (1, vI x1), (4, vI x4), (5, vI x5)] [] Q :=
  j_iload 2 dX11_cheapest_69 rfl (j_istore_n (lv2 := [(2, vI x4), (0, vA x0), (1, vI x1), (4, vI x4), (5, vI x5)]) dX11_cheapest_71 (by decide) rfl (j_iload 4 dX11_cheapest_72 rfl (j_istore_n (lv2 := [(3, vI x5), (2, vI x4), (0, vA x0), (1, vI x1), (4, vI x4), (5, vI x5)]) dX11_cheapest_74 (by decide) rfl (j_sub [2, 3, 1, 0, 4] rfl (JX11_cheapest_75 hc12 _ _ _ _ _ _ h)))))
def VX11_cheapest_12 (d : Nat) (Q : Out → MS → Prop) : Nat → Nat → Int → Int → Int → Int → MS → Prop
  | 0, _, _, _, _, _, _ => False
  | n + 1, x0, x1, x2, x3, x4, S => S.K x0 = 11 ∧ ∃ b1, S.R x0 1 = some b1 ∧ ((S.K b1 = 13 ∧ 0 ≤ (1 : Int) ∧ (1 : Int) < S.N b1) ∧ ((R32 x4 ∧ R32 (S.I b1 ((1 : Int)).toNat)) ∧ (((S.I b1 ((1 : Int)).toNat) ≤ x4) → R32 x2 ∧ ((0 ≤ x2) → R32 x1 ∧ ((x1 = 0) → Q (.inl (some (vI x2))) S) ∧ (¬ (x1 = 0) → Q (.inl (some (vI x3))) S)) ∧ (¬ (0 ≤ x2) → Q (.inl (some (vI ((-1))))) S)) ∧ (¬ ((S.I b1 ((1 : Int)).toNat) ≤ x4) → S.K x0 = 11 ∧ Mw hX11_ofScale yX11_ofScale d [vA x0, vI x4, vI 0] S (oI (fun r2 S2 => S2.K x0 = 11 ∧ Mw hX11_walks yX11_walks d [vA x0, vI r2, vI ((-1))] S2 (oV (fun S3 => S3.K x0 = 11 ∧ Mw hX11_ofScale yX11_ofScale d [vA x0, vI x4, vI 1] S3 (oI (fun r4 S4 => S4.K x0 = 11 ∧ (S4.K x0 = 11 ∧ (R32 (S4.I x0 35) ∧ (((S4.I x0 35) = 0) → VX11_cheapest_75 d (VX11_cheapest_12 d Q n) Q x0 x1 x2 x3 x4 S4) ∧ (¬ ((S4.I x0 35) = 0) → R32 x2 ∧ ((x2 < 0) → VX11_cheapest_69 d (VX11_cheapest_12 d Q n) Q x0 x1 x4 (r4 * (S4.I x0 33)) S4) ∧ (¬ (x2 < 0) → (R32 (r4 * (S4.I x0 33)) ∧ R32 x3) ∧ (((r4 * (S4.I x0 33)) < x3) → VX11_cheapest_69 d (VX11_cheapest_12 d Q n) Q x0 x1 x4 (r4 * (S4.I x0 33)) S4) ∧ (¬ ((r4 * (S4.I x0 33)) < x3) → VX11_cheapest_75 d (VX11_cheapest_12 d Q n) Q x0 x1 x2 x3 x4 S4))))))))))))))
theorem JX11_cheapest_12 {d : Nat} {S0 : MS} {Q : Out → MS → Prop} : ∀ (n : Nat) (x0 : Nat) (x1 : Int) (x2 : Int) (x3 : Int) (x4 : Int) (S : MS), VX11_cheapest_12 d Q n x0 x1 x2 x3 x4 S → Jw FinM RX11 cX11_cheapest 6 (some .int) [] yX11_cheapest (d + 1) S0 S 12 [(0, vA x0), (1, vI x1), (2, vI x2), (3, vI x3), (4, vI x4)] [] Q := by
  intro n
  induction n with
  | zero => intro x0 x1 x2 x3 x4 S h; exact h.elim
  | succ n ih =>
    intro x0 x1 x2 x3 x4 S h
    exact j_iload 4 dX11_cheapest_12 rfl (j_aload_n 0 dX11_cheapest_14 rfl (j_getR 11 1 f_RX11_13 dX11_cheapest_15 h (fun b1 h => j_iconst dX11_cheapest_18 (j_iald dX11_cheapest_19 h (fun h => j_icmp_ge (tgt := 81) dX11_cheapest_20 (by decide) h (fun h => j_iload_n 2 dX11_cheapest_81 rfl (j_if_ge (tgt := 89) dX11_cheapest_82 (by decide) h (fun h => j_iload_n 1 dX11_cheapest_89 rfl (j_if_eq (tgt := 97) dX11_cheapest_90 (by decide) h (fun h => j_iload_n 2 dX11_cheapest_97 rfl (j_iret rfl dX11_cheapest_98 h)) (fun h => j_iload_n 3 dX11_cheapest_93 rfl (j_goto (tgt := 98) dX11_cheapest_94 (by decide) (j_iret rfl dX11_cheapest_98 h))))) (fun h => j_iconst dX11_cheapest_85 (j_goto (tgt := 98) dX11_cheapest_86 (by decide) (j_iret rfl dX11_cheapest_98 h))))) (fun h => j_aload_n 0 dX11_cheapest_23 rfl (j_aload_n 0 dX11_cheapest_24 rfl (j_iload 4 dX11_cheapest_25 rfl (j_iconst dX11_cheapest_27 (j_callV (rest := [vA x0]) 11 [vI x4, vI 0] k_RX11_94 ⟨w_7_239, p_4_14⟩ ⟨_, _, rfl⟩ (by decide) rfl rfl (Nat.le_of_ble_eq_true rfl) dX11_cheapest_28 h (kI (fun r2 S2 h => j_iconst dX11_cheapest_31 (j_callV (rest := []) 11 [vI r2, vI ((-1))] k_RX11_377 ⟨w_9_38, p_7_3⟩ ⟨_, _, rfl⟩ (by decide) rfl rfl (Nat.le_of_ble_eq_true rfl) dX11_cheapest_32 h (kV (fun S3 h => j_aload_n 0 dX11_cheapest_35 rfl (j_iload 4 dX11_cheapest_36 rfl (j_iconst dX11_cheapest_38 (j_callV (rest := []) 11 [vI x4, vI 1] k_RX11_94 ⟨w_7_239, p_4_14⟩ ⟨_, _, rfl⟩ (by decide) rfl rfl (Nat.le_of_ble_eq_true rfl) dX11_cheapest_39 h (kI (fun r4 S4 h => j_aload_n 0 dX11_cheapest_42 rfl (j_getI 11 33 f_RX11_365 dX11_cheapest_43 h (fun h => j_imul dX11_cheapest_46 (j_istore (lv2 := [(5, vI (r4 * (S4.I x0 33))), (0, vA x0), (1, vI x1), (2, vI x2), (3, vI x3), (4, vI x4)]) dX11_cheapest_47 (by decide) rfl (j_aload_n 1 dX11_cheapest_49 rfl (j_getI 11 35 f_RX11_371 dX11_cheapest_50 h (fun h => j_if_eq (tgt := 75) dX11_cheapest_53 (by decide) h (fun h => j_sub [1, 2, 3, 4, 5] rfl (JX11_cheapest_75 ih _ _ _ _ _ _ h)) (fun h => j_iload_n 3 dX11_cheapest_56 rfl (j_if_lt (tgt := 69) dX11_cheapest_57 (by decide) h (fun h => j_sub [1, 2, 5, 0] rfl (JX11_cheapest_69 ih _ _ _ _ _ h)) (fun h => j_iload 0 dX11_cheapest_60 rfl (j_iload_n 4 dX11_cheapest_62 rfl (j_icmp_lt (tgt := 69) dX11_cheapest_63 (by decide) h (fun h => j_sub [1, 2, 5, 0] rfl (JX11_cheapest_69 ih _ _ _ _ _ h)) (fun h => j_goto (tgt := 75) dX11_cheapest_66 (by decide) (j_sub [1, 2, 3, 4, 5] rfl (JX11_cheapest_75 ih _ _ _ _ _ _ h)))))))))))))))) (fun _ _ h => h.elim)))))) (fun _ _ h => h.elim)))) (fun _ _ h => h.elim)))))))))))
def VX11_cheapest_0 (d : Nat) (Q : Out → MS → Prop) (x0 : Nat) (x1 : Int) (S : MS) : Prop :=
  S.K x0 = 11 ∧ (∃ m, VX11_cheapest_12 d Q m x0 x1 ((-1)) 0 0 (S.setI x0 0 0))
theorem JX11_cheapest_0 {d : Nat} {S0 : MS} {Q : Out → MS → Prop} (x0 : Nat) (x1 : Int) (S : MS) (h : VX11_cheapest_0 d Q x0 x1 S) : Jw FinM RX11 cX11_cheapest 6 (some .int) [] yX11_cheapest (d + 1) S0 S 0 [(0, vA x0), (1, vI x1)] [] Q :=
  j_aload_n 0 dX11_cheapest_0 rfl (j_iconst dX11_cheapest_1 (j_putI 11 0 f_RX11_3 dX11_cheapest_2 h (fun h => j_iconst dX11_cheapest_5 (j_istore_n (lv2 := [(2, vI ((-1))), (0, vA x0), (1, vI x1)]) dX11_cheapest_6 (by decide) rfl (j_iconst dX11_cheapest_7 (j_istore_n (lv2 := [(3, vI 0), (2, vI ((-1))), (0, vA x0), (1, vI x1)]) dX11_cheapest_8 (by decide) rfl (j_iconst dX11_cheapest_9 (j_istore (lv2 := [(4, vI 0), (3, vI 0), (2, vI ((-1))), (0, vA x0), (1, vI x1)]) dX11_cheapest_10 (by decide) rfl (Exists.elim h (fun m h => j_sub [3, 4, 2, 1, 0] rfl (JX11_cheapest_12 m _ _ _ _ _ _ h)))))))))))
theorem MX11_cheapest {d : Nat} {x0 : Nat} {x1 : Int} {S : MS} {Q : Out → MS → Prop} (h : VX11_cheapest_0 d Q x0 x1 S) : Mw hX11_cheapest yX11_cheapest (d + 1) [vA x0, vI x1] S Q := Mw.ofJ (by decide) (Nat.le_of_ble_eq_true rfl) (JX11_cheapest_0 _ _ S h)
theorem dX11_tree_0 : decode cX11_tree 0 = .ok (.aload_n 0, 1) := by decide +kernel
theorem dX11_tree_1 : decode cX11_tree 1 = .ok (.invokevirtual 184, 3) := by decide +kernel
theorem dX11_tree_4 : decode cX11_tree 4 = .ok (.aload_n 0, 1) := by decide +kernel
theorem dX11_tree_5 : decode cX11_tree 5 = .ok (.aload_n 0, 1) := by decide +kernel
theorem dX11_tree_6 : decode cX11_tree 6 = .ok (.iload_n 1, 1) := by decide +kernel
theorem dX11_tree_7 : decode cX11_tree 7 = .ok (.invokevirtual 203, 3) := by decide +kernel
theorem dX11_tree_10 : decode cX11_tree 10 = .ok (.iconst 1, 1) := by decide +kernel
theorem dX11_tree_11 : decode cX11_tree 11 = .ok (.invokevirtual 190, 3) := by decide +kernel
theorem dX11_tree_14 : decode cX11_tree 14 = .ok (.ifCond .eq 5, 3) := by decide +kernel
theorem dX11_tree_17 : decode cX11_tree 17 = .ok (.iconst 0, 1) := by decide +kernel
theorem dX11_tree_18 : decode cX11_tree 18 = .ok (.ireturn, 1) := by decide +kernel
theorem dX11_tree_19 : decode cX11_tree 19 = .ok (.aload_n 0, 1) := by decide +kernel
theorem dX11_tree_20 : decode cX11_tree 20 = .ok (.iload_n 1, 1) := by decide +kernel
theorem dX11_tree_21 : decode cX11_tree 21 = .ok (.iconst 0, 1) := by decide +kernel
theorem dX11_tree_22 : decode cX11_tree 22 = .ok (.invokevirtual 94, 3) := by decide +kernel
theorem dX11_tree_25 : decode cX11_tree 25 = .ok (.istore_n 3, 1) := by decide +kernel
theorem dX11_tree_26 : decode cX11_tree 26 = .ok (.aload_n 0, 1) := by decide +kernel
theorem dX11_tree_27 : decode cX11_tree 27 = .ok (.invokevirtual 253, 3) := by decide +kernel
theorem dX11_tree_30 : decode cX11_tree 30 = .ok (.aload_n 0, 1) := by decide +kernel
theorem dX11_tree_31 : decode cX11_tree 31 = .ok (.iconst 0, 1) := by decide +kernel
theorem dX11_tree_32 : decode cX11_tree 32 = .ok (.iload_n 3, 1) := by decide +kernel
theorem dX11_tree_33 : decode cX11_tree 33 = .ok (.invokevirtual 362, 3) := by decide +kernel
theorem dX11_tree_36 : decode cX11_tree 36 = .ok (.istore 4, 2) := by decide +kernel
theorem dX11_tree_38 : decode cX11_tree 38 = .ok (.iconst 0, 1) := by decide +kernel
theorem dX11_tree_39 : decode cX11_tree 39 = .ok (.istore 5, 2) := by decide +kernel
theorem dX11_tree_41 : decode cX11_tree 41 = .ok (.iload 5, 2) := by decide +kernel
theorem dX11_tree_43 : decode cX11_tree 43 = .ok (.aload_n 0, 1) := by decide +kernel
theorem dX11_tree_44 : decode cX11_tree 44 = .ok (.getfield 116, 3) := by decide +kernel
theorem dX11_tree_47 : decode cX11_tree 47 = .ok (.if_icmp .ge 82, 3) := by decide +kernel
theorem dX11_tree_50 : decode cX11_tree 50 = .ok (.aload_n 0, 1) := by decide +kernel
theorem dX11_tree_51 : decode cX11_tree 51 = .ok (.getfield 23, 3) := by decide +kernel
theorem dX11_tree_54 : decode cX11_tree 54 = .ok (.iload 5, 2) := by decide +kernel
theorem dX11_tree_56 : decode cX11_tree 56 = .ok (.baload, 1) := by decide +kernel
theorem dX11_tree_57 : decode cX11_tree 57 = .ok (.bipush 48, 2) := by decide +kernel
theorem dX11_tree_59 : decode cX11_tree 59 = .ok (.isub, 1) := by decide +kernel
theorem dX11_tree_60 : decode cX11_tree 60 = .ok (.istore 6, 2) := by decide +kernel
theorem dX11_tree_62 : decode cX11_tree 62 = .ok (.aload_n 0, 1) := by decide +kernel
theorem dX11_tree_63 : decode cX11_tree 63 = .ok (.iload 4, 2) := by decide +kernel
theorem dX11_tree_65 : decode cX11_tree 65 = .ok (.ifCond .lt 22, 3) := by decide +kernel
theorem dX11_tree_68 : decode cX11_tree 68 = .ok (.aload_n 0, 1) := by decide +kernel
theorem dX11_tree_69 : decode cX11_tree 69 = .ok (.iload 6, 2) := by decide +kernel
theorem dX11_tree_71 : decode cX11_tree 71 = .ok (.invokevirtual 194, 3) := by decide +kernel
theorem dX11_tree_74 : decode cX11_tree 74 = .ok (.ifCond .ne 13, 3) := by decide +kernel
theorem dX11_tree_77 : decode cX11_tree 77 = .ok (.iload 4, 2) := by decide +kernel
theorem dX11_tree_79 : decode cX11_tree 79 = .ok (.iload 6, 2) := by decide +kernel
theorem dX11_tree_81 : decode cX11_tree 81 = .ok (.ishr, 1) := by decide +kernel
theorem dX11_tree_82 : decode cX11_tree 82 = .ok (.iconst 1, 1) := by decide +kernel
theorem dX11_tree_83 : decode cX11_tree 83 = .ok (.iand, 1) := by decide +kernel
theorem dX11_tree_84 : decode cX11_tree 84 = .ok (.ifCond .ne 7, 3) := by decide +kernel
theorem dX11_tree_87 : decode cX11_tree 87 = .ok (.iconst 1, 1) := by decide +kernel
theorem dX11_tree_88 : decode cX11_tree 88 = .ok (.goto 4, 3) := by decide +kernel
theorem dX11_tree_91 : decode cX11_tree 91 = .ok (.iconst 0, 1) := by decide +kernel
theorem dX11_tree_92 : decode cX11_tree 92 = .ok (.iconst 2, 1) := by decide +kernel
theorem dX11_tree_93 : decode cX11_tree 93 = .ok (.invokevirtual 190, 3) := by decide +kernel
theorem dX11_tree_96 : decode cX11_tree 96 = .ok (.ifCond .eq 5, 3) := by decide +kernel
theorem dX11_tree_99 : decode cX11_tree 99 = .ok (.iconst 0, 1) := by decide +kernel
theorem dX11_tree_100 : decode cX11_tree 100 = .ok (.ireturn, 1) := by decide +kernel
theorem dX11_tree_101 : decode cX11_tree 101 = .ok (.aload_n 0, 1) := by decide +kernel
theorem dX11_tree_102 : decode cX11_tree 102 = .ok (.iconst 0, 1) := by decide +kernel
theorem dX11_tree_103 : decode cX11_tree 103 = .ok (.iload_n 3, 1) := by decide +kernel
theorem dX11_tree_104 : decode cX11_tree 104 = .ok (.iload 4, 2) := by decide +kernel
theorem dX11_tree_106 : decode cX11_tree 106 = .ok (.iload 6, 2) := by decide +kernel
theorem dX11_tree_108 : decode cX11_tree 108 = .ok (.invokevirtual 352, 3) := by decide +kernel
theorem dX11_tree_111 : decode cX11_tree 111 = .ok (.aload_n 0, 1) := by decide +kernel
theorem dX11_tree_112 : decode cX11_tree 112 = .ok (.invokevirtual 381, 3) := by decide +kernel
theorem dX11_tree_115 : decode cX11_tree 115 = .ok (.aload_n 0, 1) := by decide +kernel
theorem dX11_tree_116 : decode cX11_tree 116 = .ok (.iconst 0, 1) := by decide +kernel
theorem dX11_tree_117 : decode cX11_tree 117 = .ok (.iload_n 3, 1) := by decide +kernel
theorem dX11_tree_118 : decode cX11_tree 118 = .ok (.invokevirtual 362, 3) := by decide +kernel
theorem dX11_tree_121 : decode cX11_tree 121 = .ok (.istore 4, 2) := by decide +kernel
theorem dX11_tree_123 : decode cX11_tree 123 = .ok (.iinc 5 1, 3) := by decide +kernel
theorem dX11_tree_126 : decode cX11_tree 126 = .ok (.goto (-85), 3) := by decide +kernel
theorem dX11_tree_129 : decode cX11_tree 129 = .ok (.iload_n 2, 1) := by decide +kernel
theorem dX11_tree_130 : decode cX11_tree 130 = .ok (.ifCond .eq 8, 3) := by decide +kernel
theorem dX11_tree_133 : decode cX11_tree 133 = .ok (.iload 4, 2) := by decide +kernel
theorem dX11_tree_135 : decode cX11_tree 135 = .ok (.goto 9, 3) := by decide +kernel
theorem dX11_tree_138 : decode cX11_tree 138 = .ok (.aload_n 0, 1) := by decide +kernel
theorem dX11_tree_139 : decode cX11_tree 139 = .ok (.getfield 45, 3) := by decide +kernel
theorem dX11_tree_142 : decode cX11_tree 142 = .ok (.iconst 0, 1) := by decide +kernel
theorem dX11_tree_143 : decode cX11_tree 143 = .ok (.iaload, 1) := by decide +kernel
theorem dX11_tree_144 : decode cX11_tree 144 = .ok (.ireturn, 1) := by decide +kernel
def VX11_tree_92 (d : Nat) (c41 : Nat → Int → Int → Int → Int → MS → Prop) (Q : Out → MS → Prop) (x0 : Nat) (x2 : Int) (x3 : Int) (x4 : Int) (x5 : Int) (x6 : Int) (t0 : Int) (t1 : Nat) (S : MS) : Prop :=
  S.K t1 = 11 ∧ Mw hX11_throwsIf yX11_throwsIf d [vA t1, vI t0, vI 2] S (oI (fun r1 S1 => R32 r1 ∧ ((r1 = 0) → S1.K x0 = 11 ∧ Mw hX11_parts yX11_parts d [vA x0, vI 0, vI x3, vI x4, vI x6] S1 (oV (fun S2 => S2.K x0 = 11 ∧ Mw hX11_takesNext yX11_takesNext d [vA x0] S2 (oV (fun S3 => S3.K x0 = 11 ∧ Mw hX11_laidFor yX11_laidFor d [vA x0, vI 0, vI x3] S3 (oI (fun r4 S4 => c41 x0 x2 x3 r4 (x5 + 1) S4))))))) ∧ (¬ (r1 = 0) → Q (.inl (some (vI 0))) S1)))
theorem JX11_tree_92 {d : Nat} {c41 : Nat → Int → Int → Int → Int → MS → Prop} {S0 : MS} {Q : Out → MS → Prop} (hc41 : ∀ (x0 : Nat) (x2 : Int) (x3 : Int) (x4 : Int) (x5 : Int) (S : MS), c41 x0 x2 x3 x4 x5 S → Jw FinM RX11 cX11_tree 7 (some .int) [] yX11_tree (d + 1) S0 S 41 [(0, vA x0), (2, vI x2), (3, vI x3), (4, vI x4), (5, vI x5)] [] Q) (x0 : Nat) (x2 : Int) (x3 : Int) (x4 : Int) (x5 : Int) (x6 : Int) (t0 : Int) (t1 : Nat) (S : MS) (h : VX11_tree_92 d c41 Q x0 x2 x3 x4 x5 x6 t0 t1 S) : Jw FinM RX11 cX11_tree 7 (some .int) [] yX11_tree (d + 1) S0 S 92 [(0, vA x0), (2, vI x2), (3, vI x3), (4, vI x4), (5, vI x5), (6, vI x6)] [vI t0, vA t1] Q :=
  j_iconst dX11_tree_92 (j_callV (rest := []) 11 [vI t0, vI 2] k_RX11_190 ⟨w_7_191, p_4_7⟩ ⟨_, _, rfl⟩ (by decide) rfl rfl (Nat.le_of_ble_eq_true rfl) dX11_tree_93 h (kI (fun r1 S1 h => j_if_eq (tgt := 101) dX11_tree_96 (by decide) h (fun h => j_aload_n 0 dX11_tree_101 rfl (j_iconst dX11_tree_102 (j_iload_n 2 dX11_tree_103 rfl (j_iload 3 dX11_tree_104 rfl (j_iload 5 dX11_tree_106 rfl (j_callV (rest := []) 11 [vI 0, vI x3, vI x4, vI x6] k_RX11_352 ⟨w_9_26, p_7_2⟩ ⟨_, _, rfl⟩ (by decide) rfl rfl (Nat.le_of_ble_eq_true rfl) dX11_tree_108 h (kV (fun S2 h => j_aload_n 0 dX11_tree_111 rfl (j_callV (rest := []) 11 [] k_RX11_381 ⟨w_9_70, p_7_7⟩ ⟨_, _, rfl⟩ (by decide) rfl rfl (Nat.le_of_ble_eq_true rfl) dX11_tree_112 h (kV (fun S3 h => j_aload_n 0 dX11_tree_115 rfl (j_iconst dX11_tree_116 (j_iload_n 2 dX11_tree_117 rfl (j_callV (rest := []) 11 [vI 0, vI x3] k_RX11_362 ⟨w_9_50, p_7_6⟩ ⟨_, _, rfl⟩ (by decide) rfl rfl (Nat.le_of_ble_eq_true rfl) dX11_tree_118 h (kI (fun r4 S4 h => j_istore (lv2 := [(4, vI r4), (0, vA x0), (2, vI x2), (3, vI x3), (5, vI x5), (6, vI x6)]) dX11_tree_121 (by decide) rfl (j_iinc 4 (lv2 := [(5, vI (x5 + 1)), (4, vI r4), (0, vA x0), (2, vI x2), (3, vI x3), (6, vI x6)]) dX11_tree_123 rfl (by decide) rfl (j_goto (tgt := 41) dX11_tree_126 (by decide) (j_sub [2, 3, 4, 1, 0] rfl (hc41 _ _ _ _ _ _ h)))))) (fun _ _ h => h.elim)))))) (fun _ _ h => h.elim)))) (fun _ _ h => h.elim))))))) (fun h => j_iconst dX11_tree_99 (j_iret rfl dX11_tree_100 h)))) (fun _ _ h => h.elim))
def VX11_tree_87 (d : Nat) (c41 : Nat → Int → Int → Int → Int → MS → Prop) (Q : Out → MS → Prop) (x0 : Nat) (x2 : Int) (x3 : Int) (x4 : Int) (x5 : Int) (x6 : Int) (t0 : Nat) (S : MS) : Prop :=
  VX11_tree_92 d c41 Q x0 x2 x3 x4 x5 x6 1 t0 S
theorem JX11_tree_87 {d : Nat} {c41 : Nat → Int → Int → Int → Int → MS → Prop} {S0 : MS} {Q : Out → MS → Prop} (hc41 : ∀ (x0 : Nat) (x2 : Int) (x3 : Int) (x4 : Int) (x5 : Int) (S : MS), c41 x0 x2 x3 x4 x5 S → Jw FinM RX11 cX11_tree 7 (some .int) [] yX11_tree (d + 1) S0 S 41 [(0, vA x0), (2, vI x2), (3, vI x3), (4, vI x4), (5, vI x5)] [] Q) (x0 : Nat) (x2 : Int) (x3 : Int) (x4 : Int) (x5 : Int) (x6 : Int) (t0 : Nat) (S : MS) (h : VX11_tree_87 d c41 Q x0 x2 x3 x4 x5 x6 t0 S) : Jw FinM RX11 cX11_tree 7 (some .int) [] yX11_tree (d + 1) S0 S 87 [(0, vA x0), (2, vI x2), (3, vI x3), (4, vI x4), (5, vI x5), (6, vI x6)] [vA t0] Q :=
  j_iconst dX11_tree_87 (j_goto (tgt := 92) dX11_tree_88 (by decide) (JX11_tree_92 hc41 _ _ _ _ _ _ _ _ _ h))
def VX11_tree_41 (d : Nat) (Q : Out → MS → Prop) : Nat → Nat → Int → Int → Int → Int → MS → Prop
  | 0, _, _, _, _, _, _ => False
  | n + 1, x0, x2, x3, x4, x5, S => S.K x0 = 11 ∧ ((R32 x5 ∧ R32 (S.I x0 8)) ∧ (((S.I x0 8) ≤ x5) → R32 x2 ∧ ((x2 = 0) → S.K x0 = 11 ∧ ∃ b1, S.R x0 17 = some b1 ∧ ((S.K b1 = 13 ∧ 0 ≤ (0 : Int) ∧ (0 : Int) < S.N b1) ∧ (Q (.inl (some (vI (S.I b1 ((0 : Int)).toNat)))) S))) ∧ (¬ (x2 = 0) → Q (.inl (some (vI x4))) S)) ∧ (¬ ((S.I x0 8) ≤ x5) → S.K x0 = 11 ∧ ∃ b2, S.R x0 5 = some b2 ∧ ((S.K b2 = 12 ∧ 0 ≤ x5 ∧ x5 < S.N b2) ∧ (R32 x4 ∧ ((x4 < 0) → VX11_tree_87 d (VX11_tree_41 d Q n) Q x0 x2 x3 x4 x5 ((S.I b2 (x5).toNat) - 48) x0 S) ∧ (¬ (x4 < 0) → S.K x0 = 11 ∧ Mw hX11_noThing yX11_noThing d [vA x0, vI ((S.I b2 (x5).toNat) - 48)] S (oI (fun r3 S3 => R32 r3 ∧ (¬ (r3 = 0) → VX11_tree_87 d (VX11_tree_41 d Q n) Q x0 x2 x3 x4 x5 ((S.I b2 (x5).toNat) - 48) x0 S3) ∧ ((r3 = 0) → R32 (iAnd (iShr x4 ((S.I b2 (x5).toNat) - 48)) 1) ∧ (¬ ((iAnd (iShr x4 ((S.I b2 (x5).toNat) - 48)) 1) = 0) → VX11_tree_92 d (VX11_tree_41 d Q n) Q x0 x2 x3 x4 x5 ((S.I b2 (x5).toNat) - 48) 0 x0 S3) ∧ (((iAnd (iShr x4 ((S.I b2 (x5).toNat) - 48)) 1) = 0) → VX11_tree_87 d (VX11_tree_41 d Q n) Q x0 x2 x3 x4 x5 ((S.I b2 (x5).toNat) - 48) x0 S3)))))))))
theorem JX11_tree_41 {d : Nat} {S0 : MS} {Q : Out → MS → Prop} : ∀ (n : Nat) (x0 : Nat) (x2 : Int) (x3 : Int) (x4 : Int) (x5 : Int) (S : MS), VX11_tree_41 d Q n x0 x2 x3 x4 x5 S → Jw FinM RX11 cX11_tree 7 (some .int) [] yX11_tree (d + 1) S0 S 41 [(0, vA x0), (2, vI x2), (3, vI x3), (4, vI x4), (5, vI x5)] [] Q := by
  intro n
  induction n with
  | zero => intro x0 x2 x3 x4 x5 S h; exact h.elim
  | succ n ih =>
    intro x0 x2 x3 x4 x5 S h
    exact j_iload 4 dX11_tree_41 rfl (j_aload_n 0 dX11_tree_43 rfl (j_getI 11 8 f_RX11_116 dX11_tree_44 h (fun h => j_icmp_ge (tgt := 129) dX11_tree_47 (by decide) h (fun h => j_iload_n 1 dX11_tree_129 rfl (j_if_eq (tgt := 138) dX11_tree_130 (by decide) h (fun h => j_aload_n 0 dX11_tree_138 rfl (j_getR 11 17 f_RX11_45 dX11_tree_139 h (fun b1 h => j_iconst dX11_tree_142 (j_iald dX11_tree_143 h (fun h => j_iret rfl dX11_tree_144 h))))) (fun h => j_iload 3 dX11_tree_133 rfl (j_goto (tgt := 144) dX11_tree_135 (by decide) (j_iret rfl dX11_tree_144 h))))) (fun h => j_aload_n 0 dX11_tree_50 rfl (j_getR 11 5 f_RX11_23 dX11_tree_51 h (fun b2 h => j_iload 4 dX11_tree_54 rfl (j_bald dX11_tree_56 h (fun h => j_bipush dX11_tree_57 rfl (j_isub dX11_tree_59 (j_istore (lv2 := [(6, vI ((S.I b2 (x5).toNat) - 48)), (0, vA x0), (2, vI x2), (3, vI x3), (4, vI x4), (5, vI x5)]) dX11_tree_60 (by decide) rfl (j_aload_n 1 dX11_tree_62 rfl (j_iload 4 dX11_tree_63 rfl (j_if_lt (tgt := 87) dX11_tree_65 (by decide) h (fun h => j_sub [1, 2, 3, 4, 5, 0] rfl (JX11_tree_87 ih _ _ _ _ _ _ _ _ h)) (fun h => j_aload_n 1 dX11_tree_68 rfl (j_iload 0 dX11_tree_69 rfl (j_callV (rest := [vA x0]) 11 [vI ((S.I b2 (x5).toNat) - 48)] k_RX11_194 ⟨w_7_214, p_4_9⟩ ⟨_, _, rfl⟩ (by decide) rfl rfl (Nat.le_of_ble_eq_true rfl) dX11_tree_71 h (kI (fun r3 S3 h => j_if_ne (tgt := 87) dX11_tree_74 (by decide) h (fun h => j_sub [1, 2, 3, 4, 5, 0] rfl (JX11_tree_87 ih _ _ _ _ _ _ _ _ h)) (fun h => j_iload 4 dX11_tree_77 rfl (j_iload 0 dX11_tree_79 rfl (j_ishr dX11_tree_81 (j_iconst dX11_tree_82 (j_iand dX11_tree_83 (j_if_ne (tgt := 91) dX11_tree_84 (by decide) h (fun h => j_iconst dX11_tree_91 (j_sub [1, 2, 3, 4, 5, 0] rfl (JX11_tree_92 ih _ _ _ _ _ _ _ _ _ h))) (fun h => j_sub [1, 2, 3, 4, 5, 0] rfl (JX11_tree_87 ih _ _ _ _ _ _ _ _ h)))))))))) (fun _ _ h => h.elim)))))))))))))))))
def VX11_tree_0 (d : Nat) (Q : Out → MS → Prop) (x0 : Nat) (x1 : Int) (x2 : Int) (S : MS) : Prop :=
  S.K x0 = 11 ∧ Mw hX11_uses yX11_uses d [vA x0] S (oV (fun S1 => S1.K x0 = 11 ∧ Mw hX11_noScale yX11_noScale d [vA x0, vI x1] S1 (oI (fun r2 S2 => S2.K x0 = 11 ∧ Mw hX11_throwsIf yX11_throwsIf d [vA x0, vI r2, vI 1] S2 (oI (fun r3 S3 => R32 r3 ∧ ((r3 = 0) → S3.K x0 = 11 ∧ Mw hX11_ofScale yX11_ofScale d [vA x0, vI x1, vI 0] S3 (oI (fun r4 S4 => S4.K x0 = 11 ∧ Mw hX11_leaves yX11_leaves d [vA x0] S4 (oV (fun S5 => S5.K x0 = 11 ∧ Mw hX11_laidFor yX11_laidFor d [vA x0, vI 0, vI r4] S5 (oI (fun r6 S6 => ∃ m, VX11_tree_41 d Q m x0 x2 r4 r6 0 S6))))))) ∧ (¬ (r3 = 0) → Q (.inl (some (vI 0))) S3)))))))
theorem JX11_tree_0 {d : Nat} {S0 : MS} {Q : Out → MS → Prop} (x0 : Nat) (x1 : Int) (x2 : Int) (S : MS) (h : VX11_tree_0 d Q x0 x1 x2 S) : Jw FinM RX11 cX11_tree 7 (some .int) [] yX11_tree (d + 1) S0 S 0 [(0, vA x0), (1, vI x1), (2, vI x2)] [] Q :=
  j_aload_n 0 dX11_tree_0 rfl (j_callV (rest := []) 11 [] k_RX11_184 ⟨w_7_127, p_3_11⟩ ⟨_, _, rfl⟩ (by decide) rfl rfl (Nat.le_of_ble_eq_true rfl) dX11_tree_1 h (kV (fun S1 h => j_aload_n 0 dX11_tree_4 rfl (j_aload_n 0 dX11_tree_5 rfl (j_iload_n 1 dX11_tree_6 rfl (j_callV (rest := [vA x0]) 11 [vI x1] k_RX11_203 ⟨w_7_226, p_4_11⟩ ⟨_, _, rfl⟩ (by decide) rfl rfl (Nat.le_of_ble_eq_true rfl) dX11_tree_7 h (kI (fun r2 S2 h => j_iconst dX11_tree_10 (j_callV (rest := []) 11 [vI r2, vI 1] k_RX11_190 ⟨w_7_191, p_4_7⟩ ⟨_, _, rfl⟩ (by decide) rfl rfl (Nat.le_of_ble_eq_true rfl) dX11_tree_11 h (kI (fun r3 S3 h => j_if_eq (tgt := 19) dX11_tree_14 (by decide) h (fun h => j_aload_n 0 dX11_tree_19 rfl (j_iload_n 1 dX11_tree_20 rfl (j_iconst dX11_tree_21 (j_callV (rest := []) 11 [vI x1, vI 0] k_RX11_94 ⟨w_7_239, p_4_14⟩ ⟨_, _, rfl⟩ (by decide) rfl rfl (Nat.le_of_ble_eq_true rfl) dX11_tree_22 h (kI (fun r4 S4 h => j_istore_n (lv2 := [(3, vI r4), (0, vA x0), (1, vI x1), (2, vI x2)]) dX11_tree_25 (by decide) rfl (j_aload_n 1 dX11_tree_26 rfl (j_callV (rest := []) 11 [] k_RX11_253 ⟨w_8_42, p_5_4⟩ ⟨_, _, rfl⟩ (by decide) rfl rfl (Nat.le_of_ble_eq_true rfl) dX11_tree_27 h (kV (fun S5 h => j_aload_n 1 dX11_tree_30 rfl (j_iconst dX11_tree_31 (j_iload_n 0 dX11_tree_32 rfl (j_callV (rest := []) 11 [vI 0, vI r4] k_RX11_362 ⟨w_9_50, p_7_6⟩ ⟨_, _, rfl⟩ (by decide) rfl rfl (Nat.le_of_ble_eq_true rfl) dX11_tree_33 h (kI (fun r6 S6 h => j_istore (lv2 := [(4, vI r6), (3, vI r4), (0, vA x0), (1, vI x1), (2, vI x2)]) dX11_tree_36 (by decide) rfl (j_iconst dX11_tree_38 (j_istore (lv2 := [(5, vI 0), (4, vI r6), (3, vI r4), (0, vA x0), (1, vI x1), (2, vI x2)]) dX11_tree_39 (by decide) rfl (Exists.elim h (fun m h => j_sub [3, 5, 2, 1, 0] rfl (JX11_tree_41 m _ _ _ _ _ _ h))))))) (fun _ _ h => h.elim)))))) (fun _ _ h => h.elim))))) (fun _ _ h => h.elim))))) (fun h => j_iconst dX11_tree_17 (j_iret rfl dX11_tree_18 h)))) (fun _ _ h => h.elim)))) (fun _ _ h => h.elim)))))) (fun _ _ h => h.elim))
theorem MX11_tree {d : Nat} {x0 : Nat} {x1 : Int} {x2 : Int} {S : MS} {Q : Out → MS → Prop} (h : VX11_tree_0 d Q x0 x1 x2 S) : Mw hX11_tree yX11_tree (d + 1) [vA x0, vI x1, vI x2] S Q := Mw.ofJ (by decide) (Nat.le_of_ble_eq_true rfl) (JX11_tree_0 _ _ _ S h)
theorem dX11_takesNext_0 : decode cX11_takesNext 0 = .ok (.aload_n 0, 1) := by decide +kernel
theorem dX11_takesNext_1 : decode cX11_takesNext 1 = .ok (.getfield 45, 3) := by decide +kernel
theorem dX11_takesNext_4 : decode cX11_takesNext 4 = .ok (.iconst 0, 1) := by decide +kernel
theorem dX11_takesNext_5 : decode cX11_takesNext 5 = .ok (.aload_n 0, 1) := by decide +kernel
theorem dX11_takesNext_6 : decode cX11_takesNext 6 = .ok (.getfield 45, 3) := by decide +kernel
theorem dX11_takesNext_9 : decode cX11_takesNext 9 = .ok (.iconst 1, 1) := by decide +kernel
theorem dX11_takesNext_10 : decode cX11_takesNext 10 = .ok (.iaload, 1) := by decide +kernel
theorem dX11_takesNext_11 : decode cX11_takesNext 11 = .ok (.iastore, 1) := by decide +kernel
theorem dX11_takesNext_12 : decode cX11_takesNext 12 = .ok (.iconst 0, 1) := by decide +kernel
theorem dX11_takesNext_13 : decode cX11_takesNext 13 = .ok (.istore_n 1, 1) := by decide +kernel
theorem dX11_takesNext_14 : decode cX11_takesNext 14 = .ok (.iload_n 1, 1) := by decide +kernel
theorem dX11_takesNext_15 : decode cX11_takesNext 15 = .ok (.aload_n 0, 1) := by decide +kernel
theorem dX11_takesNext_16 : decode cX11_takesNext 16 = .ok (.getfield 45, 3) := by decide +kernel
theorem dX11_takesNext_19 : decode cX11_takesNext 19 = .ok (.iconst 0, 1) := by decide +kernel
theorem dX11_takesNext_20 : decode cX11_takesNext 20 = .ok (.iaload, 1) := by decide +kernel
theorem dX11_takesNext_21 : decode cX11_takesNext 21 = .ok (.if_icmp .ge 25, 3) := by decide +kernel
theorem dX11_takesNext_24 : decode cX11_takesNext 24 = .ok (.aload_n 0, 1) := by decide +kernel
theorem dX11_takesNext_25 : decode cX11_takesNext 25 = .ok (.getfield 41, 3) := by decide +kernel
theorem dX11_takesNext_28 : decode cX11_takesNext 28 = .ok (.iload_n 1, 1) := by decide +kernel
theorem dX11_takesNext_29 : decode cX11_takesNext 29 = .ok (.aload_n 0, 1) := by decide +kernel
theorem dX11_takesNext_30 : decode cX11_takesNext 30 = .ok (.getfield 41, 3) := by decide +kernel
theorem dX11_takesNext_33 : decode cX11_takesNext 33 = .ok (.sipush 5040, 3) := by decide +kernel
theorem dX11_takesNext_36 : decode cX11_takesNext 36 = .ok (.iload_n 1, 1) := by decide +kernel
theorem dX11_takesNext_37 : decode cX11_takesNext 37 = .ok (.iadd, 1) := by decide +kernel
theorem dX11_takesNext_38 : decode cX11_takesNext 38 = .ok (.saload, 1) := by decide +kernel
theorem dX11_takesNext_39 : decode cX11_takesNext 39 = .ok (.sastore, 1) := by decide +kernel
theorem dX11_takesNext_40 : decode cX11_takesNext 40 = .ok (.iinc 1 1, 3) := by decide +kernel
theorem dX11_takesNext_43 : decode cX11_takesNext 43 = .ok (.goto (-29), 3) := by decide +kernel
theorem dX11_takesNext_46 : decode cX11_takesNext 46 = .ok (.return_, 1) := by decide +kernel
def VX11_takesNext_14 (d : Nat) (Q : Out → MS → Prop) : Nat → Nat → Int → MS → Prop
  | 0, _, _, _ => False
  | n + 1, x0, x1, S => S.K x0 = 11 ∧ ∃ b1, S.R x0 17 = some b1 ∧ ((S.K b1 = 13 ∧ 0 ≤ (0 : Int) ∧ (0 : Int) < S.N b1) ∧ ((R32 x1 ∧ R32 (S.I b1 ((0 : Int)).toNat)) ∧ (((S.I b1 ((0 : Int)).toNat) ≤ x1) → Q (.inl none) S) ∧ (¬ ((S.I b1 ((0 : Int)).toNat) ≤ x1) → S.K x0 = 11 ∧ ∃ b2, S.R x0 16 = some b2 ∧ (S.K x0 = 11 ∧ ∃ b3, S.R x0 16 = some b3 ∧ ((S.K b3 = 15 ∧ 0 ≤ (5040 + x1) ∧ (5040 + x1) < S.N b3) ∧ ((S.K b2 = 15 ∧ 0 ≤ x1 ∧ x1 < S.N b2) ∧ ((VX11_takesNext_14 d Q n) x0 (x1 + 1) (S.setI b2 (x1).toNat (i2S (S.I b3 ((5040 + x1)).toNat))))))))))
theorem JX11_takesNext_14 {d : Nat} {S0 : MS} {Q : Out → MS → Prop} : ∀ (n : Nat) (x0 : Nat) (x1 : Int) (S : MS), VX11_takesNext_14 d Q n x0 x1 S → Jw FinM RX11 cX11_takesNext 2 none [] yX11_takesNext (d + 1) S0 S 14 [(0, vA x0), (1, vI x1)] [] Q := by
  intro n
  induction n with
  | zero => intro x0 x1 S h; exact h.elim
  | succ n ih =>
    intro x0 x1 S h
    exact j_iload_n 1 dX11_takesNext_14 rfl (j_aload_n 0 dX11_takesNext_15 rfl (j_getR 11 17 f_RX11_45 dX11_takesNext_16 h (fun b1 h => j_iconst dX11_takesNext_19 (j_iald dX11_takesNext_20 h (fun h => j_icmp_ge (tgt := 46) dX11_takesNext_21 (by decide) h (fun h => j_vret rfl dX11_takesNext_46 h) (fun h => j_aload_n 0 dX11_takesNext_24 rfl (j_getR 11 16 f_RX11_41 dX11_takesNext_25 h (fun b2 h => j_iload_n 1 dX11_takesNext_28 rfl (j_aload_n 0 dX11_takesNext_29 rfl (j_getR 11 16 f_RX11_41 dX11_takesNext_30 h (fun b3 h => j_sipush dX11_takesNext_33 rfl (j_iload_n 1 dX11_takesNext_36 rfl (j_iadd dX11_takesNext_37 (j_sald dX11_takesNext_38 h (fun h => j_sast dX11_takesNext_39 h (fun h => j_iinc 1 (lv2 := [(1, vI (x1 + 1)), (0, vA x0)]) dX11_takesNext_40 rfl (by decide) rfl (j_goto (tgt := 14) dX11_takesNext_43 (by decide) (j_sub [1, 0] rfl (ih _ _ _ h)))))))))))))))))))
def VX11_takesNext_0 (d : Nat) (Q : Out → MS → Prop) (x0 : Nat) (S : MS) : Prop :=
  S.K x0 = 11 ∧ ∃ b1, S.R x0 17 = some b1 ∧ (S.K x0 = 11 ∧ ∃ b2, S.R x0 17 = some b2 ∧ ((S.K b2 = 13 ∧ 0 ≤ (1 : Int) ∧ (1 : Int) < S.N b2) ∧ ((S.K b1 = 13 ∧ 0 ≤ (0 : Int) ∧ (0 : Int) < S.N b1) ∧ (∃ m, VX11_takesNext_14 d Q m x0 0 (S.setI b1 ((0 : Int)).toNat (S.I b2 ((1 : Int)).toNat))))))
theorem JX11_takesNext_0 {d : Nat} {S0 : MS} {Q : Out → MS → Prop} (x0 : Nat) (S : MS) (h : VX11_takesNext_0 d Q x0 S) : Jw FinM RX11 cX11_takesNext 2 none [] yX11_takesNext (d + 1) S0 S 0 [(0, vA x0)] [] Q :=
  j_aload_n 0 dX11_takesNext_0 rfl (j_getR 11 17 f_RX11_45 dX11_takesNext_1 h (fun b1 h => j_iconst dX11_takesNext_4 (j_aload_n 0 dX11_takesNext_5 rfl (j_getR 11 17 f_RX11_45 dX11_takesNext_6 h (fun b2 h => j_iconst dX11_takesNext_9 (j_iald dX11_takesNext_10 h (fun h => j_iast dX11_takesNext_11 h (fun h => j_iconst dX11_takesNext_12 (j_istore_n (lv2 := [(1, vI 0), (0, vA x0)]) dX11_takesNext_13 (by decide) rfl (Exists.elim h (fun m h => j_sub [1, 0] rfl (JX11_takesNext_14 m _ _ _ h))))))))))))
theorem MX11_takesNext {d : Nat} {x0 : Nat} {S : MS} {Q : Out → MS → Prop} (h : VX11_takesNext_0 d Q x0 S) : Mw hX11_takesNext yX11_takesNext (d + 1) [vA x0] S Q := Mw.ofJ (by decide) (Nat.le_of_ble_eq_true rfl) (JX11_takesNext_0 _ S h)
theorem dX11_wants_0 : decode cX11_wants 0 = .ok (.aload_n 0, 1) := by decide +kernel
theorem dX11_wants_1 : decode cX11_wants 1 = .ok (.iconst 0, 1) := by decide +kernel
theorem dX11_wants_2 : decode cX11_wants 2 = .ok (.putfield 3, 3) := by decide +kernel
theorem dX11_wants_5 : decode cX11_wants 5 = .ok (.aload_n 0, 1) := by decide +kernel
theorem dX11_wants_6 : decode cX11_wants 6 = .ok (.iload_n 1, 1) := by decide +kernel
theorem dX11_wants_7 : decode cX11_wants 7 = .ok (.iconst 3, 1) := by decide +kernel
theorem dX11_wants_8 : decode cX11_wants 8 = .ok (.if_icmp .ne 15, 3) := by decide +kernel
theorem dX11_wants_11 : decode cX11_wants 11 = .ok (.aload_n 0, 1) := by decide +kernel
theorem dX11_wants_12 : decode cX11_wants 12 = .ok (.iload_n 2, 1) := by decide +kernel
theorem dX11_wants_13 : decode cX11_wants 13 = .ok (.invokevirtual 194, 3) := by decide +kernel
theorem dX11_wants_16 : decode cX11_wants 16 = .ok (.ifCond .eq 7, 3) := by decide +kernel
theorem dX11_wants_19 : decode cX11_wants 19 = .ok (.iconst 1, 1) := by decide +kernel
theorem dX11_wants_20 : decode cX11_wants 20 = .ok (.goto 4, 3) := by decide +kernel
theorem dX11_wants_23 : decode cX11_wants 23 = .ok (.iconst 0, 1) := by decide +kernel
theorem dX11_wants_24 : decode cX11_wants 24 = .ok (.iconst 1, 1) := by decide +kernel
theorem dX11_wants_25 : decode cX11_wants 25 = .ok (.invokevirtual 190, 3) := by decide +kernel
theorem dX11_wants_28 : decode cX11_wants 28 = .ok (.ifCond .ne 25, 3) := by decide +kernel
theorem dX11_wants_31 : decode cX11_wants 31 = .ok (.aload_n 0, 1) := by decide +kernel
theorem dX11_wants_32 : decode cX11_wants 32 = .ok (.iload_n 1, 1) := by decide +kernel
theorem dX11_wants_33 : decode cX11_wants 33 = .ok (.iconst 0, 1) := by decide +kernel
theorem dX11_wants_34 : decode cX11_wants 34 = .ok (.iconst 3, 1) := by decide +kernel
theorem dX11_wants_35 : decode cX11_wants 35 = .ok (.invokestatic 87, 3) := by decide +kernel
theorem dX11_wants_38 : decode cX11_wants 38 = .ok (.ifCond .ne 7, 3) := by decide +kernel
theorem dX11_wants_41 : decode cX11_wants 41 = .ok (.iconst 1, 1) := by decide +kernel
theorem dX11_wants_42 : decode cX11_wants 42 = .ok (.goto 4, 3) := by decide +kernel
theorem dX11_wants_45 : decode cX11_wants 45 = .ok (.iconst 0, 1) := by decide +kernel
theorem dX11_wants_46 : decode cX11_wants 46 = .ok (.iconst 2, 1) := by decide +kernel
theorem dX11_wants_47 : decode cX11_wants 47 = .ok (.invokevirtual 190, 3) := by decide +kernel
theorem dX11_wants_50 : decode cX11_wants 50 = .ok (.ifCond .eq 5, 3) := by decide +kernel
theorem dX11_wants_53 : decode cX11_wants 53 = .ok (.iconst 0, 1) := by decide +kernel
theorem dX11_wants_54 : decode cX11_wants 54 = .ok (.ireturn, 1) := by decide +kernel
theorem dX11_wants_55 : decode cX11_wants 55 = .ok (.aload_n 0, 1) := by decide +kernel
theorem dX11_wants_56 : decode cX11_wants 56 = .ok (.invokevirtual 253, 3) := by decide +kernel
theorem dX11_wants_59 : decode cX11_wants 59 = .ok (.iload_n 1, 1) := by decide +kernel
theorem dX11_wants_60 : decode cX11_wants 60 = .ok (.ifCond .ne 9, 3) := by decide +kernel
theorem dX11_wants_63 : decode cX11_wants 63 = .ok (.aload_n 0, 1) := by decide +kernel
theorem dX11_wants_64 : decode cX11_wants 64 = .ok (.iconst 0, 1) := by decide +kernel
theorem dX11_wants_65 : decode cX11_wants 65 = .ok (.invokevirtual 286, 3) := by decide +kernel
theorem dX11_wants_68 : decode cX11_wants 68 = .ok (.ireturn, 1) := by decide +kernel
theorem dX11_wants_69 : decode cX11_wants 69 = .ok (.iload_n 1, 1) := by decide +kernel
theorem dX11_wants_70 : decode cX11_wants 70 = .ok (.iconst 1, 1) := by decide +kernel
theorem dX11_wants_71 : decode cX11_wants 71 = .ok (.if_icmp .ne 20, 3) := by decide +kernel
theorem dX11_wants_74 : decode cX11_wants 74 = .ok (.aload_n 0, 1) := by decide +kernel
theorem dX11_wants_75 : decode cX11_wants 75 = .ok (.invokevirtual 283, 3) := by decide +kernel
theorem dX11_wants_78 : decode cX11_wants 78 = .ok (.invokestatic 102, 3) := by decide +kernel
theorem dX11_wants_81 : decode cX11_wants 81 = .ok (.iconst 1, 1) := by decide +kernel
theorem dX11_wants_82 : decode cX11_wants 82 = .ok (.if_icmp .ne 7, 3) := by decide +kernel
theorem dX11_wants_85 : decode cX11_wants 85 = .ok (.iconst 1, 1) := by decide +kernel
theorem dX11_wants_86 : decode cX11_wants 86 = .ok (.goto 4, 3) := by decide +kernel
theorem dX11_wants_89 : decode cX11_wants 89 = .ok (.iconst 0, 1) := by decide +kernel
theorem dX11_wants_90 : decode cX11_wants 90 = .ok (.ireturn, 1) := by decide +kernel
theorem dX11_wants_91 : decode cX11_wants 91 = .ok (.iload_n 1, 1) := by decide +kernel
theorem dX11_wants_92 : decode cX11_wants 92 = .ok (.iconst 2, 1) := by decide +kernel
theorem dX11_wants_93 : decode cX11_wants 93 = .ok (.if_icmp .ne 17, 3) := by decide +kernel
theorem dX11_wants_96 : decode cX11_wants 96 = .ok (.aload_n 0, 1) := by decide +kernel
theorem dX11_wants_97 : decode cX11_wants 97 = .ok (.invokevirtual 271, 3) := by decide +kernel
theorem dX11_wants_100 : decode cX11_wants 100 = .ok (.iconst 1, 1) := by decide +kernel
theorem dX11_wants_101 : decode cX11_wants 101 = .ok (.if_icmp .ne 7, 3) := by decide +kernel
theorem dX11_wants_104 : decode cX11_wants 104 = .ok (.iconst 1, 1) := by decide +kernel
theorem dX11_wants_105 : decode cX11_wants 105 = .ok (.goto 4, 3) := by decide +kernel
theorem dX11_wants_108 : decode cX11_wants 108 = .ok (.iconst 0, 1) := by decide +kernel
theorem dX11_wants_109 : decode cX11_wants 109 = .ok (.ireturn, 1) := by decide +kernel
theorem dX11_wants_110 : decode cX11_wants 110 = .ok (.iconst 0, 1) := by decide +kernel
theorem dX11_wants_111 : decode cX11_wants 111 = .ok (.istore_n 3, 1) := by decide +kernel
theorem dX11_wants_112 : decode cX11_wants 112 = .ok (.iconst 0, 1) := by decide +kernel
theorem dX11_wants_113 : decode cX11_wants 113 = .ok (.istore 4, 2) := by decide +kernel
theorem dX11_wants_115 : decode cX11_wants 115 = .ok (.iload 4, 2) := by decide +kernel
theorem dX11_wants_117 : decode cX11_wants 117 = .ok (.aload_n 0, 1) := by decide +kernel
theorem dX11_wants_118 : decode cX11_wants 118 = .ok (.getfield 45, 3) := by decide +kernel
theorem dX11_wants_121 : decode cX11_wants 121 = .ok (.iconst 0, 1) := by decide +kernel
theorem dX11_wants_122 : decode cX11_wants 122 = .ok (.iaload, 1) := by decide +kernel
theorem dX11_wants_123 : decode cX11_wants 123 = .ok (.if_icmp .ge 27, 3) := by decide +kernel
theorem dX11_wants_126 : decode cX11_wants 126 = .ok (.iload_n 3, 1) := by decide +kernel
theorem dX11_wants_127 : decode cX11_wants 127 = .ok (.aload_n 0, 1) := by decide +kernel
theorem dX11_wants_128 : decode cX11_wants 128 = .ok (.aload_n 0, 1) := by decide +kernel
theorem dX11_wants_129 : decode cX11_wants 129 = .ok (.iconst 0, 1) := by decide +kernel
theorem dX11_wants_130 : decode cX11_wants 130 = .ok (.iload 4, 2) := by decide +kernel
theorem dX11_wants_132 : decode cX11_wants 132 = .ok (.invokevirtual 247, 3) := by decide +kernel
theorem dX11_wants_135 : decode cX11_wants 135 = .ok (.invokevirtual 268, 3) := by decide +kernel
theorem dX11_wants_138 : decode cX11_wants 138 = .ok (.iload_n 2, 1) := by decide +kernel
theorem dX11_wants_139 : decode cX11_wants 139 = .ok (.ishr, 1) := by decide +kernel
theorem dX11_wants_140 : decode cX11_wants 140 = .ok (.iconst 1, 1) := by decide +kernel
theorem dX11_wants_141 : decode cX11_wants 141 = .ok (.iand, 1) := by decide +kernel
theorem dX11_wants_142 : decode cX11_wants 142 = .ok (.iadd, 1) := by decide +kernel
theorem dX11_wants_143 : decode cX11_wants 143 = .ok (.istore_n 3, 1) := by decide +kernel
theorem dX11_wants_144 : decode cX11_wants 144 = .ok (.iinc 4 1, 3) := by decide +kernel
theorem dX11_wants_147 : decode cX11_wants 147 = .ok (.goto (-32), 3) := by decide +kernel
theorem dX11_wants_150 : decode cX11_wants 150 = .ok (.aload_n 0, 1) := by decide +kernel
theorem dX11_wants_151 : decode cX11_wants 151 = .ok (.getfield 45, 3) := by decide +kernel
theorem dX11_wants_154 : decode cX11_wants 154 = .ok (.iconst 0, 1) := by decide +kernel
theorem dX11_wants_155 : decode cX11_wants 155 = .ok (.iaload, 1) := by decide +kernel
theorem dX11_wants_156 : decode cX11_wants 156 = .ok (.ifCond .le 21, 3) := by decide +kernel
theorem dX11_wants_159 : decode cX11_wants 159 = .ok (.iload_n 3, 1) := by decide +kernel
theorem dX11_wants_160 : decode cX11_wants 160 = .ok (.ifCond .eq 13, 3) := by decide +kernel
theorem dX11_wants_163 : decode cX11_wants 163 = .ok (.iload_n 3, 1) := by decide +kernel
theorem dX11_wants_164 : decode cX11_wants 164 = .ok (.aload_n 0, 1) := by decide +kernel
theorem dX11_wants_165 : decode cX11_wants 165 = .ok (.getfield 45, 3) := by decide +kernel
theorem dX11_wants_168 : decode cX11_wants 168 = .ok (.iconst 0, 1) := by decide +kernel
theorem dX11_wants_169 : decode cX11_wants 169 = .ok (.iaload, 1) := by decide +kernel
theorem dX11_wants_170 : decode cX11_wants 170 = .ok (.if_icmp .ne 7, 3) := by decide +kernel
theorem dX11_wants_173 : decode cX11_wants 173 = .ok (.iconst 1, 1) := by decide +kernel
theorem dX11_wants_174 : decode cX11_wants 174 = .ok (.goto 4, 3) := by decide +kernel
theorem dX11_wants_177 : decode cX11_wants 177 = .ok (.iconst 0, 1) := by decide +kernel
theorem dX11_wants_178 : decode cX11_wants 178 = .ok (.ireturn, 1) := by decide +kernel
def VX11_wants_173 (d : Nat) (Q : Out → MS → Prop) (S : MS) : Prop :=
  B01 1 ∧ Q (.inl (some (vI 1))) S
theorem JX11_wants_173 {d : Nat} {S0 : MS} {Q : Out → MS → Prop} (S : MS) (h : VX11_wants_173 d Q S) : Jw FinM RX11 cX11_wants 5 (some .boolean) [] yX11_wants (d + 1) S0 S 173 [] [] Q :=
  j_iconst dX11_wants_173 (j_goto (tgt := 178) dX11_wants_174 (by decide) (j_zret rfl dX11_wants_178 h))
def VX11_wants_115 (d : Nat) (Q : Out → MS → Prop) : Nat → Nat → Int → Int → Int → MS → Prop
  | 0, _, _, _, _, _ => False
  | n + 1, x0, x2, x3, x4, S => S.K x0 = 11 ∧ ∃ b1, S.R x0 17 = some b1 ∧ ((S.K b1 = 13 ∧ 0 ≤ (0 : Int) ∧ (0 : Int) < S.N b1) ∧ ((R32 x4 ∧ R32 (S.I b1 ((0 : Int)).toNat)) ∧ (((S.I b1 ((0 : Int)).toNat) ≤ x4) → S.K x0 = 11 ∧ ∃ b2, S.R x0 17 = some b2 ∧ ((S.K b2 = 13 ∧ 0 ≤ (0 : Int) ∧ (0 : Int) < S.N b2) ∧ (R32 (S.I b2 ((0 : Int)).toNat) ∧ (((S.I b2 ((0 : Int)).toNat) ≤ 0) → B01 0 ∧ Q (.inl (some (vI 0))) S) ∧ (¬ ((S.I b2 ((0 : Int)).toNat) ≤ 0) → R32 x3 ∧ ((x3 = 0) → VX11_wants_173 d Q S) ∧ (¬ (x3 = 0) → S.K x0 = 11 ∧ ∃ b3, S.R x0 17 = some b3 ∧ ((S.K b3 = 13 ∧ 0 ≤ (0 : Int) ∧ (0 : Int) < S.N b3) ∧ ((R32 x3 ∧ R32 (S.I b3 ((0 : Int)).toNat)) ∧ (¬ (x3 = (S.I b3 ((0 : Int)).toNat)) → B01 0 ∧ Q (.inl (some (vI 0))) S) ∧ ((x3 = (S.I b3 ((0 : Int)).toNat)) → VX11_wants_173 d Q S)))))))) ∧ (¬ ((S.I b1 ((0 : Int)).toNat) ≤ x4) → S.K x0 = 11 ∧ Mw hX11_rowAt yX11_rowAt d [vA x0, vI 0, vI x4] S (oI (fun r4 S4 => S4.K x0 = 11 ∧ Mw hX11_endsOf yX11_endsOf d [vA x0, vI r4] S4 (oI (fun r5 S5 => (VX11_wants_115 d Q n) x0 x2 (x3 + (iAnd (iShr r5 x2) 1)) (x4 + 1) S5)))))))
theorem JX11_wants_115 {d : Nat} {S0 : MS} {Q : Out → MS → Prop} : ∀ (n : Nat) (x0 : Nat) (x2 : Int) (x3 : Int) (x4 : Int) (S : MS), VX11_wants_115 d Q n x0 x2 x3 x4 S → Jw FinM RX11 cX11_wants 5 (some .boolean) [] yX11_wants (d + 1) S0 S 115 [(0, vA x0), (2, vI x2), (3, vI x3), (4, vI x4)] [] Q := by
  intro n
  induction n with
  | zero => intro x0 x2 x3 x4 S h; exact h.elim
  | succ n ih =>
    intro x0 x2 x3 x4 S h
    exact j_iload 3 dX11_wants_115 rfl (j_aload_n 0 dX11_wants_117 rfl (j_getR 11 17 f_RX11_45 dX11_wants_118 h (fun b1 h => j_iconst dX11_wants_121 (j_iald dX11_wants_122 h (fun h => j_icmp_ge (tgt := 150) dX11_wants_123 (by decide) h (fun h => j_aload_n 0 dX11_wants_150 rfl (j_getR 11 17 f_RX11_45 dX11_wants_151 h (fun b2 h => j_iconst dX11_wants_154 (j_iald dX11_wants_155 h (fun h => j_if_le (tgt := 177) dX11_wants_156 (by decide) h (fun h => j_iconst dX11_wants_177 (j_zret rfl dX11_wants_178 h)) (fun h => j_iload_n 2 dX11_wants_159 rfl (j_if_eq (tgt := 173) dX11_wants_160 (by decide) h (fun h => j_sub [] rfl (JX11_wants_173 _ h)) (fun h => j_iload_n 2 dX11_wants_163 rfl (j_aload_n 0 dX11_wants_164 rfl (j_getR 11 17 f_RX11_45 dX11_wants_165 h (fun b3 h => j_iconst dX11_wants_168 (j_iald dX11_wants_169 h (fun h => j_icmp_ne (tgt := 177) dX11_wants_170 (by decide) h (fun h => j_iconst dX11_wants_177 (j_zret rfl dX11_wants_178 h)) (fun h => j_sub [] rfl (JX11_wants_173 _ h))))))))))))))) (fun h => j_iload_n 2 dX11_wants_126 rfl (j_aload_n 0 dX11_wants_127 rfl (j_aload_n 0 dX11_wants_128 rfl (j_iconst dX11_wants_129 (j_iload 3 dX11_wants_130 rfl (j_callV (rest := [vA x0, vI x3]) 11 [vI 0, vI x4] k_RX11_247 ⟨w_8_74, p_5_11⟩ ⟨_, _, rfl⟩ (by decide) rfl rfl (Nat.le_of_ble_eq_true rfl) dX11_wants_132 h (kI (fun r4 S4 h => j_callV (rest := [vI x3]) 11 [vI r4] k_RX11_268 ⟨w_8_118, p_6_1⟩ ⟨_, _, rfl⟩ (by decide) rfl rfl (Nat.le_of_ble_eq_true rfl) dX11_wants_135 h (kI (fun r5 S5 h => j_iload_n 1 dX11_wants_138 rfl (j_ishr dX11_wants_139 (j_iconst dX11_wants_140 (j_iand dX11_wants_141 (j_iadd dX11_wants_142 (j_istore_n (lv2 := [(3, vI (x3 + (iAnd (iShr r5 x2) 1))), (0, vA x0), (2, vI x2), (4, vI x4)]) dX11_wants_143 (by decide) rfl (j_iinc 3 (lv2 := [(4, vI (x4 + 1)), (3, vI (x3 + (iAnd (iShr r5 x2) 1))), (0, vA x0), (2, vI x2)]) dX11_wants_144 rfl (by decide) rfl (j_goto (tgt := 115) dX11_wants_147 (by decide) (j_sub [2, 3, 1, 0] rfl (ih _ _ _ _ _ h))))))))))) (fun _ _ h => h.elim))) (fun _ _ h => h.elim))))))))))))
def VX11_wants_46 (d : Nat) (Q : Out → MS → Prop) (x0 : Nat) (x1 : Int) (x2 : Int) (t0 : Int) (t1 : Nat) (S : MS) : Prop :=
  S.K t1 = 11 ∧ Mw hX11_throwsIf yX11_throwsIf d [vA t1, vI t0, vI 2] S (oI (fun r1 S1 => R32 r1 ∧ ((r1 = 0) → S1.K x0 = 11 ∧ Mw hX11_leaves yX11_leaves d [vA x0] S1 (oV (fun S2 => R32 x1 ∧ (¬ (x1 = 0) → (R32 x1 ∧ R32 (1 : Int)) ∧ (¬ (x1 = (1 : Int)) → (R32 x1 ∧ R32 (2 : Int)) ∧ (¬ (x1 = (2 : Int)) → ∃ m, VX11_wants_115 d Q m x0 x2 0 0 S2) ∧ ((x1 = (2 : Int)) → S2.K x0 = 11 ∧ Mw hX11_endsNow yX11_endsNow d [vA x0] S2 (oI (fun r3 S3 => (R32 r3 ∧ R32 (1 : Int)) ∧ (¬ (r3 = (1 : Int)) → B01 0 ∧ Q (.inl (some (vI 0))) S3) ∧ ((r3 = (1 : Int)) → B01 1 ∧ Q (.inl (some (vI 1))) S3))))) ∧ ((x1 = (1 : Int)) → S2.K x0 = 11 ∧ Mw hX11_centreNow yX11_centreNow d [vA x0] S2 (oI (fun r4 S4 => Mw hJ6_bitCount_0f7a4 yJ6_bitCount_0f7a4 d [vI r4] S4 (oI (fun r5 S5 => (R32 r5 ∧ R32 (1 : Int)) ∧ (¬ (r5 = (1 : Int)) → B01 0 ∧ Q (.inl (some (vI 0))) S5) ∧ ((r5 = (1 : Int)) → B01 1 ∧ Q (.inl (some (vI 1))) S5))))))) ∧ ((x1 = 0) → S2.K x0 = 11 ∧ Mw hX11_isKnown yX11_isKnown d [vA x0, vI 0] S2 (oI (fun r6 S6 => B01 r6 ∧ Q (.inl (some (vI r6))) S6)))))) ∧ (¬ (r1 = 0) → B01 0 ∧ Q (.inl (some (vI 0))) S1)))
theorem JX11_wants_46 {d : Nat} {S0 : MS} {Q : Out → MS → Prop} (x0 : Nat) (x1 : Int) (x2 : Int) (t0 : Int) (t1 : Nat) (S : MS) (h : VX11_wants_46 d Q x0 x1 x2 t0 t1 S) : Jw FinM RX11 cX11_wants 5 (some .boolean) [] yX11_wants (d + 1) S0 S 46 [(0, vA x0), (1, vI x1), (2, vI x2)] [vI t0, vA t1] Q :=
  j_iconst dX11_wants_46 (j_callV (rest := []) 11 [vI t0, vI 2] k_RX11_190 ⟨w_7_191, p_4_7⟩ ⟨_, _, rfl⟩ (by decide) rfl rfl (Nat.le_of_ble_eq_true rfl) dX11_wants_47 h (kI (fun r1 S1 h => j_if_eq (tgt := 55) dX11_wants_50 (by decide) h (fun h => j_aload_n 0 dX11_wants_55 rfl (j_callV (rest := []) 11 [] k_RX11_253 ⟨w_8_42, p_5_4⟩ ⟨_, _, rfl⟩ (by decide) rfl rfl (Nat.le_of_ble_eq_true rfl) dX11_wants_56 h (kV (fun S2 h => j_iload_n 1 dX11_wants_59 rfl (j_if_ne (tgt := 69) dX11_wants_60 (by decide) h (fun h => j_iload_n 1 dX11_wants_69 rfl (j_iconst dX11_wants_70 (j_icmp_ne (tgt := 91) dX11_wants_71 (by decide) h (fun h => j_iload_n 1 dX11_wants_91 rfl (j_iconst dX11_wants_92 (j_icmp_ne (tgt := 110) dX11_wants_93 (by decide) h (fun h => j_iconst dX11_wants_110 (j_istore_n (lv2 := [(3, vI 0), (0, vA x0), (1, vI x1), (2, vI x2)]) dX11_wants_111 (by decide) rfl (j_iconst dX11_wants_112 (j_istore (lv2 := [(4, vI 0), (3, vI 0), (0, vA x0), (1, vI x1), (2, vI x2)]) dX11_wants_113 (by decide) rfl (Exists.elim h (fun m h => j_sub [2, 4, 1, 0] rfl (JX11_wants_115 m _ _ _ _ _ h))))))) (fun h => j_aload_n 0 dX11_wants_96 rfl (j_callV (rest := []) 11 [] k_RX11_271 ⟨w_8_114, p_6_0⟩ ⟨_, _, rfl⟩ (by decide) rfl rfl (Nat.le_of_ble_eq_true rfl) dX11_wants_97 h (kI (fun r3 S3 h => j_iconst dX11_wants_100 (j_icmp_ne (tgt := 108) dX11_wants_101 (by decide) h (fun h => j_iconst dX11_wants_108 (j_zret rfl dX11_wants_109 h)) (fun h => j_iconst dX11_wants_104 (j_goto (tgt := 109) dX11_wants_105 (by decide) (j_zret rfl dX11_wants_109 h)))))) (fun _ _ h => h.elim)))))) (fun h => j_aload_n 0 dX11_wants_74 rfl (j_callV (rest := []) 11 [] k_RX11_283 ⟨w_8_154, p_6_6⟩ ⟨_, _, rfl⟩ (by decide) rfl rfl (Nat.le_of_ble_eq_true rfl) dX11_wants_75 h (kI (fun r4 S4 h => j_callS (rest := []) [vI r4] k_RX11_102 w_2_86 rfl rfl (Nat.le_of_ble_eq_true rfl) dX11_wants_78 h (kI (fun r5 S5 h => j_iconst dX11_wants_81 (j_icmp_ne (tgt := 89) dX11_wants_82 (by decide) h (fun h => j_iconst dX11_wants_89 (j_zret rfl dX11_wants_90 h)) (fun h => j_iconst dX11_wants_85 (j_goto (tgt := 90) dX11_wants_86 (by decide) (j_zret rfl dX11_wants_90 h)))))) (fun _ _ h => h.elim))) (fun _ _ h => h.elim)))))) (fun h => j_aload_n 0 dX11_wants_63 rfl (j_iconst dX11_wants_64 (j_callV (rest := []) 11 [vI 0] k_RX11_286 ⟨w_8_162, p_6_7⟩ ⟨_, _, rfl⟩ (by decide) rfl rfl (Nat.le_of_ble_eq_true rfl) dX11_wants_65 h (kI (fun r6 S6 h => j_zret rfl dX11_wants_68 h)) (fun _ _ h => h.elim))))))) (fun _ _ h => h.elim))) (fun h => j_iconst dX11_wants_53 (j_zret rfl dX11_wants_54 h)))) (fun _ _ h => h.elim))
def VX11_wants_24 (d : Nat) (Q : Out → MS → Prop) (x0 : Nat) (x1 : Int) (x2 : Int) (t0 : Int) (t1 : Nat) (S : MS) : Prop :=
  S.K t1 = 11 ∧ Mw hX11_throwsIf yX11_throwsIf d [vA t1, vI t0, vI 1] S (oI (fun r1 S1 => R32 r1 ∧ (¬ (r1 = 0) → B01 0 ∧ Q (.inl (some (vI 0))) S1) ∧ ((r1 = 0) → Mw hX11_in yX11_in d [vI x1, vI 0, vI 3] S1 (oI (fun r2 S2 => R32 r2 ∧ (¬ (r2 = 0) → VX11_wants_46 d Q x0 x1 x2 0 x0 S2) ∧ ((r2 = 0) → VX11_wants_46 d Q x0 x1 x2 1 x0 S2))))))
theorem JX11_wants_24 {d : Nat} {S0 : MS} {Q : Out → MS → Prop} (x0 : Nat) (x1 : Int) (x2 : Int) (t0 : Int) (t1 : Nat) (S : MS) (h : VX11_wants_24 d Q x0 x1 x2 t0 t1 S) : Jw FinM RX11 cX11_wants 5 (some .boolean) [] yX11_wants (d + 1) S0 S 24 [(0, vA x0), (1, vI x1), (2, vI x2)] [vI t0, vA t1] Q :=
  j_iconst dX11_wants_24 (j_callV (rest := []) 11 [vI t0, vI 1] k_RX11_190 ⟨w_7_191, p_4_7⟩ ⟨_, _, rfl⟩ (by decide) rfl rfl (Nat.le_of_ble_eq_true rfl) dX11_wants_25 h (kI (fun r1 S1 h => j_if_ne (tgt := 53) dX11_wants_28 (by decide) h (fun h => j_iconst dX11_wants_53 (j_zret rfl dX11_wants_54 h)) (fun h => j_aload_n 0 dX11_wants_31 rfl (j_iload_n 1 dX11_wants_32 rfl (j_iconst dX11_wants_33 (j_iconst dX11_wants_34 (j_callS (rest := [vA x0]) [vI x1, vI 0, vI 3] k_RX11_87 w_7_198 rfl rfl (Nat.le_of_ble_eq_true rfl) dX11_wants_35 h (kI (fun r2 S2 h => j_if_ne (tgt := 45) dX11_wants_38 (by decide) h (fun h => j_iconst dX11_wants_45 (JX11_wants_46 _ _ _ _ _ _ h)) (fun h => j_iconst dX11_wants_41 (j_goto (tgt := 46) dX11_wants_42 (by decide) (JX11_wants_46 _ _ _ _ _ _ h))))) (fun _ _ h => h.elim)))))))) (fun _ _ h => h.elim))
def VX11_wants_23 (d : Nat) (Q : Out → MS → Prop) (x0 : Nat) (x1 : Int) (x2 : Int) (t0 : Nat) (S : MS) : Prop :=
  VX11_wants_24 d Q x0 x1 x2 0 t0 S
theorem JX11_wants_23 {d : Nat} {S0 : MS} {Q : Out → MS → Prop} (x0 : Nat) (x1 : Int) (x2 : Int) (t0 : Nat) (S : MS) (h : VX11_wants_23 d Q x0 x1 x2 t0 S) : Jw FinM RX11 cX11_wants 5 (some .boolean) [] yX11_wants (d + 1) S0 S 23 [(0, vA x0), (1, vI x1), (2, vI x2)] [vA t0] Q :=
  j_iconst dX11_wants_23 (JX11_wants_24 _ _ _ _ _ _ h)
def VX11_wants_0 (d : Nat) (Q : Out → MS → Prop) (x0 : Nat) (x1 : Int) (x2 : Int) (S : MS) : Prop :=
  S.K x0 = 11 ∧ ((R32 x1 ∧ R32 (3 : Int)) ∧ (¬ (x1 = (3 : Int)) → VX11_wants_23 d Q x0 x1 x2 x0 (S.setI x0 0 0)) ∧ ((x1 = (3 : Int)) → (S.setI x0 0 0).K x0 = 11 ∧ Mw hX11_noThing yX11_noThing d [vA x0, vI x2] (S.setI x0 0 0) (oI (fun r1 S1 => R32 r1 ∧ ((r1 = 0) → VX11_wants_23 d Q x0 x1 x2 x0 S1) ∧ (¬ (r1 = 0) → VX11_wants_24 d Q x0 x1 x2 1 x0 S1)))))
theorem JX11_wants_0 {d : Nat} {S0 : MS} {Q : Out → MS → Prop} (x0 : Nat) (x1 : Int) (x2 : Int) (S : MS) (h : VX11_wants_0 d Q x0 x1 x2 S) : Jw FinM RX11 cX11_wants 5 (some .boolean) [] yX11_wants (d + 1) S0 S 0 [(0, vA x0), (1, vI x1), (2, vI x2)] [] Q :=
  j_aload_n 0 dX11_wants_0 rfl (j_iconst dX11_wants_1 (j_putI 11 0 f_RX11_3 dX11_wants_2 h (fun h => j_aload_n 0 dX11_wants_5 rfl (j_iload_n 1 dX11_wants_6 rfl (j_iconst dX11_wants_7 (j_icmp_ne (tgt := 23) dX11_wants_8 (by decide) h (fun h => JX11_wants_23 _ _ _ _ _ h) (fun h => j_aload_n 0 dX11_wants_11 rfl (j_iload_n 2 dX11_wants_12 rfl (j_callV (rest := [vA x0]) 11 [vI x2] k_RX11_194 ⟨w_7_214, p_4_9⟩ ⟨_, _, rfl⟩ (by decide) rfl rfl (Nat.le_of_ble_eq_true rfl) dX11_wants_13 h (kI (fun r1 S1 h => j_if_eq (tgt := 23) dX11_wants_16 (by decide) h (fun h => JX11_wants_23 _ _ _ _ _ h) (fun h => j_iconst dX11_wants_19 (j_goto (tgt := 24) dX11_wants_20 (by decide) (JX11_wants_24 _ _ _ _ _ _ h))))) (fun _ _ h => h.elim))))))))))
theorem MX11_wants {d : Nat} {x0 : Nat} {x1 : Int} {x2 : Int} {S : MS} {Q : Out → MS → Prop} (h : VX11_wants_0 d Q x0 x1 x2 S) : Mw hX11_wants yX11_wants (d + 1) [vA x0, vI x1, vI x2] S Q := Mw.ofJ (by decide) (Nat.le_of_ble_eq_true rfl) (JX11_wants_0 _ _ _ S h)
theorem dX11_plain_0 : decode cX11_plain 0 = .ok (.aload_n 0, 1) := by decide +kernel
theorem dX11_plain_1 : decode cX11_plain 1 = .ok (.iconst 0, 1) := by decide +kernel
theorem dX11_plain_2 : decode cX11_plain 2 = .ok (.putfield 3, 3) := by decide +kernel
theorem dX11_plain_5 : decode cX11_plain 5 = .ok (.aload_n 0, 1) := by decide +kernel
theorem dX11_plain_6 : decode cX11_plain 6 = .ok (.aload_n 0, 1) := by decide +kernel
theorem dX11_plain_7 : decode cX11_plain 7 = .ok (.iload_n 1, 1) := by decide +kernel
theorem dX11_plain_8 : decode cX11_plain 8 = .ok (.invokevirtual 194, 3) := by decide +kernel
theorem dX11_plain_11 : decode cX11_plain 11 = .ok (.ifCond .ne 11, 3) := by decide +kernel
theorem dX11_plain_14 : decode cX11_plain 14 = .ok (.aload_n 0, 1) := by decide +kernel
theorem dX11_plain_15 : decode cX11_plain 15 = .ok (.iload_n 2, 1) := by decide +kernel
theorem dX11_plain_16 : decode cX11_plain 16 = .ok (.invokevirtual 194, 3) := by decide +kernel
theorem dX11_plain_19 : decode cX11_plain 19 = .ok (.ifCond .eq 7, 3) := by decide +kernel
theorem dX11_plain_22 : decode cX11_plain 22 = .ok (.iconst 1, 1) := by decide +kernel
theorem dX11_plain_23 : decode cX11_plain 23 = .ok (.goto 4, 3) := by decide +kernel
theorem dX11_plain_26 : decode cX11_plain 26 = .ok (.iconst 0, 1) := by decide +kernel
theorem dX11_plain_27 : decode cX11_plain 27 = .ok (.iconst 1, 1) := by decide +kernel
theorem dX11_plain_28 : decode cX11_plain 28 = .ok (.invokevirtual 190, 3) := by decide +kernel
theorem dX11_plain_31 : decode cX11_plain 31 = .ok (.ifCond .ne 21, 3) := by decide +kernel
theorem dX11_plain_34 : decode cX11_plain 34 = .ok (.aload_n 0, 1) := by decide +kernel
theorem dX11_plain_35 : decode cX11_plain 35 = .ok (.iload_n 1, 1) := by decide +kernel
theorem dX11_plain_36 : decode cX11_plain 36 = .ok (.iload_n 2, 1) := by decide +kernel
theorem dX11_plain_37 : decode cX11_plain 37 = .ok (.if_icmp .ne 7, 3) := by decide +kernel
theorem dX11_plain_40 : decode cX11_plain 40 = .ok (.iconst 1, 1) := by decide +kernel
theorem dX11_plain_41 : decode cX11_plain 41 = .ok (.goto 4, 3) := by decide +kernel
theorem dX11_plain_44 : decode cX11_plain 44 = .ok (.iconst 0, 1) := by decide +kernel
theorem dX11_plain_45 : decode cX11_plain 45 = .ok (.iconst 2, 1) := by decide +kernel
theorem dX11_plain_46 : decode cX11_plain 46 = .ok (.invokevirtual 190, 3) := by decide +kernel
theorem dX11_plain_49 : decode cX11_plain 49 = .ok (.ifCond .eq 5, 3) := by decide +kernel
theorem dX11_plain_52 : decode cX11_plain 52 = .ok (.iconst 0, 1) := by decide +kernel
theorem dX11_plain_53 : decode cX11_plain 53 = .ok (.ireturn, 1) := by decide +kernel
theorem dX11_plain_54 : decode cX11_plain 54 = .ok (.aload_n 0, 1) := by decide +kernel
theorem dX11_plain_55 : decode cX11_plain 55 = .ok (.invokevirtual 253, 3) := by decide +kernel
theorem dX11_plain_58 : decode cX11_plain 58 = .ok (.aload_n 0, 1) := by decide +kernel
theorem dX11_plain_59 : decode cX11_plain 59 = .ok (.iload_n 1, 1) := by decide +kernel
theorem dX11_plain_60 : decode cX11_plain 60 = .ok (.iload_n 2, 1) := by decide +kernel
theorem dX11_plain_61 : decode cX11_plain 61 = .ok (.invokevirtual 265, 3) := by decide +kernel
theorem dX11_plain_64 : decode cX11_plain 64 = .ok (.istore_n 3, 1) := by decide +kernel
theorem dX11_plain_65 : decode cX11_plain 65 = .ok (.iload_n 3, 1) := by decide +kernel
theorem dX11_plain_66 : decode cX11_plain 66 = .ok (.aload_n 0, 1) := by decide +kernel
theorem dX11_plain_67 : decode cX11_plain 67 = .ok (.getfield 45, 3) := by decide +kernel
theorem dX11_plain_70 : decode cX11_plain 70 = .ok (.iconst 0, 1) := by decide +kernel
theorem dX11_plain_71 : decode cX11_plain 71 = .ok (.iaload, 1) := by decide +kernel
theorem dX11_plain_72 : decode cX11_plain 72 = .ok (.iload_n 3, 1) := by decide +kernel
theorem dX11_plain_73 : decode cX11_plain 73 = .ok (.isub, 1) := by decide +kernel
theorem dX11_plain_74 : decode cX11_plain 74 = .ok (.invokestatic 334, 3) := by decide +kernel
theorem dX11_plain_77 : decode cX11_plain 77 = .ok (.ireturn, 1) := by decide +kernel
def VX11_plain_45 (d : Nat) (Q : Out → MS → Prop) (x0 : Nat) (x1 : Int) (x2 : Int) (t0 : Int) (t1 : Nat) (S : MS) : Prop :=
  S.K t1 = 11 ∧ Mw hX11_throwsIf yX11_throwsIf d [vA t1, vI t0, vI 2] S (oI (fun r1 S1 => R32 r1 ∧ ((r1 = 0) → S1.K x0 = 11 ∧ Mw hX11_leaves yX11_leaves d [vA x0] S1 (oV (fun S2 => S2.K x0 = 11 ∧ Mw hX11_heavierIn yX11_heavierIn d [vA x0, vI x1, vI x2] S2 (oI (fun r3 S3 => S3.K x0 = 11 ∧ ∃ b4, S3.R x0 17 = some b4 ∧ ((S3.K b4 = 13 ∧ 0 ≤ (0 : Int) ∧ (0 : Int) < S3.N b4) ∧ ((R32 r3 ∧ R32 ((S3.I b4 ((0 : Int)).toNat) - r3)) ∧ (Q (.inl (some (vI (min r3 ((S3.I b4 ((0 : Int)).toNat) - r3))))) S3)))))))) ∧ (¬ (r1 = 0) → Q (.inl (some (vI 0))) S1)))
theorem JX11_plain_45 {d : Nat} {S0 : MS} {Q : Out → MS → Prop} (x0 : Nat) (x1 : Int) (x2 : Int) (t0 : Int) (t1 : Nat) (S : MS) (h : VX11_plain_45 d Q x0 x1 x2 t0 t1 S) : Jw FinM RX11 cX11_plain 4 (some .int) [] yX11_plain (d + 1) S0 S 45 [(0, vA x0), (1, vI x1), (2, vI x2)] [vI t0, vA t1] Q :=
  j_iconst dX11_plain_45 (j_callV (rest := []) 11 [vI t0, vI 2] k_RX11_190 ⟨w_7_191, p_4_7⟩ ⟨_, _, rfl⟩ (by decide) rfl rfl (Nat.le_of_ble_eq_true rfl) dX11_plain_46 h (kI (fun r1 S1 h => j_if_eq (tgt := 54) dX11_plain_49 (by decide) h (fun h => j_aload_n 0 dX11_plain_54 rfl (j_callV (rest := []) 11 [] k_RX11_253 ⟨w_8_42, p_5_4⟩ ⟨_, _, rfl⟩ (by decide) rfl rfl (Nat.le_of_ble_eq_true rfl) dX11_plain_55 h (kV (fun S2 h => j_aload_n 0 dX11_plain_58 rfl (j_iload_n 1 dX11_plain_59 rfl (j_iload_n 2 dX11_plain_60 rfl (j_callV (rest := []) 11 [vI x1, vI x2] k_RX11_265 ⟨w_8_98, p_5_14⟩ ⟨_, _, rfl⟩ (by decide) rfl rfl (Nat.le_of_ble_eq_true rfl) dX11_plain_61 h (kI (fun r3 S3 h => j_istore_n (lv2 := [(3, vI r3), (0, vA x0), (1, vI x1), (2, vI x2)]) dX11_plain_64 (by decide) rfl (j_iload_n 0 dX11_plain_65 rfl (j_aload_n 1 dX11_plain_66 rfl (j_getR 11 17 f_RX11_45 dX11_plain_67 h (fun b4 h => j_iconst dX11_plain_70 (j_iald dX11_plain_71 h (fun h => j_iload_n 0 dX11_plain_72 rfl (j_isub dX11_plain_73 (j_mmin w_9_12 w_2_64 w_1_16 w_mmin (Nat.le_of_ble_eq_true rfl) dX11_plain_74 h (fun h => j_iret rfl dX11_plain_77 h))))))))))) (fun _ _ h => h.elim)))))) (fun _ _ h => h.elim))) (fun h => j_iconst dX11_plain_52 (j_iret rfl dX11_plain_53 h)))) (fun _ _ h => h.elim))
def VX11_plain_27 (d : Nat) (Q : Out → MS → Prop) (x0 : Nat) (x1 : Int) (x2 : Int) (t0 : Int) (t1 : Nat) (S : MS) : Prop :=
  S.K t1 = 11 ∧ Mw hX11_throwsIf yX11_throwsIf d [vA t1, vI t0, vI 1] S (oI (fun r1 S1 => R32 r1 ∧ (¬ (r1 = 0) → Q (.inl (some (vI 0))) S1) ∧ ((r1 = 0) → (R32 x1 ∧ R32 x2) ∧ (¬ (x1 = x2) → VX11_plain_45 d Q x0 x1 x2 0 x0 S1) ∧ ((x1 = x2) → VX11_plain_45 d Q x0 x1 x2 1 x0 S1))))
theorem JX11_plain_27 {d : Nat} {S0 : MS} {Q : Out → MS → Prop} (x0 : Nat) (x1 : Int) (x2 : Int) (t0 : Int) (t1 : Nat) (S : MS) (h : VX11_plain_27 d Q x0 x1 x2 t0 t1 S) : Jw FinM RX11 cX11_plain 4 (some .int) [] yX11_plain (d + 1) S0 S 27 [(0, vA x0), (1, vI x1), (2, vI x2)] [vI t0, vA t1] Q :=
  j_iconst dX11_plain_27 (j_callV (rest := []) 11 [vI t0, vI 1] k_RX11_190 ⟨w_7_191, p_4_7⟩ ⟨_, _, rfl⟩ (by decide) rfl rfl (Nat.le_of_ble_eq_true rfl) dX11_plain_28 h (kI (fun r1 S1 h => j_if_ne (tgt := 52) dX11_plain_31 (by decide) h (fun h => j_iconst dX11_plain_52 (j_iret rfl dX11_plain_53 h)) (fun h => j_aload_n 0 dX11_plain_34 rfl (j_iload_n 1 dX11_plain_35 rfl (j_iload_n 2 dX11_plain_36 rfl (j_icmp_ne (tgt := 44) dX11_plain_37 (by decide) h (fun h => j_iconst dX11_plain_44 (JX11_plain_45 _ _ _ _ _ _ h)) (fun h => j_iconst dX11_plain_40 (j_goto (tgt := 45) dX11_plain_41 (by decide) (JX11_plain_45 _ _ _ _ _ _ h))))))))) (fun _ _ h => h.elim))
def VX11_plain_22 (d : Nat) (Q : Out → MS → Prop) (x0 : Nat) (x1 : Int) (x2 : Int) (t0 : Nat) (S : MS) : Prop :=
  VX11_plain_27 d Q x0 x1 x2 1 t0 S
theorem JX11_plain_22 {d : Nat} {S0 : MS} {Q : Out → MS → Prop} (x0 : Nat) (x1 : Int) (x2 : Int) (t0 : Nat) (S : MS) (h : VX11_plain_22 d Q x0 x1 x2 t0 S) : Jw FinM RX11 cX11_plain 4 (some .int) [] yX11_plain (d + 1) S0 S 22 [(0, vA x0), (1, vI x1), (2, vI x2)] [vA t0] Q :=
  j_iconst dX11_plain_22 (j_goto (tgt := 27) dX11_plain_23 (by decide) (JX11_plain_27 _ _ _ _ _ _ h))
def VX11_plain_0 (d : Nat) (Q : Out → MS → Prop) (x0 : Nat) (x1 : Int) (x2 : Int) (S : MS) : Prop :=
  S.K x0 = 11 ∧ ((S.setI x0 0 0).K x0 = 11 ∧ Mw hX11_noThing yX11_noThing d [vA x0, vI x1] (S.setI x0 0 0) (oI (fun r1 S1 => R32 r1 ∧ (¬ (r1 = 0) → VX11_plain_22 d Q x0 x1 x2 x0 S1) ∧ ((r1 = 0) → S1.K x0 = 11 ∧ Mw hX11_noThing yX11_noThing d [vA x0, vI x2] S1 (oI (fun r2 S2 => R32 r2 ∧ ((r2 = 0) → VX11_plain_27 d Q x0 x1 x2 0 x0 S2) ∧ (¬ (r2 = 0) → VX11_plain_22 d Q x0 x1 x2 x0 S2)))))))
theorem JX11_plain_0 {d : Nat} {S0 : MS} {Q : Out → MS → Prop} (x0 : Nat) (x1 : Int) (x2 : Int) (S : MS) (h : VX11_plain_0 d Q x0 x1 x2 S) : Jw FinM RX11 cX11_plain 4 (some .int) [] yX11_plain (d + 1) S0 S 0 [(0, vA x0), (1, vI x1), (2, vI x2)] [] Q :=
  j_aload_n 0 dX11_plain_0 rfl (j_iconst dX11_plain_1 (j_putI 11 0 f_RX11_3 dX11_plain_2 h (fun h => j_aload_n 0 dX11_plain_5 rfl (j_aload_n 0 dX11_plain_6 rfl (j_iload_n 1 dX11_plain_7 rfl (j_callV (rest := [vA x0]) 11 [vI x1] k_RX11_194 ⟨w_7_214, p_4_9⟩ ⟨_, _, rfl⟩ (by decide) rfl rfl (Nat.le_of_ble_eq_true rfl) dX11_plain_8 h (kI (fun r1 S1 h => j_if_ne (tgt := 22) dX11_plain_11 (by decide) h (fun h => JX11_plain_22 _ _ _ _ _ h) (fun h => j_aload_n 0 dX11_plain_14 rfl (j_iload_n 2 dX11_plain_15 rfl (j_callV (rest := [vA x0]) 11 [vI x2] k_RX11_194 ⟨w_7_214, p_4_9⟩ ⟨_, _, rfl⟩ (by decide) rfl rfl (Nat.le_of_ble_eq_true rfl) dX11_plain_16 h (kI (fun r2 S2 h => j_if_eq (tgt := 26) dX11_plain_19 (by decide) h (fun h => j_iconst dX11_plain_26 (JX11_plain_27 _ _ _ _ _ _ h)) (fun h => JX11_plain_22 _ _ _ _ _ h))) (fun _ _ h => h.elim)))))) (fun _ _ h => h.elim)))))))
theorem MX11_plain {d : Nat} {x0 : Nat} {x1 : Int} {x2 : Int} {S : MS} {Q : Out → MS → Prop} (h : VX11_plain_0 d Q x0 x1 x2 S) : Mw hX11_plain yX11_plain (d + 1) [vA x0, vI x1, vI x2] S Q := Mw.ofJ (by decide) (Nat.le_of_ble_eq_true rfl) (JX11_plain_0 _ _ _ S h)
theorem dX11_laysThree_0 : decode cX11_laysThree 0 = .ok (.aload_n 0, 1) := by decide +kernel
theorem dX11_laysThree_1 : decode cX11_laysThree 1 = .ok (.dup, 1) := by decide +kernel
theorem dX11_laysThree_2 : decode cX11_laysThree 2 = .ok (.getfield 384, 3) := by decide +kernel
theorem dX11_laysThree_5 : decode cX11_laysThree 5 = .ok (.iconst 1, 1) := by decide +kernel
theorem dX11_laysThree_6 : decode cX11_laysThree 6 = .ok (.iadd, 1) := by decide +kernel
theorem dX11_laysThree_7 : decode cX11_laysThree 7 = .ok (.putfield 384, 3) := by decide +kernel
theorem dX11_laysThree_10 : decode cX11_laysThree 10 = .ok (.aload_n 0, 1) := by decide +kernel
theorem dX11_laysThree_11 : decode cX11_laysThree 11 = .ok (.iconst 0, 1) := by decide +kernel
theorem dX11_laysThree_12 : decode cX11_laysThree 12 = .ok (.iconst 1, 1) := by decide +kernel
theorem dX11_laysThree_13 : decode cX11_laysThree 13 = .ok (.iload_n 1, 1) := by decide +kernel
theorem dX11_laysThree_14 : decode cX11_laysThree 14 = .ok (.ishl, 1) := by decide +kernel
theorem dX11_laysThree_15 : decode cX11_laysThree 15 = .ok (.iconst 1, 1) := by decide +kernel
theorem dX11_laysThree_16 : decode cX11_laysThree 16 = .ok (.iload_n 2, 1) := by decide +kernel
theorem dX11_laysThree_17 : decode cX11_laysThree 17 = .ok (.ishl, 1) := by decide +kernel
theorem dX11_laysThree_18 : decode cX11_laysThree 18 = .ok (.ior, 1) := by decide +kernel
theorem dX11_laysThree_19 : decode cX11_laysThree 19 = .ok (.iconst 1, 1) := by decide +kernel
theorem dX11_laysThree_20 : decode cX11_laysThree 20 = .ok (.iload_n 3, 1) := by decide +kernel
theorem dX11_laysThree_21 : decode cX11_laysThree 21 = .ok (.ishl, 1) := by decide +kernel
theorem dX11_laysThree_22 : decode cX11_laysThree 22 = .ok (.ior, 1) := by decide +kernel
theorem dX11_laysThree_23 : decode cX11_laysThree 23 = .ok (.invokevirtual 209, 3) := by decide +kernel
theorem dX11_laysThree_26 : decode cX11_laysThree 26 = .ok (.ireturn, 1) := by decide +kernel
def VX11_laysThree_0 (d : Nat) (Q : Out → MS → Prop) (x0 : Nat) (x1 : Int) (x2 : Int) (x3 : Int) (S : MS) : Prop :=
  S.K x0 = 11 ∧ (S.K x0 = 11 ∧ ((S.setI x0 37 ((S.I x0 37) + 1)).K x0 = 11 ∧ Mw hX11_truly yX11_truly d [vA x0, vI 0, vI (iOr (iOr (iShl 1 x1) (iShl 1 x2)) (iShl 1 x3))] (S.setI x0 37 ((S.I x0 37) + 1)) (oI (fun r1 S1 => Q (.inl (some (vI r1))) S1))))
theorem JX11_laysThree_0 {d : Nat} {S0 : MS} {Q : Out → MS → Prop} (x0 : Nat) (x1 : Int) (x2 : Int) (x3 : Int) (S : MS) (h : VX11_laysThree_0 d Q x0 x1 x2 x3 S) : Jw FinM RX11 cX11_laysThree 4 (some .int) [] yX11_laysThree (d + 1) S0 S 0 [(0, vA x0), (1, vI x1), (2, vI x2), (3, vI x3)] [] Q :=
  j_aload_n 0 dX11_laysThree_0 rfl (j_dup rfl dX11_laysThree_1 (j_getI 11 37 f_RX11_384 dX11_laysThree_2 h (fun h => j_iconst dX11_laysThree_5 (j_iadd dX11_laysThree_6 (j_putI 11 37 f_RX11_384 dX11_laysThree_7 h (fun h => j_aload_n 0 dX11_laysThree_10 rfl (j_iconst dX11_laysThree_11 (j_iconst dX11_laysThree_12 (j_iload_n 1 dX11_laysThree_13 rfl (j_ishl dX11_laysThree_14 (j_iconst dX11_laysThree_15 (j_iload_n 2 dX11_laysThree_16 rfl (j_ishl dX11_laysThree_17 (j_ior dX11_laysThree_18 (j_iconst dX11_laysThree_19 (j_iload_n 3 dX11_laysThree_20 rfl (j_ishl dX11_laysThree_21 (j_ior dX11_laysThree_22 (j_callV (rest := []) 11 [vI 0, vI (iOr (iOr (iShl 1 x1) (iShl 1 x2)) (iShl 1 x3))] k_RX11_209 ⟨w_8_3, p_4_15⟩ ⟨_, _, rfl⟩ (by decide) rfl rfl (Nat.le_of_ble_eq_true rfl) dX11_laysThree_23 h (kI (fun r1 S1 h => j_iret rfl dX11_laysThree_26 h)) (fun _ _ h => h.elim))))))))))))))))))))
theorem MX11_laysThree {d : Nat} {x0 : Nat} {x1 : Int} {x2 : Int} {x3 : Int} {S : MS} {Q : Out → MS → Prop} (h : VX11_laysThree_0 d Q x0 x1 x2 x3 S) : Mw hX11_laysThree yX11_laysThree (d + 1) [vA x0, vI x1, vI x2, vI x3] S Q := Mw.ofJ (by decide) (Nat.le_of_ble_eq_true rfl) (JX11_laysThree_0 _ _ _ _ S h)
theorem dX11_comesAt_0 : decode cX11_comesAt 0 = .ok (.iconst 0, 1) := by decide +kernel
theorem dX11_comesAt_1 : decode cX11_comesAt 1 = .ok (.istore_n 3, 1) := by decide +kernel
theorem dX11_comesAt_2 : decode cX11_comesAt 2 = .ok (.iload_n 2, 1) := by decide +kernel
theorem dX11_comesAt_3 : decode cX11_comesAt 3 = .ok (.istore 4, 2) := by decide +kernel
theorem dX11_comesAt_5 : decode cX11_comesAt 5 = .ok (.iload_n 3, 1) := by decide +kernel
theorem dX11_comesAt_6 : decode cX11_comesAt 6 = .ok (.iload 4, 2) := by decide +kernel
theorem dX11_comesAt_8 : decode cX11_comesAt 8 = .ok (.if_icmp .ge 173, 3) := by decide +kernel
theorem dX11_comesAt_11 : decode cX11_comesAt 11 = .ok (.iload 4, 2) := by decide +kernel
theorem dX11_comesAt_13 : decode cX11_comesAt 13 = .ok (.iload_n 3, 1) := by decide +kernel
theorem dX11_comesAt_14 : decode cX11_comesAt 14 = .ok (.iconst 1, 1) := by decide +kernel
theorem dX11_comesAt_15 : decode cX11_comesAt 15 = .ok (.iadd, 1) := by decide +kernel
theorem dX11_comesAt_16 : decode cX11_comesAt 16 = .ok (.if_icmp .ne 74, 3) := by decide +kernel
theorem dX11_comesAt_19 : decode cX11_comesAt 19 = .ok (.aload_n 0, 1) := by decide +kernel
theorem dX11_comesAt_20 : decode cX11_comesAt 20 = .ok (.iload_n 1, 1) := by decide +kernel
theorem dX11_comesAt_21 : decode cX11_comesAt 21 = .ok (.aload_n 0, 1) := by decide +kernel
theorem dX11_comesAt_22 : decode cX11_comesAt 22 = .ok (.getfield 76, 3) := by decide +kernel
theorem dX11_comesAt_25 : decode cX11_comesAt 25 = .ok (.iconst 0, 1) := by decide +kernel
theorem dX11_comesAt_26 : decode cX11_comesAt 26 = .ok (.iload_n 3, 1) := by decide +kernel
theorem dX11_comesAt_27 : decode cX11_comesAt 27 = .ok (.iconst 1, 1) := by decide +kernel
theorem dX11_comesAt_28 : decode cX11_comesAt 28 = .ok (.isub, 1) := by decide +kernel
theorem dX11_comesAt_29 : decode cX11_comesAt 29 = .ok (.invokestatic 316, 3) := by decide +kernel
theorem dX11_comesAt_32 : decode cX11_comesAt 32 = .ok (.iaload, 1) := by decide +kernel
theorem dX11_comesAt_33 : decode cX11_comesAt 33 = .ok (.aload_n 0, 1) := by decide +kernel
theorem dX11_comesAt_34 : decode cX11_comesAt 34 = .ok (.getfield 76, 3) := by decide +kernel
theorem dX11_comesAt_37 : decode cX11_comesAt 37 = .ok (.iload_n 3, 1) := by decide +kernel
theorem dX11_comesAt_38 : decode cX11_comesAt 38 = .ok (.ifCond .ne 7, 3) := by decide +kernel
theorem dX11_comesAt_41 : decode cX11_comesAt 41 = .ok (.iconst 1, 1) := by decide +kernel
theorem dX11_comesAt_42 : decode cX11_comesAt 42 = .ok (.goto 4, 3) := by decide +kernel
theorem dX11_comesAt_45 : decode cX11_comesAt 45 = .ok (.iload_n 3, 1) := by decide +kernel
theorem dX11_comesAt_46 : decode cX11_comesAt 46 = .ok (.iaload, 1) := by decide +kernel
theorem dX11_comesAt_47 : decode cX11_comesAt 47 = .ok (.invokevirtual 387, 3) := by decide +kernel
theorem dX11_comesAt_50 : decode cX11_comesAt 50 = .ok (.iload_n 1, 1) := by decide +kernel
theorem dX11_comesAt_51 : decode cX11_comesAt 51 = .ok (.if_icmp .ne 7, 3) := by decide +kernel
theorem dX11_comesAt_54 : decode cX11_comesAt 54 = .ok (.iconst 1, 1) := by decide +kernel
theorem dX11_comesAt_55 : decode cX11_comesAt 55 = .ok (.goto 4, 3) := by decide +kernel
theorem dX11_comesAt_58 : decode cX11_comesAt 58 = .ok (.iconst 0, 1) := by decide +kernel
theorem dX11_comesAt_59 : decode cX11_comesAt 59 = .ok (.istore 5, 2) := by decide +kernel
theorem dX11_comesAt_61 : decode cX11_comesAt 61 = .ok (.iload_n 3, 1) := by decide +kernel
theorem dX11_comesAt_62 : decode cX11_comesAt 62 = .ok (.ifCond .ne 11, 3) := by decide +kernel
theorem dX11_comesAt_65 : decode cX11_comesAt 65 = .ok (.iload 5, 2) := by decide +kernel
theorem dX11_comesAt_67 : decode cX11_comesAt 67 = .ok (.ifCond .eq 17, 3) := by decide +kernel
theorem dX11_comesAt_70 : decode cX11_comesAt 70 = .ok (.goto 8, 3) := by decide +kernel
theorem dX11_comesAt_73 : decode cX11_comesAt 73 = .ok (.iload 5, 2) := by decide +kernel
theorem dX11_comesAt_75 : decode cX11_comesAt 75 = .ok (.ifCond .ne 9, 3) := by decide +kernel
theorem dX11_comesAt_78 : decode cX11_comesAt 78 = .ok (.iload 4, 2) := by decide +kernel
theorem dX11_comesAt_80 : decode cX11_comesAt 80 = .ok (.istore_n 3, 1) := by decide +kernel
theorem dX11_comesAt_81 : decode cX11_comesAt 81 = .ok (.goto (-76), 3) := by decide +kernel
theorem dX11_comesAt_84 : decode cX11_comesAt 84 = .ok (.iload_n 3, 1) := by decide +kernel
theorem dX11_comesAt_85 : decode cX11_comesAt 85 = .ok (.istore 4, 2) := by decide +kernel
theorem dX11_comesAt_87 : decode cX11_comesAt 87 = .ok (.goto (-82), 3) := by decide +kernel
theorem dX11_comesAt_90 : decode cX11_comesAt 90 = .ok (.iload 4, 2) := by decide +kernel
theorem dX11_comesAt_92 : decode cX11_comesAt 92 = .ok (.iload_n 3, 1) := by decide +kernel
theorem dX11_comesAt_93 : decode cX11_comesAt 93 = .ok (.isub, 1) := by decide +kernel
theorem dX11_comesAt_94 : decode cX11_comesAt 94 = .ok (.iconst 2, 1) := by decide +kernel
theorem dX11_comesAt_95 : decode cX11_comesAt 95 = .ok (.isub, 1) := by decide +kernel
theorem dX11_comesAt_96 : decode cX11_comesAt 96 = .ok (.iconst 3, 1) := by decide +kernel
theorem dX11_comesAt_97 : decode cX11_comesAt 97 = .ok (.idiv, 1) := by decide +kernel
theorem dX11_comesAt_98 : decode cX11_comesAt 98 = .ok (.istore 5, 2) := by decide +kernel
theorem dX11_comesAt_100 : decode cX11_comesAt 100 = .ok (.iload_n 3, 1) := by decide +kernel
theorem dX11_comesAt_101 : decode cX11_comesAt 101 = .ok (.iload 5, 2) := by decide +kernel
theorem dX11_comesAt_103 : decode cX11_comesAt 103 = .ok (.iadd, 1) := by decide +kernel
theorem dX11_comesAt_104 : decode cX11_comesAt 104 = .ok (.istore 6, 2) := by decide +kernel
theorem dX11_comesAt_106 : decode cX11_comesAt 106 = .ok (.iload 4, 2) := by decide +kernel
theorem dX11_comesAt_108 : decode cX11_comesAt 108 = .ok (.iconst 1, 1) := by decide +kernel
theorem dX11_comesAt_109 : decode cX11_comesAt 109 = .ok (.isub, 1) := by decide +kernel
theorem dX11_comesAt_110 : decode cX11_comesAt 110 = .ok (.iload 5, 2) := by decide +kernel
theorem dX11_comesAt_112 : decode cX11_comesAt 112 = .ok (.isub, 1) := by decide +kernel
theorem dX11_comesAt_113 : decode cX11_comesAt 113 = .ok (.istore 7, 2) := by decide +kernel
theorem dX11_comesAt_115 : decode cX11_comesAt 115 = .ok (.aload_n 0, 1) := by decide +kernel
theorem dX11_comesAt_116 : decode cX11_comesAt 116 = .ok (.iload_n 1, 1) := by decide +kernel
theorem dX11_comesAt_117 : decode cX11_comesAt 117 = .ok (.aload_n 0, 1) := by decide +kernel
theorem dX11_comesAt_118 : decode cX11_comesAt 118 = .ok (.getfield 76, 3) := by decide +kernel
theorem dX11_comesAt_121 : decode cX11_comesAt 121 = .ok (.iload 6, 2) := by decide +kernel
theorem dX11_comesAt_123 : decode cX11_comesAt 123 = .ok (.iaload, 1) := by decide +kernel
theorem dX11_comesAt_124 : decode cX11_comesAt 124 = .ok (.aload_n 0, 1) := by decide +kernel
theorem dX11_comesAt_125 : decode cX11_comesAt 125 = .ok (.getfield 76, 3) := by decide +kernel
theorem dX11_comesAt_128 : decode cX11_comesAt 128 = .ok (.iload 7, 2) := by decide +kernel
theorem dX11_comesAt_130 : decode cX11_comesAt 130 = .ok (.iaload, 1) := by decide +kernel
theorem dX11_comesAt_131 : decode cX11_comesAt 131 = .ok (.invokevirtual 387, 3) := by decide +kernel
theorem dX11_comesAt_134 : decode cX11_comesAt 134 = .ok (.istore 8, 2) := by decide +kernel
theorem dX11_comesAt_136 : decode cX11_comesAt 136 = .ok (.iload 8, 2) := by decide +kernel
theorem dX11_comesAt_138 : decode cX11_comesAt 138 = .ok (.iload_n 1, 1) := by decide +kernel
theorem dX11_comesAt_139 : decode cX11_comesAt 139 = .ok (.if_icmp .ne 15, 3) := by decide +kernel
theorem dX11_comesAt_142 : decode cX11_comesAt 142 = .ok (.iload 6, 2) := by decide +kernel
theorem dX11_comesAt_144 : decode cX11_comesAt 144 = .ok (.iconst 1, 1) := by decide +kernel
theorem dX11_comesAt_145 : decode cX11_comesAt 145 = .ok (.iadd, 1) := by decide +kernel
theorem dX11_comesAt_146 : decode cX11_comesAt 146 = .ok (.istore_n 3, 1) := by decide +kernel
theorem dX11_comesAt_147 : decode cX11_comesAt 147 = .ok (.iload 7, 2) := by decide +kernel
theorem dX11_comesAt_149 : decode cX11_comesAt 149 = .ok (.istore 4, 2) := by decide +kernel
theorem dX11_comesAt_151 : decode cX11_comesAt 151 = .ok (.goto 27, 3) := by decide +kernel
theorem dX11_comesAt_154 : decode cX11_comesAt 154 = .ok (.iload 8, 2) := by decide +kernel
theorem dX11_comesAt_156 : decode cX11_comesAt 156 = .ok (.aload_n 0, 1) := by decide +kernel
theorem dX11_comesAt_157 : decode cX11_comesAt 157 = .ok (.getfield 76, 3) := by decide +kernel
theorem dX11_comesAt_160 : decode cX11_comesAt 160 = .ok (.iload 6, 2) := by decide +kernel
theorem dX11_comesAt_162 : decode cX11_comesAt 162 = .ok (.iaload, 1) := by decide +kernel
theorem dX11_comesAt_163 : decode cX11_comesAt 163 = .ok (.if_icmp .ne 10, 3) := by decide +kernel
theorem dX11_comesAt_166 : decode cX11_comesAt 166 = .ok (.iload 6, 2) := by decide +kernel
theorem dX11_comesAt_168 : decode cX11_comesAt 168 = .ok (.istore 4, 2) := by decide +kernel
theorem dX11_comesAt_170 : decode cX11_comesAt 170 = .ok (.goto 8, 3) := by decide +kernel
theorem dX11_comesAt_173 : decode cX11_comesAt 173 = .ok (.iload 7, 2) := by decide +kernel
theorem dX11_comesAt_175 : decode cX11_comesAt 175 = .ok (.iconst 1, 1) := by decide +kernel
theorem dX11_comesAt_176 : decode cX11_comesAt 176 = .ok (.iadd, 1) := by decide +kernel
theorem dX11_comesAt_177 : decode cX11_comesAt 177 = .ok (.istore_n 3, 1) := by decide +kernel
theorem dX11_comesAt_178 : decode cX11_comesAt 178 = .ok (.goto (-173), 3) := by decide +kernel
theorem dX11_comesAt_181 : decode cX11_comesAt 181 = .ok (.iload_n 3, 1) := by decide +kernel
theorem dX11_comesAt_182 : decode cX11_comesAt 182 = .ok (.ireturn, 1) := by decide +kernel
def VX11_comesAt_78 (d : Nat) (c5 : Nat → Int → Int → Int → MS → Prop) (Q : Out → MS → Prop) (x0 : Nat) (x1 : Int) (x4 : Int) (S : MS) : Prop :=
  c5 x0 x1 x4 x4 S
theorem JX11_comesAt_78 {d : Nat} {c5 : Nat → Int → Int → Int → MS → Prop} {S0 : MS} {Q : Out → MS → Prop} (hc5 : ∀ (x0 : Nat) (x1 : Int) (x3 : Int) (x4 : Int) (S : MS), c5 x0 x1 x3 x4 S → Jw FinM RX11 cX11_comesAt 9 (some .int) [] yX11_comesAt (d + 1) S0 S 5 [(0, vA x0), (1, vI x1), (3, vI x3), (4, vI x4)] [] Q) (x0 : Nat) (x1 : Int) (x4 : Int) (S : MS) (h : VX11_comesAt_78 d c5 Q x0 x1 x4 S) : Jw FinM RX11 cX11_comesAt 9 (some .int) [] yX11_comesAt (d + 1) S0 S 78 [(0, vA x0), (1, vI x1), (4, vI x4)] [] Q :=
  j_iload 2 dX11_comesAt_78 rfl (j_istore_n (lv2 := [(3, vI x4), (0, vA x0), (1, vI x1), (4, vI x4)]) dX11_comesAt_80 (by decide) rfl (j_goto (tgt := 5) dX11_comesAt_81 (by decide) (j_sub [1, 2, 0, 3] rfl (hc5 _ _ _ _ _ h))))
def VX11_comesAt_84 (d : Nat) (c5 : Nat → Int → Int → Int → MS → Prop) (Q : Out → MS → Prop) (x0 : Nat) (x1 : Int) (x3 : Int) (S : MS) : Prop :=
  c5 x0 x1 x3 x3 S
theorem JX11_comesAt_84 {d : Nat} {c5 : Nat → Int → Int → Int → MS → Prop} {S0 : MS} {Q : Out → MS → Prop} (hc5 : ∀ (x0 : Nat) (x1 : Int) (x3 : Int) (x4 : Int) (S : MS), c5 x0 x1 x3 x4 S → Jw FinM RX11 cX11_comesAt 9 (some .int) [] yX11_comesAt (d + 1) S0 S 5 [(0, vA x0), (1, vI x1), (3, vI x3), (4, vI x4)] [] Q) (x0 : Nat) (x1 : Int) (x3 : Int) (S : MS) (h : VX11_comesAt_84 d c5 Q x0 x1 x3 S) : Jw FinM RX11 cX11_comesAt 9 (some .int) [] yX11_comesAt (d + 1) S0 S 84 [(0, vA x0), (1, vI x1), (3, vI x3)] [] Q :=
  j_iload_n 2 dX11_comesAt_84 rfl (j_istore (lv2 := [(4, vI x3), (0, vA x0), (1, vI x1), (3, vI x3)]) dX11_comesAt_85 (by decide) rfl (j_goto (tgt := 5) dX11_comesAt_87 (by decide) (j_sub [1, 2, 3, 0] rfl (hc5 _ _ _ _ _ h))))
def VX11_comesAt_59 (d : Nat) (c5 : Nat → Int → Int → Int → MS → Prop) (Q : Out → MS → Prop) (x0 : Nat) (x1 : Int) (x3 : Int) (x4 : Int) (t0 : Int) (S : MS) : Prop :=
  R32 x3 ∧ (¬ (x3 = 0) → R32 t0 ∧ (¬ (t0 = 0) → VX11_comesAt_84 d c5 Q x0 x1 x3 S) ∧ ((t0 = 0) → VX11_comesAt_78 d c5 Q x0 x1 x4 S)) ∧ ((x3 = 0) → R32 t0 ∧ ((t0 = 0) → VX11_comesAt_84 d c5 Q x0 x1 x3 S) ∧ (¬ (t0 = 0) → VX11_comesAt_78 d c5 Q x0 x1 x4 S))
theorem JX11_comesAt_59 {d : Nat} {c5 : Nat → Int → Int → Int → MS → Prop} {S0 : MS} {Q : Out → MS → Prop} (hc5 : ∀ (x0 : Nat) (x1 : Int) (x3 : Int) (x4 : Int) (S : MS), c5 x0 x1 x3 x4 S → Jw FinM RX11 cX11_comesAt 9 (some .int) [] yX11_comesAt (d + 1) S0 S 5 [(0, vA x0), (1, vI x1), (3, vI x3), (4, vI x4)] [] Q) (x0 : Nat) (x1 : Int) (x3 : Int) (x4 : Int) (t0 : Int) (S : MS) (h : VX11_comesAt_59 d c5 Q x0 x1 x3 x4 t0 S) : Jw FinM RX11 cX11_comesAt 9 (some .int) [] yX11_comesAt (d + 1) S0 S 59 [(0, vA x0), (1, vI x1), (3, vI x3), (4, vI x4)] [vI t0] Q :=
  j_istore (lv2 := [(5, vI t0), (0, vA x0), (1, vI x1), (3, vI x3), (4, vI x4)]) dX11_comesAt_59 (by decide) rfl (j_iload_n 3 dX11_comesAt_61 rfl (j_if_ne (tgt := 73) dX11_comesAt_62 (by decide) h (fun h => j_iload 0 dX11_comesAt_73 rfl (j_if_ne (tgt := 84) dX11_comesAt_75 (by decide) h (fun h => j_sub [1, 2, 3] rfl (JX11_comesAt_84 hc5 _ _ _ _ h)) (fun h => j_sub [1, 2, 4] rfl (JX11_comesAt_78 hc5 _ _ _ _ h)))) (fun h => j_iload 0 dX11_comesAt_65 rfl (j_if_eq (tgt := 84) dX11_comesAt_67 (by decide) h (fun h => j_sub [1, 2, 3] rfl (JX11_comesAt_84 hc5 _ _ _ _ h)) (fun h => j_goto (tgt := 78) dX11_comesAt_70 (by decide) (j_sub [1, 2, 4] rfl (JX11_comesAt_78 hc5 _ _ _ _ h)))))))
def VX11_comesAt_46 (d : Nat) (c5 : Nat → Int → Int → Int → MS → Prop) (Q : Out → MS → Prop) (x0 : Nat) (x1 : Int) (x3 : Int) (x4 : Int) (t0 : Int) (t1 : Nat) (t2 : Int) (t3 : Int) (t4 : Nat) (S : MS) : Prop :=
  (S.K t1 = 13 ∧ 0 ≤ t0 ∧ t0 < S.N t1) ∧ (S.K t4 = 11 ∧ Mw hX11_laysThree yX11_laysThree d [vA t4, vI t3, vI t2, vI (S.I t1 (t0).toNat)] S (oI (fun r1 S1 => (R32 r1 ∧ R32 x1) ∧ (¬ (r1 = x1) → VX11_comesAt_59 d c5 Q x0 x1 x3 x4 0 S1) ∧ ((r1 = x1) → VX11_comesAt_59 d c5 Q x0 x1 x3 x4 1 S1))))
theorem JX11_comesAt_46 {d : Nat} {c5 : Nat → Int → Int → Int → MS → Prop} {S0 : MS} {Q : Out → MS → Prop} (hc5 : ∀ (x0 : Nat) (x1 : Int) (x3 : Int) (x4 : Int) (S : MS), c5 x0 x1 x3 x4 S → Jw FinM RX11 cX11_comesAt 9 (some .int) [] yX11_comesAt (d + 1) S0 S 5 [(0, vA x0), (1, vI x1), (3, vI x3), (4, vI x4)] [] Q) (x0 : Nat) (x1 : Int) (x3 : Int) (x4 : Int) (t0 : Int) (t1 : Nat) (t2 : Int) (t3 : Int) (t4 : Nat) (S : MS) (h : VX11_comesAt_46 d c5 Q x0 x1 x3 x4 t0 t1 t2 t3 t4 S) : Jw FinM RX11 cX11_comesAt 9 (some .int) [] yX11_comesAt (d + 1) S0 S 46 [(0, vA x0), (1, vI x1), (3, vI x3), (4, vI x4)] [vI t0, vA t1, vI t2, vI t3, vA t4] Q :=
  j_iald dX11_comesAt_46 h (fun h => j_callV (rest := []) 11 [vI t3, vI t2, vI (S.I t1 (t0).toNat)] k_RX11_387 ⟨w_9_86, p_7_8⟩ ⟨_, _, rfl⟩ (by decide) rfl rfl (Nat.le_of_ble_eq_true rfl) dX11_comesAt_47 h (kI (fun r1 S1 h => j_iload_n 1 dX11_comesAt_50 rfl (j_icmp_ne (tgt := 58) dX11_comesAt_51 (by decide) h (fun h => j_iconst dX11_comesAt_58 (JX11_comesAt_59 hc5 _ _ _ _ _ _ h)) (fun h => j_iconst dX11_comesAt_54 (j_goto (tgt := 59) dX11_comesAt_55 (by decide) (JX11_comesAt_59 hc5 _ _ _ _ _ _ h)))))) (fun _ _ h => h.elim))
def VX11_comesAt_178 (d : Nat) (c5 : Nat → Int → Int → Int → MS → Prop) (Q : Out → MS → Prop) (x0 : Nat) (x1 : Int) (x3 : Int) (x4 : Int) (S : MS) : Prop :=
  c5 x0 x1 x3 x4 S
theorem JX11_comesAt_178 {d : Nat} {c5 : Nat → Int → Int → Int → MS → Prop} {S0 : MS} {Q : Out → MS → Prop} (hc5 : ∀ (x0 : Nat) (x1 : Int) (x3 : Int) (x4 : Int) (S : MS), c5 x0 x1 x3 x4 S → Jw FinM RX11 cX11_comesAt 9 (some .int) [] yX11_comesAt (d + 1) S0 S 5 [(0, vA x0), (1, vI x1), (3, vI x3), (4, vI x4)] [] Q) (x0 : Nat) (x1 : Int) (x3 : Int) (x4 : Int) (S : MS) (h : VX11_comesAt_178 d c5 Q x0 x1 x3 x4 S) : Jw FinM RX11 cX11_comesAt 9 (some .int) [] yX11_comesAt (d + 1) S0 S 178 [(0, vA x0), (1, vI x1), (3, vI x3), (4, vI x4)] [] Q :=
  j_goto (tgt := 5) dX11_comesAt_178 (by decide) (hc5 _ _ _ _ _ h)
def VX11_comesAt_5 (d : Nat) (Q : Out → MS → Prop) : Nat → Nat → Int → Int → Int → MS → Prop
  | 0, _, _, _, _, _ => False
  | n + 1, x0, x1, x3, x4, S => (R32 x3 ∧ R32 x4) ∧ ((x4 ≤ x3) → Q (.inl (some (vI x3))) S) ∧ (¬ (x4 ≤ x3) → (R32 x4 ∧ R32 (x3 + 1)) ∧ (¬ (x4 = (x3 + 1)) → (R32 (3 : Int) ∧ (3 : Int) ≠ 0) ∧ (S.K x0 = 11 ∧ ∃ b1, S.R x0 36 = some b1 ∧ ((S.K b1 = 13 ∧ 0 ≤ (x3 + (iDiv ((x4 - x3) - 2) 3)) ∧ (x3 + (iDiv ((x4 - x3) - 2) 3)) < S.N b1) ∧ (S.K x0 = 11 ∧ ∃ b2, S.R x0 36 = some b2 ∧ ((S.K b2 = 13 ∧ 0 ≤ ((x4 - 1) - (iDiv ((x4 - x3) - 2) 3)) ∧ ((x4 - 1) - (iDiv ((x4 - x3) - 2) 3)) < S.N b2) ∧ (S.K x0 = 11 ∧ Mw hX11_laysThree yX11_laysThree d [vA x0, vI x1, vI (S.I b1 ((x3 + (iDiv ((x4 - x3) - 2) 3))).toNat), vI (S.I b2 (((x4 - 1) - (iDiv ((x4 - x3) - 2) 3))).toNat)] S (oI (fun r3 S3 => (R32 r3 ∧ R32 x1) ∧ (¬ (r3 = x1) → S3.K x0 = 11 ∧ ∃ b4, S3.R x0 36 = some b4 ∧ ((S3.K b4 = 13 ∧ 0 ≤ (x3 + (iDiv ((x4 - x3) - 2) 3)) ∧ (x3 + (iDiv ((x4 - x3) - 2) 3)) < S3.N b4) ∧ ((R32 r3 ∧ R32 (S3.I b4 ((x3 + (iDiv ((x4 - x3) - 2) 3))).toNat)) ∧ (¬ (r3 = (S3.I b4 ((x3 + (iDiv ((x4 - x3) - 2) 3))).toNat)) → VX11_comesAt_178 d (VX11_comesAt_5 d Q n) Q x0 x1 (((x4 - 1) - (iDiv ((x4 - x3) - 2) 3)) + 1) x4 S3) ∧ ((r3 = (S3.I b4 ((x3 + (iDiv ((x4 - x3) - 2) 3))).toNat)) → VX11_comesAt_178 d (VX11_comesAt_5 d Q n) Q x0 x1 x3 (x3 + (iDiv ((x4 - x3) - 2) 3)) S3)))) ∧ ((r3 = x1) → VX11_comesAt_178 d (VX11_comesAt_5 d Q n) Q x0 x1 ((x3 + (iDiv ((x4 - x3) - 2) 3)) + 1) ((x4 - 1) - (iDiv ((x4 - x3) - 2) 3)) S3))))))))) ∧ ((x4 = (x3 + 1)) → S.K x0 = 11 ∧ ∃ b5, S.R x0 36 = some b5 ∧ ((R32 (0 : Int) ∧ R32 (x3 - 1)) ∧ ((S.K b5 = 13 ∧ 0 ≤ (max (0 : Int) (x3 - 1)) ∧ (max (0 : Int) (x3 - 1)) < S.N b5) ∧ (S.K x0 = 11 ∧ ∃ b6, S.R x0 36 = some b6 ∧ (R32 x3 ∧ (¬ (x3 = 0) → VX11_comesAt_46 d (VX11_comesAt_5 d Q n) Q x0 x1 x3 x4 x3 b6 (S.I b5 ((max (0 : Int) (x3 - 1))).toNat) x1 x0 S) ∧ ((x3 = 0) → VX11_comesAt_46 d (VX11_comesAt_5 d Q n) Q x0 x1 x3 x4 1 b6 (S.I b5 ((max (0 : Int) (x3 - 1))).toNat) x1 x0 S)))))))
theorem JX11_comesAt_5 {d : Nat} {S0 : MS} {Q : Out → MS → Prop} : ∀ (n : Nat) (x0 : Nat) (x1 : Int) (x3 : Int) (x4 : Int) (S : MS), VX11_comesAt_5 d Q n x0 x1 x3 x4 S → Jw FinM RX11 cX11_comesAt 9 (some .int) [] yX11_comesAt (d + 1) S0 S 5 [(0, vA x0), (1, vI x1), (3, vI x3), (4, vI x4)] [] Q := by
  intro n
  induction n with
  | zero => intro x0 x1 x3 x4 S h; exact h.elim
  | succ n ih =>
    intro x0 x1 x3 x4 S h
    exact j_iload_n 2 dX11_comesAt_5 rfl (j_iload 3 dX11_comesAt_6 rfl (j_icmp_ge (tgt := 181) dX11_comesAt_8 (by decide) h (fun h => j_iload_n 2 dX11_comesAt_181 rfl (j_iret rfl dX11_comesAt_182 h)) (fun h => j_iload 3 dX11_comesAt_11 rfl (j_iload_n 2 dX11_comesAt_13 rfl (j_iconst dX11_comesAt_14 (j_iadd dX11_comesAt_15 (j_icmp_ne (tgt := 90) dX11_comesAt_16 (by decide) h (fun h => j_iload 3 dX11_comesAt_90 rfl (j_iload_n 2 dX11_comesAt_92 rfl (j_isub dX11_comesAt_93 (j_iconst dX11_comesAt_94 (j_isub dX11_comesAt_95 (j_iconst dX11_comesAt_96 (j_idiv dX11_comesAt_97 h (fun h => j_istore (lv2 := [(5, vI (iDiv ((x4 - x3) - 2) 3)), (0, vA x0), (1, vI x1), (3, vI x3), (4, vI x4)]) dX11_comesAt_98 (by decide) rfl (j_iload_n 3 dX11_comesAt_100 rfl (j_iload 0 dX11_comesAt_101 rfl (j_iadd dX11_comesAt_103 (j_istore (lv2 := [(6, vI (x3 + (iDiv ((x4 - x3) - 2) 3))), (5, vI (iDiv ((x4 - x3) - 2) 3)), (0, vA x0), (1, vI x1), (3, vI x3), (4, vI x4)]) dX11_comesAt_104 (by decide) rfl (j_iload 5 dX11_comesAt_106 rfl (j_iconst dX11_comesAt_108 (j_isub dX11_comesAt_109 (j_iload 1 dX11_comesAt_110 rfl (j_isub dX11_comesAt_112 (j_istore (lv2 := [(7, vI ((x4 - 1) - (iDiv ((x4 - x3) - 2) 3))), (6, vI (x3 + (iDiv ((x4 - x3) - 2) 3))), (5, vI (iDiv ((x4 - x3) - 2) 3)), (0, vA x0), (1, vI x1), (3, vI x3), (4, vI x4)]) dX11_comesAt_113 (by decide) rfl (j_aload_n 3 dX11_comesAt_115 rfl (j_iload_n 4 dX11_comesAt_116 rfl (j_aload_n 3 dX11_comesAt_117 rfl (j_getR 11 36 f_RX11_76 dX11_comesAt_118 h (fun b1 h => j_iload 1 dX11_comesAt_121 rfl (j_iald dX11_comesAt_123 h (fun h => j_aload_n 3 dX11_comesAt_124 rfl (j_getR 11 36 f_RX11_76 dX11_comesAt_125 h (fun b2 h => j_iload 0 dX11_comesAt_128 rfl (j_iald dX11_comesAt_130 h (fun h => j_callV (rest := []) 11 [vI x1, vI (S.I b1 ((x3 + (iDiv ((x4 - x3) - 2) 3))).toNat), vI (S.I b2 (((x4 - 1) - (iDiv ((x4 - x3) - 2) 3))).toNat)] k_RX11_387 ⟨w_9_86, p_7_8⟩ ⟨_, _, rfl⟩ (by decide) rfl rfl (Nat.le_of_ble_eq_true rfl) dX11_comesAt_131 h (kI (fun r3 S3 h => j_istore (lv2 := [(8, vI r3), (7, vI ((x4 - 1) - (iDiv ((x4 - x3) - 2) 3))), (6, vI (x3 + (iDiv ((x4 - x3) - 2) 3))), (5, vI (iDiv ((x4 - x3) - 2) 3)), (0, vA x0), (1, vI x1), (3, vI x3), (4, vI x4)]) dX11_comesAt_134 (by decide) rfl (j_iload 0 dX11_comesAt_136 rfl (j_iload_n 5 dX11_comesAt_138 rfl (j_icmp_ne (tgt := 154) dX11_comesAt_139 (by decide) h (fun h => j_iload 0 dX11_comesAt_154 rfl (j_aload_n 4 dX11_comesAt_156 rfl (j_getR 11 36 f_RX11_76 dX11_comesAt_157 h (fun b4 h => j_iload 2 dX11_comesAt_160 rfl (j_iald dX11_comesAt_162 h (fun h => j_icmp_ne (tgt := 173) dX11_comesAt_163 (by decide) h (fun h => j_iload 1 dX11_comesAt_173 rfl (j_iconst dX11_comesAt_175 (j_iadd dX11_comesAt_176 (j_istore_n (lv2 := [(3, vI (((x4 - 1) - (iDiv ((x4 - x3) - 2) 3)) + 1)), (8, vI r3), (7, vI ((x4 - 1) - (iDiv ((x4 - x3) - 2) 3))), (6, vI (x3 + (iDiv ((x4 - x3) - 2) 3))), (5, vI (iDiv ((x4 - x3) - 2) 3)), (0, vA x0), (1, vI x1), (4, vI x4)]) dX11_comesAt_177 (by decide) rfl (j_sub [5, 6, 0, 7] rfl (JX11_comesAt_178 ih _ _ _ _ _ h)))))) (fun h => j_iload 2 dX11_comesAt_166 rfl (j_istore (lv2 := [(4, vI (x3 + (iDiv ((x4 - x3) - 2) 3))), (8, vI r3), (7, vI ((x4 - 1) - (iDiv ((x4 - x3) - 2) 3))), (6, vI (x3 + (iDiv ((x4 - x3) - 2) 3))), (5, vI (iDiv ((x4 - x3) - 2) 3)), (0, vA x0), (1, vI x1), (3, vI x3)]) dX11_comesAt_168 (by decide) rfl (j_goto (tgt := 178) dX11_comesAt_170 (by decide) (j_sub [5, 6, 7, 0] rfl (JX11_comesAt_178 ih _ _ _ _ _ h))))))))))) (fun h => j_iload 2 dX11_comesAt_142 rfl (j_iconst dX11_comesAt_144 (j_iadd dX11_comesAt_145 (j_istore_n (lv2 := [(3, vI ((x3 + (iDiv ((x4 - x3) - 2) 3)) + 1)), (8, vI r3), (7, vI ((x4 - 1) - (iDiv ((x4 - x3) - 2) 3))), (6, vI (x3 + (iDiv ((x4 - x3) - 2) 3))), (5, vI (iDiv ((x4 - x3) - 2) 3)), (0, vA x0), (1, vI x1), (4, vI x4)]) dX11_comesAt_146 (by decide) rfl (j_iload 2 dX11_comesAt_147 rfl (j_istore (lv2 := [(4, vI ((x4 - 1) - (iDiv ((x4 - x3) - 2) 3))), (3, vI ((x3 + (iDiv ((x4 - x3) - 2) 3)) + 1)), (8, vI r3), (7, vI ((x4 - 1) - (iDiv ((x4 - x3) - 2) 3))), (6, vI (x3 + (iDiv ((x4 - x3) - 2) 3))), (5, vI (iDiv ((x4 - x3) - 2) 3)), (0, vA x0), (1, vI x1)]) dX11_comesAt_149 (by decide) rfl (j_goto (tgt := 178) dX11_comesAt_151 (by decide) (j_sub [6, 7, 1, 0] rfl (JX11_comesAt_178 ih _ _ _ _ _ h)))))))))))))) (fun _ _ h => h.elim)))))))))))))))))))))))))))))) (fun h => j_aload_n 0 dX11_comesAt_19 rfl (j_iload_n 1 dX11_comesAt_20 rfl (j_aload_n 0 dX11_comesAt_21 rfl (j_getR 11 36 f_RX11_76 dX11_comesAt_22 h (fun b5 h => j_iconst dX11_comesAt_25 (j_iload_n 2 dX11_comesAt_26 rfl (j_iconst dX11_comesAt_27 (j_isub dX11_comesAt_28 (j_mmax w_8_228 w_2_67 w_1_16 w_mmax (Nat.le_of_ble_eq_true rfl) dX11_comesAt_29 h (fun h => j_iald dX11_comesAt_32 h (fun h => j_aload_n 0 dX11_comesAt_33 rfl (j_getR 11 36 f_RX11_76 dX11_comesAt_34 h (fun b6 h => j_iload_n 2 dX11_comesAt_37 rfl (j_if_ne (tgt := 45) dX11_comesAt_38 (by decide) h (fun h => j_iload_n 2 dX11_comesAt_45 rfl (JX11_comesAt_46 ih _ _ _ _ _ _ _ _ _ _ h)) (fun h => j_iconst dX11_comesAt_41 (j_goto (tgt := 46) dX11_comesAt_42 (by decide) (JX11_comesAt_46 ih _ _ _ _ _ _ _ _ _ _ h))))))))))))))))))))))))
def VX11_comesAt_0 (d : Nat) (Q : Out → MS → Prop) (x0 : Nat) (x1 : Int) (x2 : Int) (S : MS) : Prop :=
  ∃ m, VX11_comesAt_5 d Q m x0 x1 0 x2 S
theorem JX11_comesAt_0 {d : Nat} {S0 : MS} {Q : Out → MS → Prop} (x0 : Nat) (x1 : Int) (x2 : Int) (S : MS) (h : VX11_comesAt_0 d Q x0 x1 x2 S) : Jw FinM RX11 cX11_comesAt 9 (some .int) [] yX11_comesAt (d + 1) S0 S 0 [(0, vA x0), (1, vI x1), (2, vI x2)] [] Q :=
  j_iconst dX11_comesAt_0 (j_istore_n (lv2 := [(3, vI 0), (0, vA x0), (1, vI x1), (2, vI x2)]) dX11_comesAt_1 (by decide) rfl (j_iload_n 3 dX11_comesAt_2 rfl (j_istore (lv2 := [(4, vI x2), (3, vI 0), (0, vA x0), (1, vI x1), (2, vI x2)]) dX11_comesAt_3 (by decide) rfl (Exists.elim h (fun m h => j_sub [2, 3, 1, 0] rfl (JX11_comesAt_5 m _ _ _ _ _ h))))))
theorem MX11_comesAt {d : Nat} {x0 : Nat} {x1 : Int} {x2 : Int} {S : MS} {Q : Out → MS → Prop} (h : VX11_comesAt_0 d Q x0 x1 x2 S) : Mw hX11_comesAt yX11_comesAt (d + 1) [vA x0, vI x1, vI x2] S Q := Mw.ofJ (by decide) (Nat.le_of_ble_eq_true rfl) (JX11_comesAt_0 _ _ _ S h)
theorem dX11_sorted_0 : decode cX11_sorted 0 = .ok (.aload_n 0, 1) := by decide +kernel
theorem dX11_sorted_1 : decode cX11_sorted 1 = .ok (.iconst 0, 1) := by decide +kernel
theorem dX11_sorted_2 : decode cX11_sorted 2 = .ok (.putfield 3, 3) := by decide +kernel
theorem dX11_sorted_5 : decode cX11_sorted 5 = .ok (.aload_n 0, 1) := by decide +kernel
theorem dX11_sorted_6 : decode cX11_sorted 6 = .ok (.iload_n 1, 1) := by decide +kernel
theorem dX11_sorted_7 : decode cX11_sorted 7 = .ok (.iconst (-1), 1) := by decide +kernel
theorem dX11_sorted_8 : decode cX11_sorted 8 = .ok (.if_icmp .eq 15, 3) := by decide +kernel
theorem dX11_sorted_11 : decode cX11_sorted 11 = .ok (.aload_n 0, 1) := by decide +kernel
theorem dX11_sorted_12 : decode cX11_sorted 12 = .ok (.iload_n 1, 1) := by decide +kernel
theorem dX11_sorted_13 : decode cX11_sorted 13 = .ok (.invokevirtual 194, 3) := by decide +kernel
theorem dX11_sorted_16 : decode cX11_sorted 16 = .ok (.ifCond .eq 7, 3) := by decide +kernel
theorem dX11_sorted_19 : decode cX11_sorted 19 = .ok (.iconst 1, 1) := by decide +kernel
theorem dX11_sorted_20 : decode cX11_sorted 20 = .ok (.goto 4, 3) := by decide +kernel
theorem dX11_sorted_23 : decode cX11_sorted 23 = .ok (.iconst 0, 1) := by decide +kernel
theorem dX11_sorted_24 : decode cX11_sorted 24 = .ok (.iconst 1, 1) := by decide +kernel
theorem dX11_sorted_25 : decode cX11_sorted 25 = .ok (.invokevirtual 190, 3) := by decide +kernel
theorem dX11_sorted_28 : decode cX11_sorted 28 = .ok (.ifCond .eq 5, 3) := by decide +kernel
theorem dX11_sorted_31 : decode cX11_sorted 31 = .ok (.iconst 0, 1) := by decide +kernel
theorem dX11_sorted_32 : decode cX11_sorted 32 = .ok (.ireturn, 1) := by decide +kernel
theorem dX11_sorted_33 : decode cX11_sorted 33 = .ok (.aload_n 0, 1) := by decide +kernel
theorem dX11_sorted_34 : decode cX11_sorted 34 = .ok (.iconst 0, 1) := by decide +kernel
theorem dX11_sorted_35 : decode cX11_sorted 35 = .ok (.putfield 384, 3) := by decide +kernel
theorem dX11_sorted_38 : decode cX11_sorted 38 = .ok (.aload_n 0, 1) := by decide +kernel
theorem dX11_sorted_39 : decode cX11_sorted 39 = .ok (.iconst 0, 1) := by decide +kernel
theorem dX11_sorted_40 : decode cX11_sorted 40 = .ok (.iconst 1, 1) := by decide +kernel
theorem dX11_sorted_41 : decode cX11_sorted 41 = .ok (.iconst 2, 1) := by decide +kernel
theorem dX11_sorted_42 : decode cX11_sorted 42 = .ok (.invokevirtual 387, 3) := by decide +kernel
theorem dX11_sorted_45 : decode cX11_sorted 45 = .ok (.istore_n 2, 1) := by decide +kernel
theorem dX11_sorted_46 : decode cX11_sorted 46 = .ok (.aload_n 0, 1) := by decide +kernel
theorem dX11_sorted_47 : decode cX11_sorted 47 = .ok (.getfield 76, 3) := by decide +kernel
theorem dX11_sorted_50 : decode cX11_sorted 50 = .ok (.iconst 0, 1) := by decide +kernel
theorem dX11_sorted_51 : decode cX11_sorted 51 = .ok (.iload_n 2, 1) := by decide +kernel
theorem dX11_sorted_52 : decode cX11_sorted 52 = .ok (.ifCond .ne 7, 3) := by decide +kernel
theorem dX11_sorted_55 : decode cX11_sorted 55 = .ok (.iconst 1, 1) := by decide +kernel
theorem dX11_sorted_56 : decode cX11_sorted 56 = .ok (.goto 4, 3) := by decide +kernel
theorem dX11_sorted_59 : decode cX11_sorted 59 = .ok (.iconst 0, 1) := by decide +kernel
theorem dX11_sorted_60 : decode cX11_sorted 60 = .ok (.iastore, 1) := by decide +kernel
theorem dX11_sorted_61 : decode cX11_sorted 61 = .ok (.aload_n 0, 1) := by decide +kernel
theorem dX11_sorted_62 : decode cX11_sorted 62 = .ok (.getfield 76, 3) := by decide +kernel
theorem dX11_sorted_65 : decode cX11_sorted 65 = .ok (.iconst 1, 1) := by decide +kernel
theorem dX11_sorted_66 : decode cX11_sorted 66 = .ok (.iload_n 2, 1) := by decide +kernel
theorem dX11_sorted_67 : decode cX11_sorted 67 = .ok (.iastore, 1) := by decide +kernel
theorem dX11_sorted_68 : decode cX11_sorted 68 = .ok (.aload_n 0, 1) := by decide +kernel
theorem dX11_sorted_69 : decode cX11_sorted 69 = .ok (.getfield 76, 3) := by decide +kernel
theorem dX11_sorted_72 : decode cX11_sorted 72 = .ok (.iconst 2, 1) := by decide +kernel
theorem dX11_sorted_73 : decode cX11_sorted 73 = .ok (.iload_n 2, 1) := by decide +kernel
theorem dX11_sorted_74 : decode cX11_sorted 74 = .ok (.iconst 2, 1) := by decide +kernel
theorem dX11_sorted_75 : decode cX11_sorted 75 = .ok (.if_icmp .ne 7, 3) := by decide +kernel
theorem dX11_sorted_78 : decode cX11_sorted 78 = .ok (.iconst 1, 1) := by decide +kernel
theorem dX11_sorted_79 : decode cX11_sorted 79 = .ok (.goto 4, 3) := by decide +kernel
theorem dX11_sorted_82 : decode cX11_sorted 82 = .ok (.iconst 2, 1) := by decide +kernel
theorem dX11_sorted_83 : decode cX11_sorted 83 = .ok (.iastore, 1) := by decide +kernel
theorem dX11_sorted_84 : decode cX11_sorted 84 = .ok (.iconst 3, 1) := by decide +kernel
theorem dX11_sorted_85 : decode cX11_sorted 85 = .ok (.istore_n 3, 1) := by decide +kernel
theorem dX11_sorted_86 : decode cX11_sorted 86 = .ok (.iload_n 3, 1) := by decide +kernel
theorem dX11_sorted_87 : decode cX11_sorted 87 = .ok (.aload_n 0, 1) := by decide +kernel
theorem dX11_sorted_88 : decode cX11_sorted 88 = .ok (.invokevirtual 83, 3) := by decide +kernel
theorem dX11_sorted_91 : decode cX11_sorted 91 = .ok (.if_icmp .ge 57, 3) := by decide +kernel
theorem dX11_sorted_94 : decode cX11_sorted 94 = .ok (.aload_n 0, 1) := by decide +kernel
theorem dX11_sorted_95 : decode cX11_sorted 95 = .ok (.iload_n 3, 1) := by decide +kernel
theorem dX11_sorted_96 : decode cX11_sorted 96 = .ok (.iload_n 3, 1) := by decide +kernel
theorem dX11_sorted_97 : decode cX11_sorted 97 = .ok (.invokevirtual 390, 3) := by decide +kernel
theorem dX11_sorted_100 : decode cX11_sorted 100 = .ok (.istore 4, 2) := by decide +kernel
theorem dX11_sorted_102 : decode cX11_sorted 102 = .ok (.iload_n 3, 1) := by decide +kernel
theorem dX11_sorted_103 : decode cX11_sorted 103 = .ok (.istore 5, 2) := by decide +kernel
theorem dX11_sorted_105 : decode cX11_sorted 105 = .ok (.iload 5, 2) := by decide +kernel
theorem dX11_sorted_107 : decode cX11_sorted 107 = .ok (.iload 4, 2) := by decide +kernel
theorem dX11_sorted_109 : decode cX11_sorted 109 = .ok (.if_icmp .le 25, 3) := by decide +kernel
theorem dX11_sorted_112 : decode cX11_sorted 112 = .ok (.aload_n 0, 1) := by decide +kernel
theorem dX11_sorted_113 : decode cX11_sorted 113 = .ok (.getfield 76, 3) := by decide +kernel
theorem dX11_sorted_116 : decode cX11_sorted 116 = .ok (.iload 5, 2) := by decide +kernel
theorem dX11_sorted_118 : decode cX11_sorted 118 = .ok (.aload_n 0, 1) := by decide +kernel
theorem dX11_sorted_119 : decode cX11_sorted 119 = .ok (.getfield 76, 3) := by decide +kernel
theorem dX11_sorted_122 : decode cX11_sorted 122 = .ok (.iload 5, 2) := by decide +kernel
theorem dX11_sorted_124 : decode cX11_sorted 124 = .ok (.iconst 1, 1) := by decide +kernel
theorem dX11_sorted_125 : decode cX11_sorted 125 = .ok (.isub, 1) := by decide +kernel
theorem dX11_sorted_126 : decode cX11_sorted 126 = .ok (.iaload, 1) := by decide +kernel
theorem dX11_sorted_127 : decode cX11_sorted 127 = .ok (.iastore, 1) := by decide +kernel
theorem dX11_sorted_128 : decode cX11_sorted 128 = .ok (.iinc 5 (-1), 3) := by decide +kernel
theorem dX11_sorted_131 : decode cX11_sorted 131 = .ok (.goto (-26), 3) := by decide +kernel
theorem dX11_sorted_134 : decode cX11_sorted 134 = .ok (.aload_n 0, 1) := by decide +kernel
theorem dX11_sorted_135 : decode cX11_sorted 135 = .ok (.getfield 76, 3) := by decide +kernel
theorem dX11_sorted_138 : decode cX11_sorted 138 = .ok (.iload 4, 2) := by decide +kernel
theorem dX11_sorted_140 : decode cX11_sorted 140 = .ok (.iload_n 3, 1) := by decide +kernel
theorem dX11_sorted_141 : decode cX11_sorted 141 = .ok (.iastore, 1) := by decide +kernel
theorem dX11_sorted_142 : decode cX11_sorted 142 = .ok (.iinc 3 1, 3) := by decide +kernel
theorem dX11_sorted_145 : decode cX11_sorted 145 = .ok (.goto (-59), 3) := by decide +kernel
theorem dX11_sorted_148 : decode cX11_sorted 148 = .ok (.iload_n 1, 1) := by decide +kernel
theorem dX11_sorted_149 : decode cX11_sorted 149 = .ok (.ifCond .ge 10, 3) := by decide +kernel
theorem dX11_sorted_152 : decode cX11_sorted 152 = .ok (.aload_n 0, 1) := by decide +kernel
theorem dX11_sorted_153 : decode cX11_sorted 153 = .ok (.getfield 384, 3) := by decide +kernel
theorem dX11_sorted_156 : decode cX11_sorted 156 = .ok (.goto 9, 3) := by decide +kernel
theorem dX11_sorted_159 : decode cX11_sorted 159 = .ok (.aload_n 0, 1) := by decide +kernel
theorem dX11_sorted_160 : decode cX11_sorted 160 = .ok (.getfield 76, 3) := by decide +kernel
theorem dX11_sorted_163 : decode cX11_sorted 163 = .ok (.iload_n 1, 1) := by decide +kernel
theorem dX11_sorted_164 : decode cX11_sorted 164 = .ok (.iaload, 1) := by decide +kernel
theorem dX11_sorted_165 : decode cX11_sorted 165 = .ok (.ireturn, 1) := by decide +kernel
def VX11_sorted_105 (d : Nat) (c86 : Nat → Int → Int → MS → Prop) (Q : Out → MS → Prop) : Nat → Nat → Int → Int → Int → Int → MS → Prop
  | 0, _, _, _, _, _, _ => False
  | n + 1, x0, x1, x3, x4, x5, S => (R32 x5 ∧ R32 x4) ∧ ((x5 ≤ x4) → S.K x0 = 11 ∧ ∃ b1, S.R x0 36 = some b1 ∧ ((S.K b1 = 13 ∧ 0 ≤ x4 ∧ x4 < S.N b1) ∧ (c86 x0 x1 (x3 + 1) (S.setI b1 (x4).toNat x3)))) ∧ (¬ (x5 ≤ x4) → S.K x0 = 11 ∧ ∃ b2, S.R x0 36 = some b2 ∧ (S.K x0 = 11 ∧ ∃ b3, S.R x0 36 = some b3 ∧ ((S.K b3 = 13 ∧ 0 ≤ (x5 - 1) ∧ (x5 - 1) < S.N b3) ∧ ((S.K b2 = 13 ∧ 0 ≤ x5 ∧ x5 < S.N b2) ∧ ((VX11_sorted_105 d c86 Q n) x0 x1 x3 x4 (x5 + (-1)) (S.setI b2 (x5).toNat (S.I b3 ((x5 - 1)).toNat)))))))
theorem JX11_sorted_105 {d : Nat} {c86 : Nat → Int → Int → MS → Prop} {S0 : MS} {Q : Out → MS → Prop} (hc86 : ∀ (x0 : Nat) (x1 : Int) (x3 : Int) (S : MS), c86 x0 x1 x3 S → Jw FinM RX11 cX11_sorted 6 (some .int) [] yX11_sorted (d + 1) S0 S 86 [(0, vA x0), (1, vI x1), (3, vI x3)] [] Q) : ∀ (n : Nat) (x0 : Nat) (x1 : Int) (x3 : Int) (x4 : Int) (x5 : Int) (S : MS), VX11_sorted_105 d c86 Q n x0 x1 x3 x4 x5 S → Jw FinM RX11 cX11_sorted 6 (some .int) [] yX11_sorted (d + 1) S0 S 105 [(0, vA x0), (1, vI x1), (3, vI x3), (4, vI x4), (5, vI x5)] [] Q := by
  intro n
  induction n with
  | zero => intro x0 x1 x3 x4 x5 S h; exact h.elim
  | succ n ih =>
    intro x0 x1 x3 x4 x5 S h
    exact j_iload 4 dX11_sorted_105 rfl (j_iload 3 dX11_sorted_107 rfl (j_icmp_le (tgt := 134) dX11_sorted_109 (by decide) h (fun h => j_aload_n 0 dX11_sorted_134 rfl (j_getR 11 36 f_RX11_76 dX11_sorted_135 h (fun b1 h => j_iload 3 dX11_sorted_138 rfl (j_iload_n 2 dX11_sorted_140 rfl (j_iast dX11_sorted_141 h (fun h => j_iinc 2 (lv2 := [(3, vI (x3 + 1)), (0, vA x0), (1, vI x1), (4, vI x4), (5, vI x5)]) dX11_sorted_142 rfl (by decide) rfl (j_goto (tgt := 86) dX11_sorted_145 (by decide) (j_sub [1, 2, 0] rfl (hc86 _ _ _ _ h))))))))) (fun h => j_aload_n 0 dX11_sorted_112 rfl (j_getR 11 36 f_RX11_76 dX11_sorted_113 h (fun b2 h => j_iload 4 dX11_sorted_116 rfl (j_aload_n 0 dX11_sorted_118 rfl (j_getR 11 36 f_RX11_76 dX11_sorted_119 h (fun b3 h => j_iload 4 dX11_sorted_122 rfl (j_iconst dX11_sorted_124 (j_isub dX11_sorted_125 (j_iald dX11_sorted_126 h (fun h => j_iast dX11_sorted_127 h (fun h => j_iinc 4 (lv2 := [(5, vI (x5 + (-1))), (0, vA x0), (1, vI x1), (3, vI x3), (4, vI x4)]) dX11_sorted_128 rfl (by decide) rfl (j_goto (tgt := 105) dX11_sorted_131 (by decide) (j_sub [1, 2, 3, 4, 0] rfl (ih _ _ _ _ _ _ h))))))))))))))))
def VX11_sorted_86 (d : Nat) (Q : Out → MS → Prop) : Nat → Nat → Int → Int → MS → Prop
  | 0, _, _, _, _ => False
  | n + 1, x0, x1, x3, S => S.K x0 = 11 ∧ Mw hX11_things yX11_things d [vA x0] S (oI (fun r1 S1 => (R32 x3 ∧ R32 r1) ∧ ((r1 ≤ x3) → R32 x1 ∧ ((0 ≤ x1) → S1.K x0 = 11 ∧ ∃ b2, S1.R x0 36 = some b2 ∧ ((S1.K b2 = 13 ∧ 0 ≤ x1 ∧ x1 < S1.N b2) ∧ (Q (.inl (some (vI (S1.I b2 (x1).toNat)))) S1))) ∧ (¬ (0 ≤ x1) → S1.K x0 = 11 ∧ (Q (.inl (some (vI (S1.I x0 37)))) S1))) ∧ (¬ (r1 ≤ x3) → S1.K x0 = 11 ∧ Mw hX11_comesAt yX11_comesAt d [vA x0, vI x3, vI x3] S1 (oI (fun r3 S3 => ∃ m, VX11_sorted_105 d (VX11_sorted_86 d Q n) Q m x0 x1 x3 r3 x3 S3)))))
theorem JX11_sorted_86 {d : Nat} {S0 : MS} {Q : Out → MS → Prop} : ∀ (n : Nat) (x0 : Nat) (x1 : Int) (x3 : Int) (S : MS), VX11_sorted_86 d Q n x0 x1 x3 S → Jw FinM RX11 cX11_sorted 6 (some .int) [] yX11_sorted (d + 1) S0 S 86 [(0, vA x0), (1, vI x1), (3, vI x3)] [] Q := by
  intro n
  induction n with
  | zero => intro x0 x1 x3 S h; exact h.elim
  | succ n ih =>
    intro x0 x1 x3 S h
    exact j_iload_n 2 dX11_sorted_86 rfl (j_aload_n 0 dX11_sorted_87 rfl (j_callV (rest := [vI x3]) 11 [] k_RX11_83 ⟨w_7_218, p_4_10⟩ ⟨_, _, rfl⟩ (by decide) rfl rfl (Nat.le_of_ble_eq_true rfl) dX11_sorted_88 h (kI (fun r1 S1 h => j_icmp_ge (tgt := 148) dX11_sorted_91 (by decide) h (fun h => j_iload_n 1 dX11_sorted_148 rfl (j_if_ge (tgt := 159) dX11_sorted_149 (by decide) h (fun h => j_aload_n 0 dX11_sorted_159 rfl (j_getR 11 36 f_RX11_76 dX11_sorted_160 h (fun b2 h => j_iload_n 1 dX11_sorted_163 rfl (j_iald dX11_sorted_164 h (fun h => j_iret rfl dX11_sorted_165 h))))) (fun h => j_aload_n 0 dX11_sorted_152 rfl (j_getI 11 37 f_RX11_384 dX11_sorted_153 h (fun h => j_goto (tgt := 165) dX11_sorted_156 (by decide) (j_iret rfl dX11_sorted_165 h)))))) (fun h => j_aload_n 0 dX11_sorted_94 rfl (j_iload_n 2 dX11_sorted_95 rfl (j_iload_n 2 dX11_sorted_96 rfl (j_callV (rest := []) 11 [vI x3, vI x3] k_RX11_390 ⟨w_9_90, p_7_9⟩ ⟨_, _, rfl⟩ (by decide) rfl rfl (Nat.le_of_ble_eq_true rfl) dX11_sorted_97 h (kI (fun r3 S3 h => j_istore (lv2 := [(4, vI r3), (0, vA x0), (1, vI x1), (3, vI x3)]) dX11_sorted_100 (by decide) rfl (j_iload_n 3 dX11_sorted_102 rfl (j_istore (lv2 := [(5, vI x3), (4, vI r3), (0, vA x0), (1, vI x1), (3, vI x3)]) dX11_sorted_103 (by decide) rfl (Exists.elim h (fun m h => j_sub [2, 3, 4, 1, 0] rfl (JX11_sorted_105 ih m _ _ _ _ _ _ h))))))) (fun _ _ h => h.elim))))))) (fun _ _ h => h.elim)))
def VX11_sorted_83 (d : Nat) (Q : Out → MS → Prop) (x0 : Nat) (x1 : Int) (t0 : Int) (t1 : Int) (t2 : Nat) (S : MS) : Prop :=
  (S.K t2 = 13 ∧ 0 ≤ t1 ∧ t1 < S.N t2) ∧ (∃ m, VX11_sorted_86 d Q m x0 x1 3 (S.setI t2 (t1).toNat t0))
theorem JX11_sorted_83 {d : Nat} {S0 : MS} {Q : Out → MS → Prop} (x0 : Nat) (x1 : Int) (t0 : Int) (t1 : Int) (t2 : Nat) (S : MS) (h : VX11_sorted_83 d Q x0 x1 t0 t1 t2 S) : Jw FinM RX11 cX11_sorted 6 (some .int) [] yX11_sorted (d + 1) S0 S 83 [(0, vA x0), (1, vI x1)] [vI t0, vI t1, vA t2] Q :=
  j_iast dX11_sorted_83 h (fun h => j_iconst dX11_sorted_84 (j_istore_n (lv2 := [(3, vI 3), (0, vA x0), (1, vI x1)]) dX11_sorted_85 (by decide) rfl (Exists.elim h (fun m h => j_sub [1, 2, 0] rfl (JX11_sorted_86 m _ _ _ _ h)))))
def VX11_sorted_60 (d : Nat) (Q : Out → MS → Prop) (x0 : Nat) (x1 : Int) (x2 : Int) (t0 : Int) (t1 : Int) (t2 : Nat) (S : MS) : Prop :=
  (S.K t2 = 13 ∧ 0 ≤ t1 ∧ t1 < S.N t2) ∧ ((S.setI t2 (t1).toNat t0).K x0 = 11 ∧ ∃ b1, (S.setI t2 (t1).toNat t0).R x0 36 = some b1 ∧ (((S.setI t2 (t1).toNat t0).K b1 = 13 ∧ 0 ≤ (1 : Int) ∧ (1 : Int) < (S.setI t2 (t1).toNat t0).N b1) ∧ (((S.setI t2 (t1).toNat t0).setI b1 ((1 : Int)).toNat x2).K x0 = 11 ∧ ∃ b2, ((S.setI t2 (t1).toNat t0).setI b1 ((1 : Int)).toNat x2).R x0 36 = some b2 ∧ ((R32 x2 ∧ R32 (2 : Int)) ∧ (¬ (x2 = (2 : Int)) → VX11_sorted_83 d Q x0 x1 2 2 b2 ((S.setI t2 (t1).toNat t0).setI b1 ((1 : Int)).toNat x2)) ∧ ((x2 = (2 : Int)) → VX11_sorted_83 d Q x0 x1 1 2 b2 ((S.setI t2 (t1).toNat t0).setI b1 ((1 : Int)).toNat x2))))))
theorem JX11_sorted_60 {d : Nat} {S0 : MS} {Q : Out → MS → Prop} (x0 : Nat) (x1 : Int) (x2 : Int) (t0 : Int) (t1 : Int) (t2 : Nat) (S : MS) (h : VX11_sorted_60 d Q x0 x1 x2 t0 t1 t2 S) : Jw FinM RX11 cX11_sorted 6 (some .int) [] yX11_sorted (d + 1) S0 S 60 [(0, vA x0), (1, vI x1), (2, vI x2)] [vI t0, vI t1, vA t2] Q :=
  j_iast dX11_sorted_60 h (fun h => j_aload_n 0 dX11_sorted_61 rfl (j_getR 11 36 f_RX11_76 dX11_sorted_62 h (fun b1 h => j_iconst dX11_sorted_65 (j_iload_n 2 dX11_sorted_66 rfl (j_iast dX11_sorted_67 h (fun h => j_aload_n 0 dX11_sorted_68 rfl (j_getR 11 36 f_RX11_76 dX11_sorted_69 h (fun b2 h => j_iconst dX11_sorted_72 (j_iload_n 2 dX11_sorted_73 rfl (j_iconst dX11_sorted_74 (j_icmp_ne (tgt := 82) dX11_sorted_75 (by decide) h (fun h => j_iconst dX11_sorted_82 (j_sub [0, 1] rfl (JX11_sorted_83 _ _ _ _ _ _ h))) (fun h => j_iconst dX11_sorted_78 (j_goto (tgt := 83) dX11_sorted_79 (by decide) (j_sub [0, 1] rfl (JX11_sorted_83 _ _ _ _ _ _ h)))))))))))))))
def VX11_sorted_24 (d : Nat) (Q : Out → MS → Prop) (x0 : Nat) (x1 : Int) (t0 : Int) (t1 : Nat) (S : MS) : Prop :=
  S.K t1 = 11 ∧ Mw hX11_throwsIf yX11_throwsIf d [vA t1, vI t0, vI 1] S (oI (fun r1 S1 => R32 r1 ∧ ((r1 = 0) → S1.K x0 = 11 ∧ ((S1.setI x0 37 0).K x0 = 11 ∧ Mw hX11_laysThree yX11_laysThree d [vA x0, vI 0, vI 1, vI 2] (S1.setI x0 37 0) (oI (fun r2 S2 => S2.K x0 = 11 ∧ ∃ b3, S2.R x0 36 = some b3 ∧ (R32 r2 ∧ (¬ (r2 = 0) → VX11_sorted_60 d Q x0 x1 r2 0 0 b3 S2) ∧ ((r2 = 0) → VX11_sorted_60 d Q x0 x1 r2 1 0 b3 S2)))))) ∧ (¬ (r1 = 0) → Q (.inl (some (vI 0))) S1)))
theorem JX11_sorted_24 {d : Nat} {S0 : MS} {Q : Out → MS → Prop} (x0 : Nat) (x1 : Int) (t0 : Int) (t1 : Nat) (S : MS) (h : VX11_sorted_24 d Q x0 x1 t0 t1 S) : Jw FinM RX11 cX11_sorted 6 (some .int) [] yX11_sorted (d + 1) S0 S 24 [(0, vA x0), (1, vI x1)] [vI t0, vA t1] Q :=
  j_iconst dX11_sorted_24 (j_callV (rest := []) 11 [vI t0, vI 1] k_RX11_190 ⟨w_7_191, p_4_7⟩ ⟨_, _, rfl⟩ (by decide) rfl rfl (Nat.le_of_ble_eq_true rfl) dX11_sorted_25 h (kI (fun r1 S1 h => j_if_eq (tgt := 33) dX11_sorted_28 (by decide) h (fun h => j_aload_n 0 dX11_sorted_33 rfl (j_iconst dX11_sorted_34 (j_putI 11 37 f_RX11_384 dX11_sorted_35 h (fun h => j_aload_n 0 dX11_sorted_38 rfl (j_iconst dX11_sorted_39 (j_iconst dX11_sorted_40 (j_iconst dX11_sorted_41 (j_callV (rest := []) 11 [vI 0, vI 1, vI 2] k_RX11_387 ⟨w_9_86, p_7_8⟩ ⟨_, _, rfl⟩ (by decide) rfl rfl (Nat.le_of_ble_eq_true rfl) dX11_sorted_42 h (kI (fun r2 S2 h => j_istore_n (lv2 := [(2, vI r2), (0, vA x0), (1, vI x1)]) dX11_sorted_45 (by decide) rfl (j_aload_n 1 dX11_sorted_46 rfl (j_getR 11 36 f_RX11_76 dX11_sorted_47 h (fun b3 h => j_iconst dX11_sorted_50 (j_iload_n 0 dX11_sorted_51 rfl (j_if_ne (tgt := 59) dX11_sorted_52 (by decide) h (fun h => j_iconst dX11_sorted_59 (j_sub [1, 2, 0] rfl (JX11_sorted_60 _ _ _ _ _ _ _ h))) (fun h => j_iconst dX11_sorted_55 (j_goto (tgt := 60) dX11_sorted_56 (by decide) (j_sub [1, 2, 0] rfl (JX11_sorted_60 _ _ _ _ _ _ _ h))))))))))) (fun _ _ h => h.elim))))))))) (fun h => j_iconst dX11_sorted_31 (j_iret rfl dX11_sorted_32 h)))) (fun _ _ h => h.elim))
def VX11_sorted_23 (d : Nat) (Q : Out → MS → Prop) (x0 : Nat) (x1 : Int) (t0 : Nat) (S : MS) : Prop :=
  VX11_sorted_24 d Q x0 x1 0 t0 S
theorem JX11_sorted_23 {d : Nat} {S0 : MS} {Q : Out → MS → Prop} (x0 : Nat) (x1 : Int) (t0 : Nat) (S : MS) (h : VX11_sorted_23 d Q x0 x1 t0 S) : Jw FinM RX11 cX11_sorted 6 (some .int) [] yX11_sorted (d + 1) S0 S 23 [(0, vA x0), (1, vI x1)] [vA t0] Q :=
  j_iconst dX11_sorted_23 (JX11_sorted_24 _ _ _ _ _ h)
def VX11_sorted_0 (d : Nat) (Q : Out → MS → Prop) (x0 : Nat) (x1 : Int) (S : MS) : Prop :=
  S.K x0 = 11 ∧ ((R32 x1 ∧ R32 ((-1) : Int)) ∧ ((x1 = ((-1) : Int)) → VX11_sorted_23 d Q x0 x1 x0 (S.setI x0 0 0)) ∧ (¬ (x1 = ((-1) : Int)) → (S.setI x0 0 0).K x0 = 11 ∧ Mw hX11_noThing yX11_noThing d [vA x0, vI x1] (S.setI x0 0 0) (oI (fun r1 S1 => R32 r1 ∧ ((r1 = 0) → VX11_sorted_23 d Q x0 x1 x0 S1) ∧ (¬ (r1 = 0) → VX11_sorted_24 d Q x0 x1 1 x0 S1)))))
theorem JX11_sorted_0 {d : Nat} {S0 : MS} {Q : Out → MS → Prop} (x0 : Nat) (x1 : Int) (S : MS) (h : VX11_sorted_0 d Q x0 x1 S) : Jw FinM RX11 cX11_sorted 6 (some .int) [] yX11_sorted (d + 1) S0 S 0 [(0, vA x0), (1, vI x1)] [] Q :=
  j_aload_n 0 dX11_sorted_0 rfl (j_iconst dX11_sorted_1 (j_putI 11 0 f_RX11_3 dX11_sorted_2 h (fun h => j_aload_n 0 dX11_sorted_5 rfl (j_iload_n 1 dX11_sorted_6 rfl (j_iconst dX11_sorted_7 (j_icmp_eq (tgt := 23) dX11_sorted_8 (by decide) h (fun h => JX11_sorted_23 _ _ _ _ h) (fun h => j_aload_n 0 dX11_sorted_11 rfl (j_iload_n 1 dX11_sorted_12 rfl (j_callV (rest := [vA x0]) 11 [vI x1] k_RX11_194 ⟨w_7_214, p_4_9⟩ ⟨_, _, rfl⟩ (by decide) rfl rfl (Nat.le_of_ble_eq_true rfl) dX11_sorted_13 h (kI (fun r1 S1 h => j_if_eq (tgt := 23) dX11_sorted_16 (by decide) h (fun h => JX11_sorted_23 _ _ _ _ h) (fun h => j_iconst dX11_sorted_19 (j_goto (tgt := 24) dX11_sorted_20 (by decide) (JX11_sorted_24 _ _ _ _ _ h))))) (fun _ _ h => h.elim))))))))))
theorem MX11_sorted {d : Nat} {x0 : Nat} {x1 : Int} {S : MS} {Q : Out → MS → Prop} (h : VX11_sorted_0 d Q x0 x1 S) : Mw hX11_sorted yX11_sorted (d + 1) [vA x0, vI x1] S Q := Mw.ofJ (by decide) (Nat.le_of_ble_eq_true rfl) (JX11_sorted_0 _ _ S h)
theorem dX11_grown_0 : decode cX11_grown 0 = .ok (.aload_n 0, 1) := by decide +kernel
theorem dX11_grown_1 : decode cX11_grown 1 = .ok (.iconst 0, 1) := by decide +kernel
theorem dX11_grown_2 : decode cX11_grown 2 = .ok (.putfield 3, 3) := by decide +kernel
theorem dX11_grown_5 : decode cX11_grown 5 = .ok (.aload_n 0, 1) := by decide +kernel
theorem dX11_grown_6 : decode cX11_grown 6 = .ok (.aload_n 0, 1) := by decide +kernel
theorem dX11_grown_7 : decode cX11_grown 7 = .ok (.iload_n 1, 1) := by decide +kernel
theorem dX11_grown_8 : decode cX11_grown 8 = .ok (.invokevirtual 194, 3) := by decide +kernel
theorem dX11_grown_11 : decode cX11_grown 11 = .ok (.iconst 1, 1) := by decide +kernel
theorem dX11_grown_12 : decode cX11_grown 12 = .ok (.invokevirtual 190, 3) := by decide +kernel
theorem dX11_grown_15 : decode cX11_grown 15 = .ok (.ifCond .eq 5, 3) := by decide +kernel
theorem dX11_grown_18 : decode cX11_grown 18 = .ok (.iconst 0, 1) := by decide +kernel
theorem dX11_grown_19 : decode cX11_grown 19 = .ok (.ireturn, 1) := by decide +kernel
theorem dX11_grown_20 : decode cX11_grown 20 = .ok (.iconst 0, 1) := by decide +kernel
theorem dX11_grown_21 : decode cX11_grown 21 = .ok (.istore_n 2, 1) := by decide +kernel
theorem dX11_grown_22 : decode cX11_grown 22 = .ok (.iconst 0, 1) := by decide +kernel
theorem dX11_grown_23 : decode cX11_grown 23 = .ok (.istore_n 3, 1) := by decide +kernel
theorem dX11_grown_24 : decode cX11_grown 24 = .ok (.iload_n 3, 1) := by decide +kernel
theorem dX11_grown_25 : decode cX11_grown 25 = .ok (.aload_n 0, 1) := by decide +kernel
theorem dX11_grown_26 : decode cX11_grown 26 = .ok (.invokevirtual 91, 3) := by decide +kernel
theorem dX11_grown_29 : decode cX11_grown 29 = .ok (.if_icmp .ge 34, 3) := by decide +kernel
theorem dX11_grown_32 : decode cX11_grown 32 = .ok (.aload_n 0, 1) := by decide +kernel
theorem dX11_grown_33 : decode cX11_grown 33 = .ok (.iload_n 3, 1) := by decide +kernel
theorem dX11_grown_34 : decode cX11_grown 34 = .ok (.iconst 1, 1) := by decide +kernel
theorem dX11_grown_35 : decode cX11_grown 35 = .ok (.invokevirtual 215, 3) := by decide +kernel
theorem dX11_grown_38 : decode cX11_grown 38 = .ok (.iload_n 1, 1) := by decide +kernel
theorem dX11_grown_39 : decode cX11_grown 39 = .ok (.ishr, 1) := by decide +kernel
theorem dX11_grown_40 : decode cX11_grown 40 = .ok (.iconst 1, 1) := by decide +kernel
theorem dX11_grown_41 : decode cX11_grown 41 = .ok (.iand, 1) := by decide +kernel
theorem dX11_grown_42 : decode cX11_grown 42 = .ok (.iconst 1, 1) := by decide +kernel
theorem dX11_grown_43 : decode cX11_grown 43 = .ok (.if_icmp .ne 14, 3) := by decide +kernel
theorem dX11_grown_46 : decode cX11_grown 46 = .ok (.aload_n 0, 1) := by decide +kernel
theorem dX11_grown_47 : decode cX11_grown 47 = .ok (.iload_n 3, 1) := by decide +kernel
theorem dX11_grown_48 : decode cX11_grown 48 = .ok (.invokevirtual 218, 3) := by decide +kernel
theorem dX11_grown_51 : decode cX11_grown 51 = .ok (.iinc 2 1, 3) := by decide +kernel
theorem dX11_grown_54 : decode cX11_grown 54 = .ok (.goto (-30), 3) := by decide +kernel
theorem dX11_grown_57 : decode cX11_grown 57 = .ok (.iinc 3 1, 3) := by decide +kernel
theorem dX11_grown_60 : decode cX11_grown 60 = .ok (.goto (-36), 3) := by decide +kernel
theorem dX11_grown_63 : decode cX11_grown 63 = .ok (.iload_n 2, 1) := by decide +kernel
theorem dX11_grown_64 : decode cX11_grown 64 = .ok (.ireturn, 1) := by decide +kernel
def VX11_grown_24 (d : Nat) (Q : Out → MS → Prop) : Nat → Nat → Int → Int → Int → MS → Prop
  | 0, _, _, _, _, _ => False
  | n + 1, x0, x1, x2, x3, S => S.K x0 = 11 ∧ Mw hX11_notes yX11_notes d [vA x0] S (oI (fun r1 S1 => (R32 x3 ∧ R32 r1) ∧ ((r1 ≤ x3) → Q (.inl (some (vI x2))) S1) ∧ (¬ (r1 ≤ x3) → S1.K x0 = 11 ∧ Mw hX11_ofNote yX11_ofNote d [vA x0, vI x3, vI 1] S1 (oI (fun r2 S2 => (R32 (iAnd (iShr r2 x1) 1) ∧ R32 (1 : Int)) ∧ (¬ ((iAnd (iShr r2 x1) 1) = (1 : Int)) → (VX11_grown_24 d Q n) x0 x1 x2 (x3 + 1) S2) ∧ (((iAnd (iShr r2 x1) 1) = (1 : Int)) → S2.K x0 = 11 ∧ Mw hX11_drops yX11_drops d [vA x0, vI x3] S2 (oV (fun S3 => (VX11_grown_24 d Q n) x0 x1 (x2 + 1) x3 S3))))))))
theorem JX11_grown_24 {d : Nat} {S0 : MS} {Q : Out → MS → Prop} : ∀ (n : Nat) (x0 : Nat) (x1 : Int) (x2 : Int) (x3 : Int) (S : MS), VX11_grown_24 d Q n x0 x1 x2 x3 S → Jw FinM RX11 cX11_grown 4 (some .int) [] yX11_grown (d + 1) S0 S 24 [(0, vA x0), (1, vI x1), (2, vI x2), (3, vI x3)] [] Q := by
  intro n
  induction n with
  | zero => intro x0 x1 x2 x3 S h; exact h.elim
  | succ n ih =>
    intro x0 x1 x2 x3 S h
    exact j_iload_n 3 dX11_grown_24 rfl (j_aload_n 0 dX11_grown_25 rfl (j_callV (rest := [vI x3]) 11 [] k_RX11_91 ⟨w_7_202, p_4_8⟩ ⟨_, _, rfl⟩ (by decide) rfl rfl (Nat.le_of_ble_eq_true rfl) dX11_grown_26 h (kI (fun r1 S1 h => j_icmp_ge (tgt := 63) dX11_grown_29 (by decide) h (fun h => j_iload_n 2 dX11_grown_63 rfl (j_iret rfl dX11_grown_64 h)) (fun h => j_aload_n 0 dX11_grown_32 rfl (j_iload_n 3 dX11_grown_33 rfl (j_iconst dX11_grown_34 (j_callV (rest := []) 11 [vI x3, vI 1] k_RX11_215 ⟨w_8_26, p_5_2⟩ ⟨_, _, rfl⟩ (by decide) rfl rfl (Nat.le_of_ble_eq_true rfl) dX11_grown_35 h (kI (fun r2 S2 h => j_iload_n 1 dX11_grown_38 rfl (j_ishr dX11_grown_39 (j_iconst dX11_grown_40 (j_iand dX11_grown_41 (j_iconst dX11_grown_42 (j_icmp_ne (tgt := 57) dX11_grown_43 (by decide) h (fun h => j_iinc 3 (lv2 := [(3, vI (x3 + 1)), (0, vA x0), (1, vI x1), (2, vI x2)]) dX11_grown_57 rfl (by decide) rfl (j_goto (tgt := 24) dX11_grown_60 (by decide) (j_sub [1, 2, 3, 0] rfl (ih _ _ _ _ _ h)))) (fun h => j_aload_n 0 dX11_grown_46 rfl (j_iload_n 3 dX11_grown_47 rfl (j_callV (rest := []) 11 [vI x3] k_RX11_218 ⟨w_8_34, p_5_3⟩ ⟨_, _, rfl⟩ (by decide) rfl rfl (Nat.le_of_ble_eq_true rfl) dX11_grown_48 h (kV (fun S3 h => j_iinc 2 (lv2 := [(2, vI (x2 + 1)), (0, vA x0), (1, vI x1), (3, vI x3)]) dX11_grown_51 rfl (by decide) rfl (j_goto (tgt := 24) dX11_grown_54 (by decide) (j_sub [1, 2, 0, 3] rfl (ih _ _ _ _ _ h))))) (fun _ _ h => h.elim))))))))))) (fun _ _ h => h.elim))))))) (fun _ _ h => h.elim)))
def VX11_grown_0 (d : Nat) (Q : Out → MS → Prop) (x0 : Nat) (x1 : Int) (S : MS) : Prop :=
  S.K x0 = 11 ∧ ((S.setI x0 0 0).K x0 = 11 ∧ Mw hX11_noThing yX11_noThing d [vA x0, vI x1] (S.setI x0 0 0) (oI (fun r1 S1 => S1.K x0 = 11 ∧ Mw hX11_throwsIf yX11_throwsIf d [vA x0, vI r1, vI 1] S1 (oI (fun r2 S2 => R32 r2 ∧ ((r2 = 0) → ∃ m, VX11_grown_24 d Q m x0 x1 0 0 S2) ∧ (¬ (r2 = 0) → Q (.inl (some (vI 0))) S2))))))
theorem JX11_grown_0 {d : Nat} {S0 : MS} {Q : Out → MS → Prop} (x0 : Nat) (x1 : Int) (S : MS) (h : VX11_grown_0 d Q x0 x1 S) : Jw FinM RX11 cX11_grown 4 (some .int) [] yX11_grown (d + 1) S0 S 0 [(0, vA x0), (1, vI x1)] [] Q :=
  j_aload_n 0 dX11_grown_0 rfl (j_iconst dX11_grown_1 (j_putI 11 0 f_RX11_3 dX11_grown_2 h (fun h => j_aload_n 0 dX11_grown_5 rfl (j_aload_n 0 dX11_grown_6 rfl (j_iload_n 1 dX11_grown_7 rfl (j_callV (rest := [vA x0]) 11 [vI x1] k_RX11_194 ⟨w_7_214, p_4_9⟩ ⟨_, _, rfl⟩ (by decide) rfl rfl (Nat.le_of_ble_eq_true rfl) dX11_grown_8 h (kI (fun r1 S1 h => j_iconst dX11_grown_11 (j_callV (rest := []) 11 [vI r1, vI 1] k_RX11_190 ⟨w_7_191, p_4_7⟩ ⟨_, _, rfl⟩ (by decide) rfl rfl (Nat.le_of_ble_eq_true rfl) dX11_grown_12 h (kI (fun r2 S2 h => j_if_eq (tgt := 20) dX11_grown_15 (by decide) h (fun h => j_iconst dX11_grown_20 (j_istore_n (lv2 := [(2, vI 0), (0, vA x0), (1, vI x1)]) dX11_grown_21 (by decide) rfl (j_iconst dX11_grown_22 (j_istore_n (lv2 := [(3, vI 0), (2, vI 0), (0, vA x0), (1, vI x1)]) dX11_grown_23 (by decide) rfl (Exists.elim h (fun m h => j_sub [2, 3, 1, 0] rfl (JX11_grown_24 m _ _ _ _ _ h))))))) (fun h => j_iconst dX11_grown_18 (j_iret rfl dX11_grown_19 h)))) (fun _ _ h => h.elim)))) (fun _ _ h => h.elim)))))))
theorem MX11_grown {d : Nat} {x0 : Nat} {x1 : Int} {S : MS} {Q : Out → MS → Prop} (h : VX11_grown_0 d Q x0 x1 S) : Mw hX11_grown yX11_grown (d + 1) [vA x0, vI x1] S Q := Mw.ofJ (by decide) (Nat.le_of_ble_eq_true rfl) (JX11_grown_0 _ _ S h)
theorem dX11_trueRow_0 : decode cX11_trueRow 0 = .ok (.iconst 0, 1) := by decide +kernel
theorem dX11_trueRow_1 : decode cX11_trueRow 1 = .ok (.istore_n 1, 1) := by decide +kernel
theorem dX11_trueRow_2 : decode cX11_trueRow 2 = .ok (.iload_n 1, 1) := by decide +kernel
theorem dX11_trueRow_3 : decode cX11_trueRow 3 = .ok (.aload_n 0, 1) := by decide +kernel
theorem dX11_trueRow_4 : decode cX11_trueRow 4 = .ok (.getfield 225, 3) := by decide +kernel
theorem dX11_trueRow_7 : decode cX11_trueRow 7 = .ok (.if_icmp .ge 64, 3) := by decide +kernel
theorem dX11_trueRow_10 : decode cX11_trueRow 10 = .ok (.iconst 1, 1) := by decide +kernel
theorem dX11_trueRow_11 : decode cX11_trueRow 11 = .ok (.istore_n 2, 1) := by decide +kernel
theorem dX11_trueRow_12 : decode cX11_trueRow 12 = .ok (.iconst 1, 1) := by decide +kernel
theorem dX11_trueRow_13 : decode cX11_trueRow 13 = .ok (.istore_n 3, 1) := by decide +kernel
theorem dX11_trueRow_14 : decode cX11_trueRow 14 = .ok (.iload_n 3, 1) := by decide +kernel
theorem dX11_trueRow_15 : decode cX11_trueRow 15 = .ok (.aload_n 0, 1) := by decide +kernel
theorem dX11_trueRow_16 : decode cX11_trueRow 16 = .ok (.getfield 222, 3) := by decide +kernel
theorem dX11_trueRow_19 : decode cX11_trueRow 19 = .ok (.if_icmp .ge 40, 3) := by decide +kernel
theorem dX11_trueRow_22 : decode cX11_trueRow 22 = .ok (.iload_n 2, 1) := by decide +kernel
theorem dX11_trueRow_23 : decode cX11_trueRow 23 = .ok (.ifCond .eq 28, 3) := by decide +kernel
theorem dX11_trueRow_26 : decode cX11_trueRow 26 = .ok (.aload_n 0, 1) := by decide +kernel
theorem dX11_trueRow_27 : decode cX11_trueRow 27 = .ok (.aload_n 0, 1) := by decide +kernel
theorem dX11_trueRow_28 : decode cX11_trueRow 28 = .ok (.iload_n 1, 1) := by decide +kernel
theorem dX11_trueRow_29 : decode cX11_trueRow 29 = .ok (.iload_n 3, 1) := by decide +kernel
theorem dX11_trueRow_30 : decode cX11_trueRow 30 = .ok (.invokevirtual 231, 3) := by decide +kernel
theorem dX11_trueRow_33 : decode cX11_trueRow 33 = .ok (.aload_n 0, 1) := by decide +kernel
theorem dX11_trueRow_34 : decode cX11_trueRow 34 = .ok (.iload_n 1, 1) := by decide +kernel
theorem dX11_trueRow_35 : decode cX11_trueRow 35 = .ok (.iload_n 3, 1) := by decide +kernel
theorem dX11_trueRow_36 : decode cX11_trueRow 36 = .ok (.iconst 1, 1) := by decide +kernel
theorem dX11_trueRow_37 : decode cX11_trueRow 37 = .ok (.isub, 1) := by decide +kernel
theorem dX11_trueRow_38 : decode cX11_trueRow 38 = .ok (.invokevirtual 231, 3) := by decide +kernel
theorem dX11_trueRow_41 : decode cX11_trueRow 41 = .ok (.invokevirtual 197, 3) := by decide +kernel
theorem dX11_trueRow_44 : decode cX11_trueRow 44 = .ok (.ifCond .eq 7, 3) := by decide +kernel
theorem dX11_trueRow_47 : decode cX11_trueRow 47 = .ok (.iconst 1, 1) := by decide +kernel
theorem dX11_trueRow_48 : decode cX11_trueRow 48 = .ok (.goto 4, 3) := by decide +kernel
theorem dX11_trueRow_51 : decode cX11_trueRow 51 = .ok (.iconst 0, 1) := by decide +kernel
theorem dX11_trueRow_52 : decode cX11_trueRow 52 = .ok (.istore_n 2, 1) := by decide +kernel
theorem dX11_trueRow_53 : decode cX11_trueRow 53 = .ok (.iinc 3 1, 3) := by decide +kernel
theorem dX11_trueRow_56 : decode cX11_trueRow 56 = .ok (.goto (-42), 3) := by decide +kernel
theorem dX11_trueRow_59 : decode cX11_trueRow 59 = .ok (.iload_n 2, 1) := by decide +kernel
theorem dX11_trueRow_60 : decode cX11_trueRow 60 = .ok (.ifCond .eq 5, 3) := by decide +kernel
theorem dX11_trueRow_63 : decode cX11_trueRow 63 = .ok (.iload_n 1, 1) := by decide +kernel
theorem dX11_trueRow_64 : decode cX11_trueRow 64 = .ok (.ireturn, 1) := by decide +kernel
theorem dX11_trueRow_65 : decode cX11_trueRow 65 = .ok (.iinc 1 1, 3) := by decide +kernel
theorem dX11_trueRow_68 : decode cX11_trueRow 68 = .ok (.goto (-66), 3) := by decide +kernel
theorem dX11_trueRow_71 : decode cX11_trueRow 71 = .ok (.iconst (-1), 1) := by decide +kernel
theorem dX11_trueRow_72 : decode cX11_trueRow 72 = .ok (.ireturn, 1) := by decide +kernel
def VX11_trueRow_52 (d : Nat) (c2 : Nat → Int → MS → Prop) (c14 : Nat → Int → Int → Int → MS → Prop) (Q : Out → MS → Prop) (x0 : Nat) (x1 : Int) (x3 : Int) (t0 : Int) (S : MS) : Prop :=
  c14 x0 x1 t0 (x3 + 1) S
theorem JX11_trueRow_52 {d : Nat} {c2 : Nat → Int → MS → Prop} {c14 : Nat → Int → Int → Int → MS → Prop} {S0 : MS} {Q : Out → MS → Prop} (hc2 : ∀ (x0 : Nat) (x1 : Int) (S : MS), c2 x0 x1 S → Jw FinM RX11 cX11_trueRow 4 (some .int) [] yX11_trueRow (d + 1) S0 S 2 [(0, vA x0), (1, vI x1)] [] Q) (hc14 : ∀ (x0 : Nat) (x1 : Int) (x2 : Int) (x3 : Int) (S : MS), c14 x0 x1 x2 x3 S → Jw FinM RX11 cX11_trueRow 4 (some .int) [] yX11_trueRow (d + 1) S0 S 14 [(0, vA x0), (1, vI x1), (2, vI x2), (3, vI x3)] [] Q) (x0 : Nat) (x1 : Int) (x3 : Int) (t0 : Int) (S : MS) (h : VX11_trueRow_52 d c2 c14 Q x0 x1 x3 t0 S) : Jw FinM RX11 cX11_trueRow 4 (some .int) [] yX11_trueRow (d + 1) S0 S 52 [(0, vA x0), (1, vI x1), (3, vI x3)] [vI t0] Q :=
  j_istore_n (lv2 := [(2, vI t0), (0, vA x0), (1, vI x1), (3, vI x3)]) dX11_trueRow_52 (by decide) rfl (j_iinc 3 (lv2 := [(3, vI (x3 + 1)), (2, vI t0), (0, vA x0), (1, vI x1)]) dX11_trueRow_53 rfl (by decide) rfl (j_goto (tgt := 14) dX11_trueRow_56 (by decide) (j_sub [2, 3, 1, 0] rfl (hc14 _ _ _ _ _ h))))
def VX11_trueRow_51 (d : Nat) (c2 : Nat → Int → MS → Prop) (c14 : Nat → Int → Int → Int → MS → Prop) (Q : Out → MS → Prop) (x0 : Nat) (x1 : Int) (x3 : Int) (S : MS) : Prop :=
  VX11_trueRow_52 d c2 c14 Q x0 x1 x3 0 S
theorem JX11_trueRow_51 {d : Nat} {c2 : Nat → Int → MS → Prop} {c14 : Nat → Int → Int → Int → MS → Prop} {S0 : MS} {Q : Out → MS → Prop} (hc2 : ∀ (x0 : Nat) (x1 : Int) (S : MS), c2 x0 x1 S → Jw FinM RX11 cX11_trueRow 4 (some .int) [] yX11_trueRow (d + 1) S0 S 2 [(0, vA x0), (1, vI x1)] [] Q) (hc14 : ∀ (x0 : Nat) (x1 : Int) (x2 : Int) (x3 : Int) (S : MS), c14 x0 x1 x2 x3 S → Jw FinM RX11 cX11_trueRow 4 (some .int) [] yX11_trueRow (d + 1) S0 S 14 [(0, vA x0), (1, vI x1), (2, vI x2), (3, vI x3)] [] Q) (x0 : Nat) (x1 : Int) (x3 : Int) (S : MS) (h : VX11_trueRow_51 d c2 c14 Q x0 x1 x3 S) : Jw FinM RX11 cX11_trueRow 4 (some .int) [] yX11_trueRow (d + 1) S0 S 51 [(0, vA x0), (1, vI x1), (3, vI x3)] [] Q :=
  j_iconst dX11_trueRow_51 (JX11_trueRow_52 hc2 hc14 _ _ _ _ _ h)
def VX11_trueRow_14 (d : Nat) (c2 : Nat → Int → MS → Prop) (Q : Out → MS → Prop) : Nat → Nat → Int → Int → Int → MS → Prop
  | 0, _, _, _, _, _ => False
  | n + 1, x0, x1, x2, x3, S => S.K x0 = 11 ∧ ((R32 x3 ∧ R32 (S.I x0 14)) ∧ (((S.I x0 14) ≤ x3) → R32 x2 ∧ ((x2 = 0) → c2 x0 (x1 + 1) S) ∧ (¬ (x2 = 0) → Q (.inl (some (vI x1))) S)) ∧ (¬ ((S.I x0 14) ≤ x3) → R32 x2 ∧ ((x2 = 0) → VX11_trueRow_51 d c2 (VX11_trueRow_14 d c2 Q n) Q x0 x1 x3 S) ∧ (¬ (x2 = 0) → S.K x0 = 11 ∧ Mw hX11_at yX11_at d [vA x0, vI x1, vI x3] S (oI (fun r1 S1 => S1.K x0 = 11 ∧ Mw hX11_at yX11_at d [vA x0, vI x1, vI (x3 - 1)] S1 (oI (fun r2 S2 => S2.K x0 = 11 ∧ Mw hX11_outweighs yX11_outweighs d [vA x0, vI r1, vI r2] S2 (oI (fun r3 S3 => R32 r3 ∧ ((r3 = 0) → VX11_trueRow_51 d c2 (VX11_trueRow_14 d c2 Q n) Q x0 x1 x3 S3) ∧ (¬ (r3 = 0) → VX11_trueRow_52 d c2 (VX11_trueRow_14 d c2 Q n) Q x0 x1 x3 1 S3))))))))))
theorem JX11_trueRow_14 {d : Nat} {c2 : Nat → Int → MS → Prop} {S0 : MS} {Q : Out → MS → Prop} (hc2 : ∀ (x0 : Nat) (x1 : Int) (S : MS), c2 x0 x1 S → Jw FinM RX11 cX11_trueRow 4 (some .int) [] yX11_trueRow (d + 1) S0 S 2 [(0, vA x0), (1, vI x1)] [] Q) : ∀ (n : Nat) (x0 : Nat) (x1 : Int) (x2 : Int) (x3 : Int) (S : MS), VX11_trueRow_14 d c2 Q n x0 x1 x2 x3 S → Jw FinM RX11 cX11_trueRow 4 (some .int) [] yX11_trueRow (d + 1) S0 S 14 [(0, vA x0), (1, vI x1), (2, vI x2), (3, vI x3)] [] Q := by
  intro n
  induction n with
  | zero => intro x0 x1 x2 x3 S h; exact h.elim
  | succ n ih =>
    intro x0 x1 x2 x3 S h
    exact j_iload_n 3 dX11_trueRow_14 rfl (j_aload_n 0 dX11_trueRow_15 rfl (j_getI 11 14 f_RX11_222 dX11_trueRow_16 h (fun h => j_icmp_ge (tgt := 59) dX11_trueRow_19 (by decide) h (fun h => j_iload_n 2 dX11_trueRow_59 rfl (j_if_eq (tgt := 65) dX11_trueRow_60 (by decide) h (fun h => j_iinc 1 (lv2 := [(1, vI (x1 + 1)), (0, vA x0), (2, vI x2), (3, vI x3)]) dX11_trueRow_65 rfl (by decide) rfl (j_goto (tgt := 2) dX11_trueRow_68 (by decide) (j_sub [1, 0] rfl (hc2 _ _ _ h)))) (fun h => j_iload_n 1 dX11_trueRow_63 rfl (j_iret rfl dX11_trueRow_64 h)))) (fun h => j_iload_n 2 dX11_trueRow_22 rfl (j_if_eq (tgt := 51) dX11_trueRow_23 (by decide) h (fun h => j_sub [0, 1, 3] rfl (JX11_trueRow_51 hc2 ih _ _ _ _ h)) (fun h => j_aload_n 0 dX11_trueRow_26 rfl (j_aload_n 0 dX11_trueRow_27 rfl (j_iload_n 1 dX11_trueRow_28 rfl (j_iload_n 3 dX11_trueRow_29 rfl (j_callV (rest := [vA x0]) 11 [vI x1, vI x3] k_RX11_231 ⟨w_8_66, p_5_10⟩ ⟨_, _, rfl⟩ (by decide) rfl rfl (Nat.le_of_ble_eq_true rfl) dX11_trueRow_30 h (kI (fun r1 S1 h => j_aload_n 0 dX11_trueRow_33 rfl (j_iload_n 1 dX11_trueRow_34 rfl (j_iload_n 3 dX11_trueRow_35 rfl (j_iconst dX11_trueRow_36 (j_isub dX11_trueRow_37 (j_callV (rest := [vI r1, vA x0]) 11 [vI x1, vI (x3 - 1)] k_RX11_231 ⟨w_8_66, p_5_10⟩ ⟨_, _, rfl⟩ (by decide) rfl rfl (Nat.le_of_ble_eq_true rfl) dX11_trueRow_38 h (kI (fun r2 S2 h => j_callV (rest := []) 11 [vI r1, vI r2] k_RX11_197 ⟨w_8_7, p_5_0⟩ ⟨_, _, rfl⟩ (by decide) rfl rfl (Nat.le_of_ble_eq_true rfl) dX11_trueRow_41 h (kI (fun r3 S3 h => j_if_eq (tgt := 51) dX11_trueRow_44 (by decide) h (fun h => j_sub [0, 1, 3] rfl (JX11_trueRow_51 hc2 ih _ _ _ _ h)) (fun h => j_iconst dX11_trueRow_47 (j_goto (tgt := 52) dX11_trueRow_48 (by decide) (j_sub [0, 1, 3] rfl (JX11_trueRow_52 hc2 ih _ _ _ _ _ h)))))) (fun _ _ h => h.elim))) (fun _ _ h => h.elim)))))))) (fun _ _ h => h.elim)))))))))))
def VX11_trueRow_2 (d : Nat) (Q : Out → MS → Prop) : Nat → Nat → Int → MS → Prop
  | 0, _, _, _ => False
  | n + 1, x0, x1, S => S.K x0 = 11 ∧ ((R32 x1 ∧ R32 (S.I x0 13)) ∧ (((S.I x0 13) ≤ x1) → Q (.inl (some (vI ((-1))))) S) ∧ (¬ ((S.I x0 13) ≤ x1) → ∃ m, VX11_trueRow_14 d (VX11_trueRow_2 d Q n) Q m x0 x1 1 1 S))
theorem JX11_trueRow_2 {d : Nat} {S0 : MS} {Q : Out → MS → Prop} : ∀ (n : Nat) (x0 : Nat) (x1 : Int) (S : MS), VX11_trueRow_2 d Q n x0 x1 S → Jw FinM RX11 cX11_trueRow 4 (some .int) [] yX11_trueRow (d + 1) S0 S 2 [(0, vA x0), (1, vI x1)] [] Q := by
  intro n
  induction n with
  | zero => intro x0 x1 S h; exact h.elim
  | succ n ih =>
    intro x0 x1 S h
    exact j_iload_n 1 dX11_trueRow_2 rfl (j_aload_n 0 dX11_trueRow_3 rfl (j_getI 11 13 f_RX11_225 dX11_trueRow_4 h (fun h => j_icmp_ge (tgt := 71) dX11_trueRow_7 (by decide) h (fun h => j_iconst dX11_trueRow_71 (j_iret rfl dX11_trueRow_72 h)) (fun h => j_iconst dX11_trueRow_10 (j_istore_n (lv2 := [(2, vI 1), (0, vA x0), (1, vI x1)]) dX11_trueRow_11 (by decide) rfl (j_iconst dX11_trueRow_12 (j_istore_n (lv2 := [(3, vI 1), (2, vI 1), (0, vA x0), (1, vI x1)]) dX11_trueRow_13 (by decide) rfl (Exists.elim h (fun m h => j_sub [2, 3, 1, 0] rfl (JX11_trueRow_14 ih m _ _ _ _ _ h))))))))))
def VX11_trueRow_0 (d : Nat) (Q : Out → MS → Prop) (x0 : Nat) (S : MS) : Prop :=
  ∃ m, VX11_trueRow_2 d Q m x0 0 S
theorem JX11_trueRow_0 {d : Nat} {S0 : MS} {Q : Out → MS → Prop} (x0 : Nat) (S : MS) (h : VX11_trueRow_0 d Q x0 S) : Jw FinM RX11 cX11_trueRow 4 (some .int) [] yX11_trueRow (d + 1) S0 S 0 [(0, vA x0)] [] Q :=
  j_iconst dX11_trueRow_0 (j_istore_n (lv2 := [(1, vI 0), (0, vA x0)]) dX11_trueRow_1 (by decide) rfl (Exists.elim h (fun m h => j_sub [1, 0] rfl (JX11_trueRow_2 m _ _ _ h))))
theorem MX11_trueRow {d : Nat} {x0 : Nat} {S : MS} {Q : Out → MS → Prop} (h : VX11_trueRow_0 d Q x0 S) : Mw hX11_trueRow yX11_trueRow (d + 1) [vA x0] S Q := Mw.ofJ (by decide) (Nat.le_of_ble_eq_true rfl) (JX11_trueRow_0 _ S h)
theorem dX11_draw_0 : decode cX11_draw 0 = .ok (.aload_n 0, 1) := by decide +kernel
theorem dX11_draw_1 : decode cX11_draw 1 = .ok (.ldc_w 393, 3) := by decide +kernel
theorem dX11_draw_4 : decode cX11_draw 4 = .ok (.aload_n 0, 1) := by decide +kernel
theorem dX11_draw_5 : decode cX11_draw 5 = .ok (.getfield 394, 3) := by decide +kernel
theorem dX11_draw_8 : decode cX11_draw 8 = .ok (.imul, 1) := by decide +kernel
theorem dX11_draw_9 : decode cX11_draw 9 = .ok (.sipush 12345, 3) := by decide +kernel
theorem dX11_draw_12 : decode cX11_draw 12 = .ok (.iadd, 1) := by decide +kernel
theorem dX11_draw_13 : decode cX11_draw 13 = .ok (.putfield 394, 3) := by decide +kernel
theorem dX11_draw_16 : decode cX11_draw 16 = .ok (.aload_n 0, 1) := by decide +kernel
theorem dX11_draw_17 : decode cX11_draw 17 = .ok (.getfield 394, 3) := by decide +kernel
theorem dX11_draw_20 : decode cX11_draw 20 = .ok (.bipush 16, 2) := by decide +kernel
theorem dX11_draw_22 : decode cX11_draw 22 = .ok (.ishr, 1) := by decide +kernel
theorem dX11_draw_23 : decode cX11_draw 23 = .ok (.sipush 32767, 3) := by decide +kernel
theorem dX11_draw_26 : decode cX11_draw 26 = .ok (.iand, 1) := by decide +kernel
theorem dX11_draw_27 : decode cX11_draw 27 = .ok (.bipush 100, 2) := by decide +kernel
theorem dX11_draw_29 : decode cX11_draw 29 = .ok (.irem, 1) := by decide +kernel
theorem dX11_draw_30 : decode cX11_draw 30 = .ok (.ireturn, 1) := by decide +kernel
def VX11_draw_0 (d : Nat) (Q : Out → MS → Prop) (x0 : Nat) (S : MS) : Prop :=
  S.K x0 = 11 ∧ (S.K x0 = 11 ∧ ((S.setI x0 38 ((1103515245 * (S.I x0 38)) + 12345)).K x0 = 11 ∧ ((R32 (100 : Int) ∧ (100 : Int) ≠ 0) ∧ (Q (.inl (some (vI (iRem (iAnd (iShr ((S.setI x0 38 ((1103515245 * (S.I x0 38)) + 12345)).I x0 38) 16) 32767) 100)))) (S.setI x0 38 ((1103515245 * (S.I x0 38)) + 12345))))))
theorem JX11_draw_0 {d : Nat} {S0 : MS} {Q : Out → MS → Prop} (x0 : Nat) (S : MS) (h : VX11_draw_0 d Q x0 S) : Jw FinM RX11 cX11_draw 1 (some .int) [] yX11_draw (d + 1) S0 S 0 [(0, vA x0)] [] Q :=
  j_aload_n 0 dX11_draw_0 rfl (j_ldc_w dX11_draw_1 w_9_104 rfl (j_aload_n 0 dX11_draw_4 rfl (j_getI 11 38 f_RX11_394 dX11_draw_5 h (fun h => j_imul dX11_draw_8 (j_sipush dX11_draw_9 rfl (j_iadd dX11_draw_12 (j_putI 11 38 f_RX11_394 dX11_draw_13 h (fun h => j_aload_n 0 dX11_draw_16 rfl (j_getI 11 38 f_RX11_394 dX11_draw_17 h (fun h => j_bipush dX11_draw_20 rfl (j_ishr dX11_draw_22 (j_sipush dX11_draw_23 rfl (j_iand dX11_draw_26 (j_bipush dX11_draw_27 rfl (j_irem dX11_draw_29 h (fun h => j_iret rfl dX11_draw_30 h))))))))))))))))
theorem MX11_draw {d : Nat} {x0 : Nat} {S : MS} {Q : Out → MS → Prop} (h : VX11_draw_0 d Q x0 S) : Mw hX11_draw yX11_draw (d + 1) [vA x0] S Q := Mw.ofJ (by decide) (Nat.le_of_ble_eq_true rfl) (JX11_draw_0 _ S h)
theorem dX11_behind_0 : decode cX11_behind 0 = .ok (.iload_n 0, 1) := by decide +kernel
theorem dX11_behind_1 : decode cX11_behind 1 = .ok (.iload_n 1, 1) := by decide +kernel
theorem dX11_behind_2 : decode cX11_behind 2 = .ok (.iconst 1, 1) := by decide +kernel
theorem dX11_behind_3 : decode cX11_behind 3 = .ok (.iadd, 1) := by decide +kernel
theorem dX11_behind_4 : decode cX11_behind 4 = .ok (.ishr, 1) := by decide +kernel
theorem dX11_behind_5 : decode cX11_behind 5 = .ok (.iload_n 1, 1) := by decide +kernel
theorem dX11_behind_6 : decode cX11_behind 6 = .ok (.iconst 1, 1) := by decide +kernel
theorem dX11_behind_7 : decode cX11_behind 7 = .ok (.iadd, 1) := by decide +kernel
theorem dX11_behind_8 : decode cX11_behind 8 = .ok (.ishl, 1) := by decide +kernel
theorem dX11_behind_9 : decode cX11_behind 9 = .ok (.istore_n 2, 1) := by decide +kernel
theorem dX11_behind_10 : decode cX11_behind 10 = .ok (.iload_n 2, 1) := by decide +kernel
theorem dX11_behind_11 : decode cX11_behind 11 = .ok (.ifCond .ne 7, 3) := by decide +kernel
theorem dX11_behind_14 : decode cX11_behind 14 = .ok (.iload_n 0, 1) := by decide +kernel
theorem dX11_behind_15 : decode cX11_behind 15 = .ok (.goto 4, 3) := by decide +kernel
theorem dX11_behind_18 : decode cX11_behind 18 = .ok (.iload_n 2, 1) := by decide +kernel
theorem dX11_behind_19 : decode cX11_behind 19 = .ok (.invokestatic 331, 3) := by decide +kernel
theorem dX11_behind_22 : decode cX11_behind 22 = .ok (.ireturn, 1) := by decide +kernel
def VX11_behind_19 (d : Nat) (Q : Out → MS → Prop) (t0 : Int) (S : MS) : Prop :=
  Mw hJ6_numberOfTrailingZeros_0f7a4 yJ6_numberOfTrailingZeros_0f7a4 d [vI t0] S (oI (fun r1 S1 => Q (.inl (some (vI r1))) S1))
theorem JX11_behind_19 {d : Nat} {S0 : MS} {Q : Out → MS → Prop} (t0 : Int) (S : MS) (h : VX11_behind_19 d Q t0 S) : Jw FinM RX11 cX11_behind 3 (some .int) [] yX11_behind (d + 1) S0 S 19 [] [vI t0] Q :=
  j_callS (rest := []) [vI t0] k_RX11_331 w_9_21 rfl rfl (Nat.le_of_ble_eq_true rfl) dX11_behind_19 h (kI (fun r1 S1 h => j_iret rfl dX11_behind_22 h)) (fun _ _ h => h.elim)
def VX11_behind_0 (d : Nat) (Q : Out → MS → Prop) (x0 : Int) (x1 : Int) (S : MS) : Prop :=
  R32 (iShl (iShr x0 (x1 + 1)) (x1 + 1)) ∧ (¬ ((iShl (iShr x0 (x1 + 1)) (x1 + 1)) = 0) → VX11_behind_19 d Q (iShl (iShr x0 (x1 + 1)) (x1 + 1)) S) ∧ (((iShl (iShr x0 (x1 + 1)) (x1 + 1)) = 0) → VX11_behind_19 d Q x0 S)
theorem JX11_behind_0 {d : Nat} {S0 : MS} {Q : Out → MS → Prop} (x0 : Int) (x1 : Int) (S : MS) (h : VX11_behind_0 d Q x0 x1 S) : Jw FinM RX11 cX11_behind 3 (some .int) [] yX11_behind (d + 1) S0 S 0 [(0, vI x0), (1, vI x1)] [] Q :=
  j_iload_n 0 dX11_behind_0 rfl (j_iload_n 1 dX11_behind_1 rfl (j_iconst dX11_behind_2 (j_iadd dX11_behind_3 (j_ishr dX11_behind_4 (j_iload_n 1 dX11_behind_5 rfl (j_iconst dX11_behind_6 (j_iadd dX11_behind_7 (j_ishl dX11_behind_8 (j_istore_n (lv2 := [(2, vI (iShl (iShr x0 (x1 + 1)) (x1 + 1))), (0, vI x0), (1, vI x1)]) dX11_behind_9 (by decide) rfl (j_iload_n 0 dX11_behind_10 rfl (j_if_ne (tgt := 18) dX11_behind_11 (by decide) h (fun h => j_iload_n 0 dX11_behind_18 rfl (j_sub [] rfl (JX11_behind_19 _ _ h))) (fun h => j_iload_n 1 dX11_behind_14 rfl (j_goto (tgt := 19) dX11_behind_15 (by decide) (j_sub [] rfl (JX11_behind_19 _ _ h)))))))))))))))
theorem MX11_behind {d : Nat} {x0 : Int} {x1 : Int} {S : MS} {Q : Out → MS → Prop} (h : VX11_behind_0 d Q x0 x1 S) : Mw hX11_behind yX11_behind (d + 1) [vI x0, vI x1] S Q := Mw.ofJ (by decide) (Nat.le_of_ble_eq_true rfl) (JX11_behind_0 _ _ S h)
theorem dX11_played_0 : decode cX11_played 0 = .ok (.aload_n 0, 1) := by decide +kernel
theorem dX11_played_1 : decode cX11_played 1 = .ok (.iconst 0, 1) := by decide +kernel
theorem dX11_played_2 : decode cX11_played 2 = .ok (.putfield 3, 3) := by decide +kernel
theorem dX11_played_5 : decode cX11_played 5 = .ok (.aload_n 0, 1) := by decide +kernel
theorem dX11_played_6 : decode cX11_played 6 = .ok (.aload_n 0, 1) := by decide +kernel
theorem dX11_played_7 : decode cX11_played 7 = .ok (.iload_n 1, 1) := by decide +kernel
theorem dX11_played_8 : decode cX11_played 8 = .ok (.invokevirtual 203, 3) := by decide +kernel
theorem dX11_played_11 : decode cX11_played 11 = .ok (.iconst 1, 1) := by decide +kernel
theorem dX11_played_12 : decode cX11_played 12 = .ok (.invokevirtual 190, 3) := by decide +kernel
theorem dX11_played_15 : decode cX11_played 15 = .ok (.ifCond .ne 49, 3) := by decide +kernel
theorem dX11_played_18 : decode cX11_played 18 = .ok (.aload_n 0, 1) := by decide +kernel
theorem dX11_played_19 : decode cX11_played 19 = .ok (.iload_n 2, 1) := by decide +kernel
theorem dX11_played_20 : decode cX11_played 20 = .ok (.iconst 0, 1) := by decide +kernel
theorem dX11_played_21 : decode cX11_played 21 = .ok (.bipush 99, 2) := by decide +kernel
theorem dX11_played_23 : decode cX11_played 23 = .ok (.invokestatic 87, 3) := by decide +kernel
theorem dX11_played_26 : decode cX11_played 26 = .ok (.ifCond .ne 7, 3) := by decide +kernel
theorem dX11_played_29 : decode cX11_played 29 = .ok (.iconst 1, 1) := by decide +kernel
theorem dX11_played_30 : decode cX11_played 30 = .ok (.goto 4, 3) := by decide +kernel
theorem dX11_played_33 : decode cX11_played 33 = .ok (.iconst 0, 1) := by decide +kernel
theorem dX11_played_34 : decode cX11_played 34 = .ok (.iconst 2, 1) := by decide +kernel
theorem dX11_played_35 : decode cX11_played 35 = .ok (.invokevirtual 190, 3) := by decide +kernel
theorem dX11_played_38 : decode cX11_played 38 = .ok (.ifCond .ne 26, 3) := by decide +kernel
theorem dX11_played_41 : decode cX11_played 41 = .ok (.aload_n 0, 1) := by decide +kernel
theorem dX11_played_42 : decode cX11_played 42 = .ok (.iload 4, 2) := by decide +kernel
theorem dX11_played_44 : decode cX11_played 44 = .ok (.iconst 0, 1) := by decide +kernel
theorem dX11_played_45 : decode cX11_played 45 = .ok (.iconst 2, 1) := by decide +kernel
theorem dX11_played_46 : decode cX11_played 46 = .ok (.invokestatic 87, 3) := by decide +kernel
theorem dX11_played_49 : decode cX11_played 49 = .ok (.ifCond .ne 7, 3) := by decide +kernel
theorem dX11_played_52 : decode cX11_played 52 = .ok (.iconst 1, 1) := by decide +kernel
theorem dX11_played_53 : decode cX11_played 53 = .ok (.goto 4, 3) := by decide +kernel
theorem dX11_played_56 : decode cX11_played 56 = .ok (.iconst 0, 1) := by decide +kernel
theorem dX11_played_57 : decode cX11_played 57 = .ok (.iconst 3, 1) := by decide +kernel
theorem dX11_played_58 : decode cX11_played 58 = .ok (.invokevirtual 190, 3) := by decide +kernel
theorem dX11_played_61 : decode cX11_played 61 = .ok (.ifCond .eq 5, 3) := by decide +kernel
theorem dX11_played_64 : decode cX11_played 64 = .ok (.iconst 0, 1) := by decide +kernel
theorem dX11_played_65 : decode cX11_played 65 = .ok (.ireturn, 1) := by decide +kernel
theorem dX11_played_66 : decode cX11_played 66 = .ok (.aload_n 0, 1) := by decide +kernel
theorem dX11_played_67 : decode cX11_played 67 = .ok (.iload_n 1, 1) := by decide +kernel
theorem dX11_played_68 : decode cX11_played 68 = .ok (.iconst 0, 1) := by decide +kernel
theorem dX11_played_69 : decode cX11_played 69 = .ok (.invokevirtual 94, 3) := by decide +kernel
theorem dX11_played_72 : decode cX11_played 72 = .ok (.istore 5, 2) := by decide +kernel
theorem dX11_played_74 : decode cX11_played 74 = .ok (.aload_n 0, 1) := by decide +kernel
theorem dX11_played_75 : decode cX11_played 75 = .ok (.iload_n 3, 1) := by decide +kernel
theorem dX11_played_76 : decode cX11_played 76 = .ok (.putfield 394, 3) := by decide +kernel
theorem dX11_played_79 : decode cX11_played 79 = .ok (.aload_n 0, 1) := by decide +kernel
theorem dX11_played_80 : decode cX11_played 80 = .ok (.invokevirtual 253, 3) := by decide +kernel
theorem dX11_played_83 : decode cX11_played 83 = .ok (.iconst 0, 1) := by decide +kernel
theorem dX11_played_84 : decode cX11_played 84 = .ok (.istore 6, 2) := by decide +kernel
theorem dX11_played_86 : decode cX11_played 86 = .ok (.aload_n 0, 1) := by decide +kernel
theorem dX11_played_87 : decode cX11_played 87 = .ok (.iconst 0, 1) := by decide +kernel
theorem dX11_played_88 : decode cX11_played 88 = .ok (.iload 5, 2) := by decide +kernel
theorem dX11_played_90 : decode cX11_played 90 = .ok (.invokevirtual 362, 3) := by decide +kernel
theorem dX11_played_93 : decode cX11_played 93 = .ok (.istore 7, 2) := by decide +kernel
theorem dX11_played_95 : decode cX11_played 95 = .ok (.iload 7, 2) := by decide +kernel
theorem dX11_played_97 : decode cX11_played 97 = .ok (.ifCond .lt 60, 3) := by decide +kernel
theorem dX11_played_100 : decode cX11_played 100 = .ok (.aload_n 0, 1) := by decide +kernel
theorem dX11_played_101 : decode cX11_played 101 = .ok (.iload 5, 2) := by decide +kernel
theorem dX11_played_103 : decode cX11_played 103 = .ok (.iload 7, 2) := by decide +kernel
theorem dX11_played_105 : decode cX11_played 105 = .ok (.invokevirtual 209, 3) := by decide +kernel
theorem dX11_played_108 : decode cX11_played 108 = .ok (.istore 8, 2) := by decide +kernel
theorem dX11_played_110 : decode cX11_played 110 = .ok (.aload_n 0, 1) := by decide +kernel
theorem dX11_played_111 : decode cX11_played 111 = .ok (.invokevirtual 397, 3) := by decide +kernel
theorem dX11_played_114 : decode cX11_played 114 = .ok (.iload_n 2, 1) := by decide +kernel
theorem dX11_played_115 : decode cX11_played 115 = .ok (.if_icmp .ge 12, 3) := by decide +kernel
theorem dX11_played_118 : decode cX11_played 118 = .ok (.iload 7, 2) := by decide +kernel
theorem dX11_played_120 : decode cX11_played 120 = .ok (.iload 8, 2) := by decide +kernel
theorem dX11_played_122 : decode cX11_played 122 = .ok (.invokestatic 400, 3) := by decide +kernel
theorem dX11_played_125 : decode cX11_played 125 = .ok (.istore 8, 2) := by decide +kernel
theorem dX11_played_127 : decode cX11_played 127 = .ok (.aload_n 0, 1) := by decide +kernel
theorem dX11_played_128 : decode cX11_played 128 = .ok (.iconst 0, 1) := by decide +kernel
theorem dX11_played_129 : decode cX11_played 129 = .ok (.iload 5, 2) := by decide +kernel
theorem dX11_played_131 : decode cX11_played 131 = .ok (.iload 7, 2) := by decide +kernel
theorem dX11_played_133 : decode cX11_played 133 = .ok (.iload 8, 2) := by decide +kernel
theorem dX11_played_135 : decode cX11_played 135 = .ok (.invokevirtual 352, 3) := by decide +kernel
theorem dX11_played_138 : decode cX11_played 138 = .ok (.aload_n 0, 1) := by decide +kernel
theorem dX11_played_139 : decode cX11_played 139 = .ok (.invokevirtual 381, 3) := by decide +kernel
theorem dX11_played_142 : decode cX11_played 142 = .ok (.iinc 6 1, 3) := by decide +kernel
theorem dX11_played_145 : decode cX11_played 145 = .ok (.aload_n 0, 1) := by decide +kernel
theorem dX11_played_146 : decode cX11_played 146 = .ok (.iconst 0, 1) := by decide +kernel
theorem dX11_played_147 : decode cX11_played 147 = .ok (.iload 5, 2) := by decide +kernel
theorem dX11_played_149 : decode cX11_played 149 = .ok (.invokevirtual 362, 3) := by decide +kernel
theorem dX11_played_152 : decode cX11_played 152 = .ok (.istore 7, 2) := by decide +kernel
theorem dX11_played_154 : decode cX11_played 154 = .ok (.goto (-59), 3) := by decide +kernel
theorem dX11_played_157 : decode cX11_played 157 = .ok (.iload 4, 2) := by decide +kernel
theorem dX11_played_159 : decode cX11_played 159 = .ok (.iconst 2, 1) := by decide +kernel
theorem dX11_played_160 : decode cX11_played 160 = .ok (.if_icmp .ge 20, 3) := by decide +kernel
theorem dX11_played_163 : decode cX11_played 163 = .ok (.iload 4, 2) := by decide +kernel
theorem dX11_played_165 : decode cX11_played 165 = .ok (.ifCond .ne 8, 3) := by decide +kernel
theorem dX11_played_168 : decode cX11_played 168 = .ok (.iload 6, 2) := by decide +kernel
theorem dX11_played_170 : decode cX11_played 170 = .ok (.goto 9, 3) := by decide +kernel
theorem dX11_played_173 : decode cX11_played 173 = .ok (.aload_n 0, 1) := by decide +kernel
theorem dX11_played_174 : decode cX11_played 174 = .ok (.getfield 45, 3) := by decide +kernel
theorem dX11_played_177 : decode cX11_played 177 = .ok (.iconst 0, 1) := by decide +kernel
theorem dX11_played_178 : decode cX11_played 178 = .ok (.iaload, 1) := by decide +kernel
theorem dX11_played_179 : decode cX11_played 179 = .ok (.ireturn, 1) := by decide +kernel
theorem dX11_played_180 : decode cX11_played 180 = .ok (.aload_n 0, 1) := by decide +kernel
theorem dX11_played_181 : decode cX11_played 181 = .ok (.invokevirtual 403, 3) := by decide +kernel
theorem dX11_played_184 : decode cX11_played 184 = .ok (.istore 8, 2) := by decide +kernel
theorem dX11_played_186 : decode cX11_played 186 = .ok (.iconst 0, 1) := by decide +kernel
theorem dX11_played_187 : decode cX11_played 187 = .ok (.istore 9, 2) := by decide +kernel
theorem dX11_played_189 : decode cX11_played 189 = .ok (.iconst 0, 1) := by decide +kernel
theorem dX11_played_190 : decode cX11_played 190 = .ok (.istore 10, 2) := by decide +kernel
theorem dX11_played_192 : decode cX11_played 192 = .ok (.iload 10, 2) := by decide +kernel
theorem dX11_played_194 : decode cX11_played 194 = .ok (.aload_n 0, 1) := by decide +kernel
theorem dX11_played_195 : decode cX11_played 195 = .ok (.getfield 45, 3) := by decide +kernel
theorem dX11_played_198 : decode cX11_played 198 = .ok (.iconst 0, 1) := by decide +kernel
theorem dX11_played_199 : decode cX11_played 199 = .ok (.iaload, 1) := by decide +kernel
theorem dX11_played_200 : decode cX11_played 200 = .ok (.if_icmp .ge 29, 3) := by decide +kernel
theorem dX11_played_203 : decode cX11_played 203 = .ok (.aload_n 0, 1) := by decide +kernel
theorem dX11_played_204 : decode cX11_played 204 = .ok (.iconst 0, 1) := by decide +kernel
theorem dX11_played_205 : decode cX11_played 205 = .ok (.iload 10, 2) := by decide +kernel
theorem dX11_played_207 : decode cX11_played 207 = .ok (.invokevirtual 247, 3) := by decide +kernel
theorem dX11_played_210 : decode cX11_played 210 = .ok (.iload 8, 2) := by decide +kernel
theorem dX11_played_212 : decode cX11_played 212 = .ok (.if_icmp .ne 7, 3) := by decide +kernel
theorem dX11_played_215 : decode cX11_played 215 = .ok (.iconst 1, 1) := by decide +kernel
theorem dX11_played_216 : decode cX11_played 216 = .ok (.goto 5, 3) := by decide +kernel
theorem dX11_played_219 : decode cX11_played 219 = .ok (.iload 9, 2) := by decide +kernel
theorem dX11_played_221 : decode cX11_played 221 = .ok (.istore 9, 2) := by decide +kernel
theorem dX11_played_223 : decode cX11_played 223 = .ok (.iinc 10 1, 3) := by decide +kernel
theorem dX11_played_226 : decode cX11_played 226 = .ok (.goto (-34), 3) := by decide +kernel
theorem dX11_played_229 : decode cX11_played 229 = .ok (.iload 9, 2) := by decide +kernel
theorem dX11_played_231 : decode cX11_played 231 = .ok (.ireturn, 1) := by decide +kernel
def VX11_played_127 (d : Nat) (c95 : Nat → Int → Int → Int → Int → Int → MS → Prop) (Q : Out → MS → Prop) (x0 : Nat) (x2 : Int) (x4 : Int) (x5 : Int) (x6 : Int) (x7 : Int) (x8 : Int) (S : MS) : Prop :=
  S.K x0 = 11 ∧ Mw hX11_parts yX11_parts d [vA x0, vI 0, vI x5, vI x7, vI x8] S (oV (fun S1 => S1.K x0 = 11 ∧ Mw hX11_takesNext yX11_takesNext d [vA x0] S1 (oV (fun S2 => S2.K x0 = 11 ∧ Mw hX11_laidFor yX11_laidFor d [vA x0, vI 0, vI x5] S2 (oI (fun r3 S3 => c95 x0 x2 x4 x5 (x6 + 1) r3 S3))))))
theorem JX11_played_127 {d : Nat} {c95 : Nat → Int → Int → Int → Int → Int → MS → Prop} {S0 : MS} {Q : Out → MS → Prop} (hc95 : ∀ (x0 : Nat) (x2 : Int) (x4 : Int) (x5 : Int) (x6 : Int) (x7 : Int) (S : MS), c95 x0 x2 x4 x5 x6 x7 S → Jw FinM RX11 cX11_played 11 (some .int) [] yX11_played (d + 1) S0 S 95 [(0, vA x0), (2, vI x2), (4, vI x4), (5, vI x5), (6, vI x6), (7, vI x7)] [] Q) (x0 : Nat) (x2 : Int) (x4 : Int) (x5 : Int) (x6 : Int) (x7 : Int) (x8 : Int) (S : MS) (h : VX11_played_127 d c95 Q x0 x2 x4 x5 x6 x7 x8 S) : Jw FinM RX11 cX11_played 11 (some .int) [] yX11_played (d + 1) S0 S 127 [(0, vA x0), (2, vI x2), (4, vI x4), (5, vI x5), (6, vI x6), (7, vI x7), (8, vI x8)] [] Q :=
  j_aload_n 0 dX11_played_127 rfl (j_iconst dX11_played_128 (j_iload 3 dX11_played_129 rfl (j_iload 5 dX11_played_131 rfl (j_iload 6 dX11_played_133 rfl (j_callV (rest := []) 11 [vI 0, vI x5, vI x7, vI x8] k_RX11_352 ⟨w_9_26, p_7_2⟩ ⟨_, _, rfl⟩ (by decide) rfl rfl (Nat.le_of_ble_eq_true rfl) dX11_played_135 h (kV (fun S1 h => j_aload_n 0 dX11_played_138 rfl (j_callV (rest := []) 11 [] k_RX11_381 ⟨w_9_70, p_7_7⟩ ⟨_, _, rfl⟩ (by decide) rfl rfl (Nat.le_of_ble_eq_true rfl) dX11_played_139 h (kV (fun S2 h => j_iinc 4 (lv2 := [(6, vI (x6 + 1)), (0, vA x0), (2, vI x2), (4, vI x4), (5, vI x5), (7, vI x7), (8, vI x8)]) dX11_played_142 rfl (by decide) rfl (j_aload_n 1 dX11_played_145 rfl (j_iconst dX11_played_146 (j_iload 4 dX11_played_147 rfl (j_callV (rest := []) 11 [vI 0, vI x5] k_RX11_362 ⟨w_9_50, p_7_6⟩ ⟨_, _, rfl⟩ (by decide) rfl rfl (Nat.le_of_ble_eq_true rfl) dX11_played_149 h (kI (fun r3 S3 h => j_istore (lv2 := [(7, vI r3), (6, vI (x6 + 1)), (0, vA x0), (2, vI x2), (4, vI x4), (5, vI x5), (8, vI x8)]) dX11_played_152 (by decide) rfl (j_goto (tgt := 95) dX11_played_154 (by decide) (j_sub [2, 3, 4, 5, 1, 0] rfl (hc95 _ _ _ _ _ _ _ h))))) (fun _ _ h => h.elim))))))) (fun _ _ h => h.elim)))) (fun _ _ h => h.elim))))))
def VX11_played_221 (d : Nat) (c192 : Nat → Int → Int → Int → MS → Prop) (Q : Out → MS → Prop) (x0 : Nat) (x8 : Int) (x10 : Int) (t0 : Int) (S : MS) : Prop :=
  c192 x0 x8 t0 (x10 + 1) S
theorem JX11_played_221 {d : Nat} {c192 : Nat → Int → Int → Int → MS → Prop} {S0 : MS} {Q : Out → MS → Prop} (hc192 : ∀ (x0 : Nat) (x8 : Int) (x9 : Int) (x10 : Int) (S : MS), c192 x0 x8 x9 x10 S → Jw FinM RX11 cX11_played 11 (some .int) [] yX11_played (d + 1) S0 S 192 [(0, vA x0), (8, vI x8), (9, vI x9), (10, vI x10)] [] Q) (x0 : Nat) (x8 : Int) (x10 : Int) (t0 : Int) (S : MS) (h : VX11_played_221 d c192 Q x0 x8 x10 t0 S) : Jw FinM RX11 cX11_played 11 (some .int) [] yX11_played (d + 1) S0 S 221 [(0, vA x0), (8, vI x8), (10, vI x10)] [vI t0] Q :=
  j_istore (lv2 := [(9, vI t0), (0, vA x0), (8, vI x8), (10, vI x10)]) dX11_played_221 (by decide) rfl (j_iinc 3 (lv2 := [(10, vI (x10 + 1)), (9, vI t0), (0, vA x0), (8, vI x8)]) dX11_played_223 rfl (by decide) rfl (j_goto (tgt := 192) dX11_played_226 (by decide) (j_sub [2, 3, 1, 0] rfl (hc192 _ _ _ _ _ h))))
def VX11_played_192 (d : Nat) (Q : Out → MS → Prop) : Nat → Nat → Int → Int → Int → MS → Prop
  | 0, _, _, _, _, _ => False
  | n + 1, x0, x8, x9, x10, S => S.K x0 = 11 ∧ ∃ b1, S.R x0 17 = some b1 ∧ ((S.K b1 = 13 ∧ 0 ≤ (0 : Int) ∧ (0 : Int) < S.N b1) ∧ ((R32 x10 ∧ R32 (S.I b1 ((0 : Int)).toNat)) ∧ (((S.I b1 ((0 : Int)).toNat) ≤ x10) → Q (.inl (some (vI x9))) S) ∧ (¬ ((S.I b1 ((0 : Int)).toNat) ≤ x10) → S.K x0 = 11 ∧ Mw hX11_rowAt yX11_rowAt d [vA x0, vI 0, vI x10] S (oI (fun r2 S2 => (R32 r2 ∧ R32 x8) ∧ (¬ (r2 = x8) → VX11_played_221 d (VX11_played_192 d Q n) Q x0 x8 x10 x9 S2) ∧ ((r2 = x8) → VX11_played_221 d (VX11_played_192 d Q n) Q x0 x8 x10 1 S2))))))
theorem JX11_played_192 {d : Nat} {S0 : MS} {Q : Out → MS → Prop} : ∀ (n : Nat) (x0 : Nat) (x8 : Int) (x9 : Int) (x10 : Int) (S : MS), VX11_played_192 d Q n x0 x8 x9 x10 S → Jw FinM RX11 cX11_played 11 (some .int) [] yX11_played (d + 1) S0 S 192 [(0, vA x0), (8, vI x8), (9, vI x9), (10, vI x10)] [] Q := by
  intro n
  induction n with
  | zero => intro x0 x8 x9 x10 S h; exact h.elim
  | succ n ih =>
    intro x0 x8 x9 x10 S h
    exact j_iload 3 dX11_played_192 rfl (j_aload_n 0 dX11_played_194 rfl (j_getR 11 17 f_RX11_45 dX11_played_195 h (fun b1 h => j_iconst dX11_played_198 (j_iald dX11_played_199 h (fun h => j_icmp_ge (tgt := 229) dX11_played_200 (by decide) h (fun h => j_iload 2 dX11_played_229 rfl (j_iret rfl dX11_played_231 h)) (fun h => j_aload_n 0 dX11_played_203 rfl (j_iconst dX11_played_204 (j_iload 3 dX11_played_205 rfl (j_callV (rest := []) 11 [vI 0, vI x10] k_RX11_247 ⟨w_8_74, p_5_11⟩ ⟨_, _, rfl⟩ (by decide) rfl rfl (Nat.le_of_ble_eq_true rfl) dX11_played_207 h (kI (fun r2 S2 h => j_iload 1 dX11_played_210 rfl (j_icmp_ne (tgt := 219) dX11_played_212 (by decide) h (fun h => j_iload 2 dX11_played_219 rfl (j_sub [0, 1, 3] rfl (JX11_played_221 ih _ _ _ _ _ h))) (fun h => j_iconst dX11_played_215 (j_goto (tgt := 221) dX11_played_216 (by decide) (j_sub [0, 1, 3] rfl (JX11_played_221 ih _ _ _ _ _ h))))))) (fun _ _ h => h.elim))))))))))
def VX11_played_95 (d : Nat) (Q : Out → MS → Prop) : Nat → Nat → Int → Int → Int → Int → Int → MS → Prop
  | 0, _, _, _, _, _, _, _ => False
  | n + 1, x0, x2, x4, x5, x6, x7, S => R32 x7 ∧ ((x7 < 0) → (R32 x4 ∧ R32 (2 : Int)) ∧ (((2 : Int) ≤ x4) → S.K x0 = 11 ∧ Mw hX11_trueRow yX11_trueRow d [vA x0] S (oI (fun r1 S1 => ∃ m, VX11_played_192 d Q m x0 r1 0 0 S1))) ∧ (¬ ((2 : Int) ≤ x4) → R32 x4 ∧ (¬ (x4 = 0) → S.K x0 = 11 ∧ ∃ b2, S.R x0 17 = some b2 ∧ ((S.K b2 = 13 ∧ 0 ≤ (0 : Int) ∧ (0 : Int) < S.N b2) ∧ (Q (.inl (some (vI (S.I b2 ((0 : Int)).toNat)))) S))) ∧ ((x4 = 0) → Q (.inl (some (vI x6))) S))) ∧ (¬ (x7 < 0) → S.K x0 = 11 ∧ Mw hX11_truly yX11_truly d [vA x0, vI x5, vI x7] S (oI (fun r3 S3 => S3.K x0 = 11 ∧ Mw hX11_draw yX11_draw d [vA x0] S3 (oI (fun r4 S4 => (R32 r4 ∧ R32 x2) ∧ ((x2 ≤ r4) → VX11_played_127 d (VX11_played_95 d Q n) Q x0 x2 x4 x5 x6 x7 r3 S4) ∧ (¬ (x2 ≤ r4) → Mw hX11_behind yX11_behind d [vI x7, vI r3] S4 (oI (fun r5 S5 => VX11_played_127 d (VX11_played_95 d Q n) Q x0 x2 x4 x5 x6 x7 r5 S5))))))))
theorem JX11_played_95 {d : Nat} {S0 : MS} {Q : Out → MS → Prop} : ∀ (n : Nat) (x0 : Nat) (x2 : Int) (x4 : Int) (x5 : Int) (x6 : Int) (x7 : Int) (S : MS), VX11_played_95 d Q n x0 x2 x4 x5 x6 x7 S → Jw FinM RX11 cX11_played 11 (some .int) [] yX11_played (d + 1) S0 S 95 [(0, vA x0), (2, vI x2), (4, vI x4), (5, vI x5), (6, vI x6), (7, vI x7)] [] Q := by
  intro n
  induction n with
  | zero => intro x0 x2 x4 x5 x6 x7 S h; exact h.elim
  | succ n ih =>
    intro x0 x2 x4 x5 x6 x7 S h
    exact j_iload 5 dX11_played_95 rfl (j_if_lt (tgt := 157) dX11_played_97 (by decide) h (fun h => j_iload 2 dX11_played_157 rfl (j_iconst dX11_played_159 (j_icmp_ge (tgt := 180) dX11_played_160 (by decide) h (fun h => j_aload_n 0 dX11_played_180 rfl (j_callV (rest := []) 11 [] k_RX11_403 ⟨w_9_110, p_7_11⟩ ⟨_, _, rfl⟩ (by decide) rfl rfl (Nat.le_of_ble_eq_true rfl) dX11_played_181 h (kI (fun r1 S1 h => j_istore (lv2 := [(8, vI r1), (0, vA x0), (2, vI x2), (4, vI x4), (5, vI x5), (6, vI x6), (7, vI x7)]) dX11_played_184 (by decide) rfl (j_iconst dX11_played_186 (j_istore (lv2 := [(9, vI 0), (8, vI r1), (0, vA x0), (2, vI x2), (4, vI x4), (5, vI x5), (6, vI x6), (7, vI x7)]) dX11_played_187 (by decide) rfl (j_iconst dX11_played_189 (j_istore (lv2 := [(10, vI 0), (9, vI 0), (8, vI r1), (0, vA x0), (2, vI x2), (4, vI x4), (5, vI x5), (6, vI x6), (7, vI x7)]) dX11_played_190 (by decide) rfl (Exists.elim h (fun m h => j_sub [3, 2, 1, 0] rfl (JX11_played_192 m _ _ _ _ _ h))))))))) (fun _ _ h => h.elim))) (fun h => j_iload 2 dX11_played_163 rfl (j_if_ne (tgt := 173) dX11_played_165 (by decide) h (fun h => j_aload_n 0 dX11_played_173 rfl (j_getR 11 17 f_RX11_45 dX11_played_174 h (fun b2 h => j_iconst dX11_played_177 (j_iald dX11_played_178 h (fun h => j_iret rfl dX11_played_179 h))))) (fun h => j_iload 4 dX11_played_168 rfl (j_goto (tgt := 179) dX11_played_170 (by decide) (j_iret rfl dX11_played_179 h)))))))) (fun h => j_aload_n 0 dX11_played_100 rfl (j_iload 3 dX11_played_101 rfl (j_iload 5 dX11_played_103 rfl (j_callV (rest := []) 11 [vI x5, vI x7] k_RX11_209 ⟨w_8_3, p_4_15⟩ ⟨_, _, rfl⟩ (by decide) rfl rfl (Nat.le_of_ble_eq_true rfl) dX11_played_105 h (kI (fun r3 S3 h => j_istore (lv2 := [(8, vI r3), (0, vA x0), (2, vI x2), (4, vI x4), (5, vI x5), (6, vI x6), (7, vI x7)]) dX11_played_108 (by decide) rfl (j_aload_n 1 dX11_played_110 rfl (j_callV (rest := []) 11 [] k_RX11_397 ⟨w_9_102, p_7_10⟩ ⟨_, _, rfl⟩ (by decide) rfl rfl (Nat.le_of_ble_eq_true rfl) dX11_played_111 h (kI (fun r4 S4 h => j_iload_n 2 dX11_played_114 rfl (j_icmp_ge (tgt := 127) dX11_played_115 (by decide) h (fun h => j_sub [1, 2, 3, 4, 5, 6, 0] rfl (JX11_played_127 ih _ _ _ _ _ _ _ _ h)) (fun h => j_iload 6 dX11_played_118 rfl (j_iload 0 dX11_played_120 rfl (j_callS (rest := []) [vI x7, vI r3] k_RX11_400 w_9_106 rfl rfl (Nat.le_of_ble_eq_true rfl) dX11_played_122 h (kI (fun r5 S5 h => j_istore (lv2 := [(8, vI r5), (0, vA x0), (2, vI x2), (4, vI x4), (5, vI x5), (6, vI x6), (7, vI x7)]) dX11_played_125 (by decide) rfl (j_sub [1, 2, 3, 4, 5, 6, 0] rfl (JX11_played_127 ih _ _ _ _ _ _ _ _ h)))) (fun _ _ h => h.elim))))))) (fun _ _ h => h.elim))))) (fun _ _ h => h.elim))))))
def VX11_played_57 (d : Nat) (Q : Out → MS → Prop) (x0 : Nat) (x1 : Int) (x2 : Int) (x3 : Int) (x4 : Int) (t0 : Int) (t1 : Nat) (S : MS) : Prop :=
  S.K t1 = 11 ∧ Mw hX11_throwsIf yX11_throwsIf d [vA t1, vI t0, vI 3] S (oI (fun r1 S1 => R32 r1 ∧ ((r1 = 0) → S1.K x0 = 11 ∧ Mw hX11_ofScale yX11_ofScale d [vA x0, vI x1, vI 0] S1 (oI (fun r2 S2 => S2.K x0 = 11 ∧ ((S2.setI x0 38 x3).K x0 = 11 ∧ Mw hX11_leaves yX11_leaves d [vA x0] (S2.setI x0 38 x3) (oV (fun S3 => S3.K x0 = 11 ∧ Mw hX11_laidFor yX11_laidFor d [vA x0, vI 0, vI r2] S3 (oI (fun r4 S4 => ∃ m, VX11_played_95 d Q m x0 x2 x4 r2 0 r4 S4)))))))) ∧ (¬ (r1 = 0) → Q (.inl (some (vI 0))) S1)))
theorem JX11_played_57 {d : Nat} {S0 : MS} {Q : Out → MS → Prop} (x0 : Nat) (x1 : Int) (x2 : Int) (x3 : Int) (x4 : Int) (t0 : Int) (t1 : Nat) (S : MS) (h : VX11_played_57 d Q x0 x1 x2 x3 x4 t0 t1 S) : Jw FinM RX11 cX11_played 11 (some .int) [] yX11_played (d + 1) S0 S 57 [(0, vA x0), (1, vI x1), (2, vI x2), (3, vI x3), (4, vI x4)] [vI t0, vA t1] Q :=
  j_iconst dX11_played_57 (j_callV (rest := []) 11 [vI t0, vI 3] k_RX11_190 ⟨w_7_191, p_4_7⟩ ⟨_, _, rfl⟩ (by decide) rfl rfl (Nat.le_of_ble_eq_true rfl) dX11_played_58 h (kI (fun r1 S1 h => j_if_eq (tgt := 66) dX11_played_61 (by decide) h (fun h => j_aload_n 0 dX11_played_66 rfl (j_iload_n 1 dX11_played_67 rfl (j_iconst dX11_played_68 (j_callV (rest := []) 11 [vI x1, vI 0] k_RX11_94 ⟨w_7_239, p_4_14⟩ ⟨_, _, rfl⟩ (by decide) rfl rfl (Nat.le_of_ble_eq_true rfl) dX11_played_69 h (kI (fun r2 S2 h => j_istore (lv2 := [(5, vI r2), (0, vA x0), (1, vI x1), (2, vI x2), (3, vI x3), (4, vI x4)]) dX11_played_72 (by decide) rfl (j_aload_n 1 dX11_played_74 rfl (j_iload_n 4 dX11_played_75 rfl (j_putI 11 38 f_RX11_394 dX11_played_76 h (fun h => j_aload_n 1 dX11_played_79 rfl (j_callV (rest := []) 11 [] k_RX11_253 ⟨w_8_42, p_5_4⟩ ⟨_, _, rfl⟩ (by decide) rfl rfl (Nat.le_of_ble_eq_true rfl) dX11_played_80 h (kV (fun S3 h => j_iconst dX11_played_83 (j_istore (lv2 := [(6, vI 0), (5, vI r2), (0, vA x0), (1, vI x1), (2, vI x2), (3, vI x3), (4, vI x4)]) dX11_played_84 (by decide) rfl (j_aload_n 2 dX11_played_86 rfl (j_iconst dX11_played_87 (j_iload 1 dX11_played_88 rfl (j_callV (rest := []) 11 [vI 0, vI r2] k_RX11_362 ⟨w_9_50, p_7_6⟩ ⟨_, _, rfl⟩ (by decide) rfl rfl (Nat.le_of_ble_eq_true rfl) dX11_played_90 h (kI (fun r4 S4 h => j_istore (lv2 := [(7, vI r4), (6, vI 0), (5, vI r2), (0, vA x0), (1, vI x1), (2, vI x2), (3, vI x3), (4, vI x4)]) dX11_played_93 (by decide) rfl (Exists.elim h (fun m h => j_sub [3, 5, 7, 2, 1, 0] rfl (JX11_played_95 m _ _ _ _ _ _ _ h))))) (fun _ _ h => h.elim)))))))) (fun _ _ h => h.elim)))))))) (fun _ _ h => h.elim))))) (fun h => j_iconst dX11_played_64 (j_iret rfl dX11_played_65 h)))) (fun _ _ h => h.elim))
def VX11_played_34 (d : Nat) (Q : Out → MS → Prop) (x0 : Nat) (x1 : Int) (x2 : Int) (x3 : Int) (x4 : Int) (t0 : Int) (t1 : Nat) (S : MS) : Prop :=
  S.K t1 = 11 ∧ Mw hX11_throwsIf yX11_throwsIf d [vA t1, vI t0, vI 2] S (oI (fun r1 S1 => R32 r1 ∧ (¬ (r1 = 0) → Q (.inl (some (vI 0))) S1) ∧ ((r1 = 0) → Mw hX11_in yX11_in d [vI x4, vI 0, vI 2] S1 (oI (fun r2 S2 => R32 r2 ∧ (¬ (r2 = 0) → VX11_played_57 d Q x0 x1 x2 x3 x4 0 x0 S2) ∧ ((r2 = 0) → VX11_played_57 d Q x0 x1 x2 x3 x4 1 x0 S2))))))
theorem JX11_played_34 {d : Nat} {S0 : MS} {Q : Out → MS → Prop} (x0 : Nat) (x1 : Int) (x2 : Int) (x3 : Int) (x4 : Int) (t0 : Int) (t1 : Nat) (S : MS) (h : VX11_played_34 d Q x0 x1 x2 x3 x4 t0 t1 S) : Jw FinM RX11 cX11_played 11 (some .int) [] yX11_played (d + 1) S0 S 34 [(0, vA x0), (1, vI x1), (2, vI x2), (3, vI x3), (4, vI x4)] [vI t0, vA t1] Q :=
  j_iconst dX11_played_34 (j_callV (rest := []) 11 [vI t0, vI 2] k_RX11_190 ⟨w_7_191, p_4_7⟩ ⟨_, _, rfl⟩ (by decide) rfl rfl (Nat.le_of_ble_eq_true rfl) dX11_played_35 h (kI (fun r1 S1 h => j_if_ne (tgt := 64) dX11_played_38 (by decide) h (fun h => j_iconst dX11_played_64 (j_iret rfl dX11_played_65 h)) (fun h => j_aload_n 0 dX11_played_41 rfl (j_iload 4 dX11_played_42 rfl (j_iconst dX11_played_44 (j_iconst dX11_played_45 (j_callS (rest := [vA x0]) [vI x4, vI 0, vI 2] k_RX11_87 w_7_198 rfl rfl (Nat.le_of_ble_eq_true rfl) dX11_played_46 h (kI (fun r2 S2 h => j_if_ne (tgt := 56) dX11_played_49 (by decide) h (fun h => j_iconst dX11_played_56 (JX11_played_57 _ _ _ _ _ _ _ _ h)) (fun h => j_iconst dX11_played_52 (j_goto (tgt := 57) dX11_played_53 (by decide) (JX11_played_57 _ _ _ _ _ _ _ _ h))))) (fun _ _ h => h.elim)))))))) (fun _ _ h => h.elim))
def VX11_played_0 (d : Nat) (Q : Out → MS → Prop) (x0 : Nat) (x1 : Int) (x2 : Int) (x3 : Int) (x4 : Int) (S : MS) : Prop :=
  S.K x0 = 11 ∧ ((S.setI x0 0 0).K x0 = 11 ∧ Mw hX11_noScale yX11_noScale d [vA x0, vI x1] (S.setI x0 0 0) (oI (fun r1 S1 => S1.K x0 = 11 ∧ Mw hX11_throwsIf yX11_throwsIf d [vA x0, vI r1, vI 1] S1 (oI (fun r2 S2 => R32 r2 ∧ (¬ (r2 = 0) → Q (.inl (some (vI 0))) S2) ∧ ((r2 = 0) → Mw hX11_in yX11_in d [vI x2, vI 0, vI 99] S2 (oI (fun r3 S3 => R32 r3 ∧ (¬ (r3 = 0) → VX11_played_34 d Q x0 x1 x2 x3 x4 0 x0 S3) ∧ ((r3 = 0) → VX11_played_34 d Q x0 x1 x2 x3 x4 1 x0 S3)))))))))
theorem JX11_played_0 {d : Nat} {S0 : MS} {Q : Out → MS → Prop} (x0 : Nat) (x1 : Int) (x2 : Int) (x3 : Int) (x4 : Int) (S : MS) (h : VX11_played_0 d Q x0 x1 x2 x3 x4 S) : Jw FinM RX11 cX11_played 11 (some .int) [] yX11_played (d + 1) S0 S 0 [(0, vA x0), (1, vI x1), (2, vI x2), (3, vI x3), (4, vI x4)] [] Q :=
  j_aload_n 0 dX11_played_0 rfl (j_iconst dX11_played_1 (j_putI 11 0 f_RX11_3 dX11_played_2 h (fun h => j_aload_n 0 dX11_played_5 rfl (j_aload_n 0 dX11_played_6 rfl (j_iload_n 1 dX11_played_7 rfl (j_callV (rest := [vA x0]) 11 [vI x1] k_RX11_203 ⟨w_7_226, p_4_11⟩ ⟨_, _, rfl⟩ (by decide) rfl rfl (Nat.le_of_ble_eq_true rfl) dX11_played_8 h (kI (fun r1 S1 h => j_iconst dX11_played_11 (j_callV (rest := []) 11 [vI r1, vI 1] k_RX11_190 ⟨w_7_191, p_4_7⟩ ⟨_, _, rfl⟩ (by decide) rfl rfl (Nat.le_of_ble_eq_true rfl) dX11_played_12 h (kI (fun r2 S2 h => j_if_ne (tgt := 64) dX11_played_15 (by decide) h (fun h => j_iconst dX11_played_64 (j_iret rfl dX11_played_65 h)) (fun h => j_aload_n 0 dX11_played_18 rfl (j_iload_n 2 dX11_played_19 rfl (j_iconst dX11_played_20 (j_bipush dX11_played_21 rfl (j_callS (rest := [vA x0]) [vI x2, vI 0, vI 99] k_RX11_87 w_7_198 rfl rfl (Nat.le_of_ble_eq_true rfl) dX11_played_23 h (kI (fun r3 S3 h => j_if_ne (tgt := 33) dX11_played_26 (by decide) h (fun h => j_iconst dX11_played_33 (JX11_played_34 _ _ _ _ _ _ _ _ h)) (fun h => j_iconst dX11_played_29 (j_goto (tgt := 34) dX11_played_30 (by decide) (JX11_played_34 _ _ _ _ _ _ _ _ h))))) (fun _ _ h => h.elim)))))))) (fun _ _ h => h.elim)))) (fun _ _ h => h.elim)))))))
theorem MX11_played {d : Nat} {x0 : Nat} {x1 : Int} {x2 : Int} {x3 : Int} {x4 : Int} {S : MS} {Q : Out → MS → Prop} (h : VX11_played_0 d Q x0 x1 x2 x3 x4 S) : Mw hX11_played yX11_played (d + 1) [vA x0, vI x1, vI x2, vI x3, vI x4] S Q := Mw.ofJ (by decide) (Nat.le_of_ble_eq_true rfl) (JX11_played_0 _ _ _ _ _ S h)
theorem dX11_count_0 : decode cX11_count 0 = .ok (.aload_n 0, 1) := by decide +kernel
theorem dX11_count_1 : decode cX11_count 1 = .ok (.iconst 0, 1) := by decide +kernel
theorem dX11_count_2 : decode cX11_count 2 = .ok (.putfield 3, 3) := by decide +kernel
theorem dX11_count_5 : decode cX11_count 5 = .ok (.iconst 0, 1) := by decide +kernel
theorem dX11_count_6 : decode cX11_count 6 = .ok (.istore_n 2, 1) := by decide +kernel
theorem dX11_count_7 : decode cX11_count 7 = .ok (.iload_n 1, 1) := by decide +kernel
theorem dX11_count_8 : decode cX11_count 8 = .ok (.tableswitch 192 0 6 #[44, 49, 56, 61, 68, 100, 150], 44) := by decide +kernel
theorem dX11_count_52 : decode cX11_count 52 = .ok (.aload_n 0, 1) := by decide +kernel
theorem dX11_count_53 : decode cX11_count 53 = .ok (.invokevirtual 83, 3) := by decide +kernel
theorem dX11_count_56 : decode cX11_count 56 = .ok (.ireturn, 1) := by decide +kernel
theorem dX11_count_57 : decode cX11_count 57 = .ok (.aload_n 0, 1) := by decide +kernel
theorem dX11_count_58 : decode cX11_count 58 = .ok (.getfield 13, 3) := by decide +kernel
theorem dX11_count_61 : decode cX11_count 61 = .ok (.iconst 1, 1) := by decide +kernel
theorem dX11_count_62 : decode cX11_count 62 = .ok (.iaload, 1) := by decide +kernel
theorem dX11_count_63 : decode cX11_count 63 = .ok (.ireturn, 1) := by decide +kernel
theorem dX11_count_64 : decode cX11_count 64 = .ok (.aload_n 0, 1) := by decide +kernel
theorem dX11_count_65 : decode cX11_count 65 = .ok (.invokevirtual 91, 3) := by decide +kernel
theorem dX11_count_68 : decode cX11_count 68 = .ok (.ireturn, 1) := by decide +kernel
theorem dX11_count_69 : decode cX11_count 69 = .ok (.aload_n 0, 1) := by decide +kernel
theorem dX11_count_70 : decode cX11_count 70 = .ok (.getfield 13, 3) := by decide +kernel
theorem dX11_count_73 : decode cX11_count 73 = .ok (.iconst 3, 1) := by decide +kernel
theorem dX11_count_74 : decode cX11_count 74 = .ok (.iaload, 1) := by decide +kernel
theorem dX11_count_75 : decode cX11_count 75 = .ok (.ireturn, 1) := by decide +kernel
theorem dX11_count_76 : decode cX11_count 76 = .ok (.iconst 0, 1) := by decide +kernel
theorem dX11_count_77 : decode cX11_count 77 = .ok (.istore_n 3, 1) := by decide +kernel
theorem dX11_count_78 : decode cX11_count 78 = .ok (.iload_n 3, 1) := by decide +kernel
theorem dX11_count_79 : decode cX11_count 79 = .ok (.aload_n 0, 1) := by decide +kernel
theorem dX11_count_80 : decode cX11_count 80 = .ok (.invokevirtual 91, 3) := by decide +kernel
theorem dX11_count_83 : decode cX11_count 83 = .ok (.if_icmp .ge 23, 3) := by decide +kernel
theorem dX11_count_86 : decode cX11_count 86 = .ok (.iload_n 2, 1) := by decide +kernel
theorem dX11_count_87 : decode cX11_count 87 = .ok (.aload_n 0, 1) := by decide +kernel
theorem dX11_count_88 : decode cX11_count 88 = .ok (.aload_n 0, 1) := by decide +kernel
theorem dX11_count_89 : decode cX11_count 89 = .ok (.iload_n 3, 1) := by decide +kernel
theorem dX11_count_90 : decode cX11_count 90 = .ok (.iconst 0, 1) := by decide +kernel
theorem dX11_count_91 : decode cX11_count 91 = .ok (.invokevirtual 215, 3) := by decide +kernel
theorem dX11_count_94 : decode cX11_count 94 = .ok (.iconst 1, 1) := by decide +kernel
theorem dX11_count_95 : decode cX11_count 95 = .ok (.invokevirtual 94, 3) := by decide +kernel
theorem dX11_count_98 : decode cX11_count 98 = .ok (.iadd, 1) := by decide +kernel
theorem dX11_count_99 : decode cX11_count 99 = .ok (.istore_n 2, 1) := by decide +kernel
theorem dX11_count_100 : decode cX11_count 100 = .ok (.iinc 3 1, 3) := by decide +kernel
theorem dX11_count_103 : decode cX11_count 103 = .ok (.goto (-25), 3) := by decide +kernel
theorem dX11_count_106 : decode cX11_count 106 = .ok (.iload_n 2, 1) := by decide +kernel
theorem dX11_count_107 : decode cX11_count 107 = .ok (.ireturn, 1) := by decide +kernel
theorem dX11_count_108 : decode cX11_count 108 = .ok (.aload_n 0, 1) := by decide +kernel
theorem dX11_count_109 : decode cX11_count 109 = .ok (.invokevirtual 253, 3) := by decide +kernel
theorem dX11_count_112 : decode cX11_count 112 = .ok (.iconst 0, 1) := by decide +kernel
theorem dX11_count_113 : decode cX11_count 113 = .ok (.istore_n 3, 1) := by decide +kernel
theorem dX11_count_114 : decode cX11_count 114 = .ok (.iload_n 3, 1) := by decide +kernel
theorem dX11_count_115 : decode cX11_count 115 = .ok (.aload_n 0, 1) := by decide +kernel
theorem dX11_count_116 : decode cX11_count 116 = .ok (.getfield 45, 3) := by decide +kernel
theorem dX11_count_119 : decode cX11_count 119 = .ok (.iconst 0, 1) := by decide +kernel
theorem dX11_count_120 : decode cX11_count 120 = .ok (.iaload, 1) := by decide +kernel
theorem dX11_count_121 : decode cX11_count 121 = .ok (.if_icmp .ge 35, 3) := by decide +kernel
theorem dX11_count_124 : decode cX11_count 124 = .ok (.iload_n 2, 1) := by decide +kernel
theorem dX11_count_125 : decode cX11_count 125 = .ok (.aload_n 0, 1) := by decide +kernel
theorem dX11_count_126 : decode cX11_count 126 = .ok (.aload_n 0, 1) := by decide +kernel
theorem dX11_count_127 : decode cX11_count 127 = .ok (.aload_n 0, 1) := by decide +kernel
theorem dX11_count_128 : decode cX11_count 128 = .ok (.iconst 0, 1) := by decide +kernel
theorem dX11_count_129 : decode cX11_count 129 = .ok (.iload_n 3, 1) := by decide +kernel
theorem dX11_count_130 : decode cX11_count 130 = .ok (.invokevirtual 247, 3) := by decide +kernel
theorem dX11_count_133 : decode cX11_count 133 = .ok (.invokevirtual 406, 3) := by decide +kernel
theorem dX11_count_136 : decode cX11_count 136 = .ok (.iconst 0, 1) := by decide +kernel
theorem dX11_count_137 : decode cX11_count 137 = .ok (.invokevirtual 244, 3) := by decide +kernel
theorem dX11_count_140 : decode cX11_count 140 = .ok (.ifCond .eq 7, 3) := by decide +kernel
theorem dX11_count_143 : decode cX11_count 143 = .ok (.iconst 1, 1) := by decide +kernel
theorem dX11_count_144 : decode cX11_count 144 = .ok (.goto 4, 3) := by decide +kernel
theorem dX11_count_147 : decode cX11_count 147 = .ok (.iconst 0, 1) := by decide +kernel
theorem dX11_count_148 : decode cX11_count 148 = .ok (.iadd, 1) := by decide +kernel
theorem dX11_count_149 : decode cX11_count 149 = .ok (.istore_n 2, 1) := by decide +kernel
theorem dX11_count_150 : decode cX11_count 150 = .ok (.iinc 3 1, 3) := by decide +kernel
theorem dX11_count_153 : decode cX11_count 153 = .ok (.goto (-39), 3) := by decide +kernel
theorem dX11_count_156 : decode cX11_count 156 = .ok (.iload_n 2, 1) := by decide +kernel
theorem dX11_count_157 : decode cX11_count 157 = .ok (.ireturn, 1) := by decide +kernel
theorem dX11_count_158 : decode cX11_count 158 = .ok (.aload_n 0, 1) := by decide +kernel
theorem dX11_count_159 : decode cX11_count 159 = .ok (.invokevirtual 241, 3) := by decide +kernel
theorem dX11_count_162 : decode cX11_count 162 = .ok (.iconst 0, 1) := by decide +kernel
theorem dX11_count_163 : decode cX11_count 163 = .ok (.istore_n 3, 1) := by decide +kernel
theorem dX11_count_164 : decode cX11_count 164 = .ok (.iload_n 3, 1) := by decide +kernel
theorem dX11_count_165 : decode cX11_count 165 = .ok (.aload_n 0, 1) := by decide +kernel
theorem dX11_count_166 : decode cX11_count 166 = .ok (.invokevirtual 91, 3) := by decide +kernel
theorem dX11_count_169 : decode cX11_count 169 = .ok (.if_icmp .ge 29, 3) := by decide +kernel
theorem dX11_count_172 : decode cX11_count 172 = .ok (.iload_n 2, 1) := by decide +kernel
theorem dX11_count_173 : decode cX11_count 173 = .ok (.aload_n 0, 1) := by decide +kernel
theorem dX11_count_174 : decode cX11_count 174 = .ok (.aload_n 0, 1) := by decide +kernel
theorem dX11_count_175 : decode cX11_count 175 = .ok (.invokevirtual 403, 3) := by decide +kernel
theorem dX11_count_178 : decode cX11_count 178 = .ok (.iload_n 3, 1) := by decide +kernel
theorem dX11_count_179 : decode cX11_count 179 = .ok (.invokevirtual 238, 3) := by decide +kernel
theorem dX11_count_182 : decode cX11_count 182 = .ok (.ifCond .eq 7, 3) := by decide +kernel
theorem dX11_count_185 : decode cX11_count 185 = .ok (.iconst 0, 1) := by decide +kernel
theorem dX11_count_186 : decode cX11_count 186 = .ok (.goto 4, 3) := by decide +kernel
theorem dX11_count_189 : decode cX11_count 189 = .ok (.iconst 1, 1) := by decide +kernel
theorem dX11_count_190 : decode cX11_count 190 = .ok (.iadd, 1) := by decide +kernel
theorem dX11_count_191 : decode cX11_count 191 = .ok (.istore_n 2, 1) := by decide +kernel
theorem dX11_count_192 : decode cX11_count 192 = .ok (.iinc 3 1, 3) := by decide +kernel
theorem dX11_count_195 : decode cX11_count 195 = .ok (.goto (-31), 3) := by decide +kernel
theorem dX11_count_198 : decode cX11_count 198 = .ok (.iload_n 2, 1) := by decide +kernel
theorem dX11_count_199 : decode cX11_count 199 = .ok (.ireturn, 1) := by decide +kernel
theorem dX11_count_200 : decode cX11_count 200 = .ok (.iconst (-1), 1) := by decide +kernel
theorem dX11_count_201 : decode cX11_count 201 = .ok (.ireturn, 1) := by decide +kernel
def VX11_count_78 (d : Nat) (Q : Out → MS → Prop) : Nat → Nat → Int → Int → MS → Prop
  | 0, _, _, _, _ => False
  | n + 1, x0, x2, x3, S => S.K x0 = 11 ∧ Mw hX11_notes yX11_notes d [vA x0] S (oI (fun r1 S1 => (R32 x3 ∧ R32 r1) ∧ ((r1 ≤ x3) → Q (.inl (some (vI x2))) S1) ∧ (¬ (r1 ≤ x3) → S1.K x0 = 11 ∧ Mw hX11_ofNote yX11_ofNote d [vA x0, vI x3, vI 0] S1 (oI (fun r2 S2 => S2.K x0 = 11 ∧ Mw hX11_ofScale yX11_ofScale d [vA x0, vI r2, vI 1] S2 (oI (fun r3 S3 => (VX11_count_78 d Q n) x0 (x2 + r3) (x3 + 1) S3)))))))
theorem JX11_count_78 {d : Nat} {S0 : MS} {Q : Out → MS → Prop} : ∀ (n : Nat) (x0 : Nat) (x2 : Int) (x3 : Int) (S : MS), VX11_count_78 d Q n x0 x2 x3 S → Jw FinM RX11 cX11_count 4 (some .int) [] yX11_count (d + 1) S0 S 78 [(0, vA x0), (2, vI x2), (3, vI x3)] [] Q := by
  intro n
  induction n with
  | zero => intro x0 x2 x3 S h; exact h.elim
  | succ n ih =>
    intro x0 x2 x3 S h
    exact j_iload_n 2 dX11_count_78 rfl (j_aload_n 0 dX11_count_79 rfl (j_callV (rest := [vI x3]) 11 [] k_RX11_91 ⟨w_7_202, p_4_8⟩ ⟨_, _, rfl⟩ (by decide) rfl rfl (Nat.le_of_ble_eq_true rfl) dX11_count_80 h (kI (fun r1 S1 h => j_icmp_ge (tgt := 106) dX11_count_83 (by decide) h (fun h => j_iload_n 1 dX11_count_106 rfl (j_iret rfl dX11_count_107 h)) (fun h => j_iload_n 1 dX11_count_86 rfl (j_aload_n 0 dX11_count_87 rfl (j_aload_n 0 dX11_count_88 rfl (j_iload_n 2 dX11_count_89 rfl (j_iconst dX11_count_90 (j_callV (rest := [vA x0, vI x2]) 11 [vI x3, vI 0] k_RX11_215 ⟨w_8_26, p_5_2⟩ ⟨_, _, rfl⟩ (by decide) rfl rfl (Nat.le_of_ble_eq_true rfl) dX11_count_91 h (kI (fun r2 S2 h => j_iconst dX11_count_94 (j_callV (rest := [vI x2]) 11 [vI r2, vI 1] k_RX11_94 ⟨w_7_239, p_4_14⟩ ⟨_, _, rfl⟩ (by decide) rfl rfl (Nat.le_of_ble_eq_true rfl) dX11_count_95 h (kI (fun r3 S3 h => j_iadd dX11_count_98 (j_istore_n (lv2 := [(2, vI (x2 + r3)), (0, vA x0), (3, vI x3)]) dX11_count_99 (by decide) rfl (j_iinc 2 (lv2 := [(3, vI (x3 + 1)), (2, vI (x2 + r3)), (0, vA x0)]) dX11_count_100 rfl (by decide) rfl (j_goto (tgt := 78) dX11_count_103 (by decide) (j_sub [2, 1, 0] rfl (ih _ _ _ _ h))))))) (fun _ _ h => h.elim)))) (fun _ _ h => h.elim))))))))) (fun _ _ h => h.elim)))
def VX11_count_148 (d : Nat) (c114 : Nat → Int → Int → MS → Prop) (Q : Out → MS → Prop) (x0 : Nat) (x3 : Int) (t0 : Int) (t1 : Int) (S : MS) : Prop :=
  c114 x0 (t1 + t0) (x3 + 1) S
theorem JX11_count_148 {d : Nat} {c114 : Nat → Int → Int → MS → Prop} {S0 : MS} {Q : Out → MS → Prop} (hc114 : ∀ (x0 : Nat) (x2 : Int) (x3 : Int) (S : MS), c114 x0 x2 x3 S → Jw FinM RX11 cX11_count 4 (some .int) [] yX11_count (d + 1) S0 S 114 [(0, vA x0), (2, vI x2), (3, vI x3)] [] Q) (x0 : Nat) (x3 : Int) (t0 : Int) (t1 : Int) (S : MS) (h : VX11_count_148 d c114 Q x0 x3 t0 t1 S) : Jw FinM RX11 cX11_count 4 (some .int) [] yX11_count (d + 1) S0 S 148 [(0, vA x0), (3, vI x3)] [vI t0, vI t1] Q :=
  j_iadd dX11_count_148 (j_istore_n (lv2 := [(2, vI (t1 + t0)), (0, vA x0), (3, vI x3)]) dX11_count_149 (by decide) rfl (j_iinc 2 (lv2 := [(3, vI (x3 + 1)), (2, vI (t1 + t0)), (0, vA x0)]) dX11_count_150 rfl (by decide) rfl (j_goto (tgt := 114) dX11_count_153 (by decide) (j_sub [2, 1, 0] rfl (hc114 _ _ _ _ h)))))
def VX11_count_114 (d : Nat) (Q : Out → MS → Prop) : Nat → Nat → Int → Int → MS → Prop
  | 0, _, _, _, _ => False
  | n + 1, x0, x2, x3, S => S.K x0 = 11 ∧ ∃ b1, S.R x0 17 = some b1 ∧ ((S.K b1 = 13 ∧ 0 ≤ (0 : Int) ∧ (0 : Int) < S.N b1) ∧ ((R32 x3 ∧ R32 (S.I b1 ((0 : Int)).toNat)) ∧ (((S.I b1 ((0 : Int)).toNat) ≤ x3) → Q (.inl (some (vI x2))) S) ∧ (¬ ((S.I b1 ((0 : Int)).toNat) ≤ x3) → S.K x0 = 11 ∧ Mw hX11_rowAt yX11_rowAt d [vA x0, vI 0, vI x3] S (oI (fun r2 S2 => S2.K x0 = 11 ∧ Mw hX11_mirrorOf yX11_mirrorOf d [vA x0, vI r2] S2 (oI (fun r3 S3 => S3.K x0 = 11 ∧ Mw hX11_fitsAll yX11_fitsAll d [vA x0, vI r3, vI 0] S3 (oI (fun r4 S4 => R32 r4 ∧ ((r4 = 0) → VX11_count_148 d (VX11_count_114 d Q n) Q x0 x3 0 x2 S4) ∧ (¬ (r4 = 0) → VX11_count_148 d (VX11_count_114 d Q n) Q x0 x3 1 x2 S4))))))))))
theorem JX11_count_114 {d : Nat} {S0 : MS} {Q : Out → MS → Prop} : ∀ (n : Nat) (x0 : Nat) (x2 : Int) (x3 : Int) (S : MS), VX11_count_114 d Q n x0 x2 x3 S → Jw FinM RX11 cX11_count 4 (some .int) [] yX11_count (d + 1) S0 S 114 [(0, vA x0), (2, vI x2), (3, vI x3)] [] Q := by
  intro n
  induction n with
  | zero => intro x0 x2 x3 S h; exact h.elim
  | succ n ih =>
    intro x0 x2 x3 S h
    exact j_iload_n 2 dX11_count_114 rfl (j_aload_n 0 dX11_count_115 rfl (j_getR 11 17 f_RX11_45 dX11_count_116 h (fun b1 h => j_iconst dX11_count_119 (j_iald dX11_count_120 h (fun h => j_icmp_ge (tgt := 156) dX11_count_121 (by decide) h (fun h => j_iload_n 1 dX11_count_156 rfl (j_iret rfl dX11_count_157 h)) (fun h => j_iload_n 1 dX11_count_124 rfl (j_aload_n 0 dX11_count_125 rfl (j_aload_n 0 dX11_count_126 rfl (j_aload_n 0 dX11_count_127 rfl (j_iconst dX11_count_128 (j_iload_n 2 dX11_count_129 rfl (j_callV (rest := [vA x0, vA x0, vI x2]) 11 [vI 0, vI x3] k_RX11_247 ⟨w_8_74, p_5_11⟩ ⟨_, _, rfl⟩ (by decide) rfl rfl (Nat.le_of_ble_eq_true rfl) dX11_count_130 h (kI (fun r2 S2 h => j_callV (rest := [vA x0, vI x2]) 11 [vI r2] k_RX11_406 ⟨w_9_118, p_7_12⟩ ⟨_, _, rfl⟩ (by decide) rfl rfl (Nat.le_of_ble_eq_true rfl) dX11_count_133 h (kI (fun r3 S3 h => j_iconst dX11_count_136 (j_callV (rest := [vI x2]) 11 [vI r3, vI 0] k_RX11_244 ⟨w_8_54, p_5_7⟩ ⟨_, _, rfl⟩ (by decide) rfl rfl (Nat.le_of_ble_eq_true rfl) dX11_count_137 h (kI (fun r4 S4 h => j_if_eq (tgt := 147) dX11_count_140 (by decide) h (fun h => j_iconst dX11_count_147 (j_sub [0, 2] rfl (JX11_count_148 ih _ _ _ _ _ h))) (fun h => j_iconst dX11_count_143 (j_goto (tgt := 148) dX11_count_144 (by decide) (j_sub [0, 2] rfl (JX11_count_148 ih _ _ _ _ _ h)))))) (fun _ _ h => h.elim)))) (fun _ _ h => h.elim))) (fun _ _ h => h.elim)))))))))))))
def VX11_count_190 (d : Nat) (c164 : Nat → Int → Int → MS → Prop) (Q : Out → MS → Prop) (x0 : Nat) (x3 : Int) (t0 : Int) (t1 : Int) (S : MS) : Prop :=
  c164 x0 (t1 + t0) (x3 + 1) S
theorem JX11_count_190 {d : Nat} {c164 : Nat → Int → Int → MS → Prop} {S0 : MS} {Q : Out → MS → Prop} (hc164 : ∀ (x0 : Nat) (x2 : Int) (x3 : Int) (S : MS), c164 x0 x2 x3 S → Jw FinM RX11 cX11_count 4 (some .int) [] yX11_count (d + 1) S0 S 164 [(0, vA x0), (2, vI x2), (3, vI x3)] [] Q) (x0 : Nat) (x3 : Int) (t0 : Int) (t1 : Int) (S : MS) (h : VX11_count_190 d c164 Q x0 x3 t0 t1 S) : Jw FinM RX11 cX11_count 4 (some .int) [] yX11_count (d + 1) S0 S 190 [(0, vA x0), (3, vI x3)] [vI t0, vI t1] Q :=
  j_iadd dX11_count_190 (j_istore_n (lv2 := [(2, vI (t1 + t0)), (0, vA x0), (3, vI x3)]) dX11_count_191 (by decide) rfl (j_iinc 2 (lv2 := [(3, vI (x3 + 1)), (2, vI (t1 + t0)), (0, vA x0)]) dX11_count_192 rfl (by decide) rfl (j_goto (tgt := 164) dX11_count_195 (by decide) (j_sub [2, 1, 0] rfl (hc164 _ _ _ _ h)))))
def VX11_count_164 (d : Nat) (Q : Out → MS → Prop) : Nat → Nat → Int → Int → MS → Prop
  | 0, _, _, _, _ => False
  | n + 1, x0, x2, x3, S => S.K x0 = 11 ∧ Mw hX11_notes yX11_notes d [vA x0] S (oI (fun r1 S1 => (R32 x3 ∧ R32 r1) ∧ ((r1 ≤ x3) → Q (.inl (some (vI x2))) S1) ∧ (¬ (r1 ≤ x3) → S1.K x0 = 11 ∧ Mw hX11_trueRow yX11_trueRow d [vA x0] S1 (oI (fun r2 S2 => S2.K x0 = 11 ∧ Mw hX11_fitsNote yX11_fitsNote d [vA x0, vI r2, vI x3] S2 (oI (fun r3 S3 => R32 r3 ∧ ((r3 = 0) → VX11_count_190 d (VX11_count_164 d Q n) Q x0 x3 1 x2 S3) ∧ (¬ (r3 = 0) → VX11_count_190 d (VX11_count_164 d Q n) Q x0 x3 0 x2 S3))))))))
theorem JX11_count_164 {d : Nat} {S0 : MS} {Q : Out → MS → Prop} : ∀ (n : Nat) (x0 : Nat) (x2 : Int) (x3 : Int) (S : MS), VX11_count_164 d Q n x0 x2 x3 S → Jw FinM RX11 cX11_count 4 (some .int) [] yX11_count (d + 1) S0 S 164 [(0, vA x0), (2, vI x2), (3, vI x3)] [] Q := by
  intro n
  induction n with
  | zero => intro x0 x2 x3 S h; exact h.elim
  | succ n ih =>
    intro x0 x2 x3 S h
    exact j_iload_n 2 dX11_count_164 rfl (j_aload_n 0 dX11_count_165 rfl (j_callV (rest := [vI x3]) 11 [] k_RX11_91 ⟨w_7_202, p_4_8⟩ ⟨_, _, rfl⟩ (by decide) rfl rfl (Nat.le_of_ble_eq_true rfl) dX11_count_166 h (kI (fun r1 S1 h => j_icmp_ge (tgt := 198) dX11_count_169 (by decide) h (fun h => j_iload_n 1 dX11_count_198 rfl (j_iret rfl dX11_count_199 h)) (fun h => j_iload_n 1 dX11_count_172 rfl (j_aload_n 0 dX11_count_173 rfl (j_aload_n 0 dX11_count_174 rfl (j_callV (rest := [vA x0, vI x2]) 11 [] k_RX11_403 ⟨w_9_110, p_7_11⟩ ⟨_, _, rfl⟩ (by decide) rfl rfl (Nat.le_of_ble_eq_true rfl) dX11_count_175 h (kI (fun r2 S2 h => j_iload_n 2 dX11_count_178 rfl (j_callV (rest := [vI x2]) 11 [vI r2, vI x3] k_RX11_238 ⟨w_8_58, p_5_8⟩ ⟨_, _, rfl⟩ (by decide) rfl rfl (Nat.le_of_ble_eq_true rfl) dX11_count_179 h (kI (fun r3 S3 h => j_if_eq (tgt := 189) dX11_count_182 (by decide) h (fun h => j_iconst dX11_count_189 (j_sub [0, 2] rfl (JX11_count_190 ih _ _ _ _ _ h))) (fun h => j_iconst dX11_count_185 (j_goto (tgt := 190) dX11_count_186 (by decide) (j_sub [0, 2] rfl (JX11_count_190 ih _ _ _ _ _ h)))))) (fun _ _ h => h.elim)))) (fun _ _ h => h.elim))))))) (fun _ _ h => h.elim)))
def VX11_count_0 (d : Nat) (Q : Out → MS → Prop) (x0 : Nat) (x1 : Int) (S : MS) : Prop :=
  S.K x0 = 11 ∧ (R32 x1 ∧ ((x1 = 0 → (S.setI x0 0 0).K x0 = 11 ∧ Mw hX11_things yX11_things d [vA x0] (S.setI x0 0 0) (oI (fun r1 S1 => Q (.inl (some (vI r1))) S1))) ∧ ((x1 = 1 → (S.setI x0 0 0).K x0 = 11 ∧ ∃ b2, (S.setI x0 0 0).R x0 1 = some b2 ∧ (((S.setI x0 0 0).K b2 = 13 ∧ 0 ≤ (1 : Int) ∧ (1 : Int) < (S.setI x0 0 0).N b2) ∧ (Q (.inl (some (vI ((S.setI x0 0 0).I b2 ((1 : Int)).toNat)))) (S.setI x0 0 0)))) ∧ ((x1 = 2 → (S.setI x0 0 0).K x0 = 11 ∧ Mw hX11_notes yX11_notes d [vA x0] (S.setI x0 0 0) (oI (fun r3 S3 => Q (.inl (some (vI r3))) S3))) ∧ ((x1 = 3 → (S.setI x0 0 0).K x0 = 11 ∧ ∃ b4, (S.setI x0 0 0).R x0 1 = some b4 ∧ (((S.setI x0 0 0).K b4 = 13 ∧ 0 ≤ (3 : Int) ∧ (3 : Int) < (S.setI x0 0 0).N b4) ∧ (Q (.inl (some (vI ((S.setI x0 0 0).I b4 ((3 : Int)).toNat)))) (S.setI x0 0 0)))) ∧ ((x1 = 4 → ∃ m, VX11_count_78 d Q m x0 0 0 (S.setI x0 0 0)) ∧ ((x1 = 5 → (S.setI x0 0 0).K x0 = 11 ∧ Mw hX11_leaves yX11_leaves d [vA x0] (S.setI x0 0 0) (oV (fun S5 => ∃ m, VX11_count_114 d Q m x0 0 0 S5))) ∧ ((x1 = 6 → (S.setI x0 0 0).K x0 = 11 ∧ Mw hX11_fills yX11_fills d [vA x0] (S.setI x0 0 0) (oV (fun S6 => ∃ m, VX11_count_164 d Q m x0 0 0 S6))) ∧ ((x1 < 0 ∨ 6 < x1) → Q (.inl (some (vI ((-1))))) (S.setI x0 0 0))))))))))
theorem JX11_count_0 {d : Nat} {S0 : MS} {Q : Out → MS → Prop} (x0 : Nat) (x1 : Int) (S : MS) (h : VX11_count_0 d Q x0 x1 S) : Jw FinM RX11 cX11_count 4 (some .int) [] yX11_count (d + 1) S0 S 0 [(0, vA x0), (1, vI x1)] [] Q :=
  j_aload_n 0 dX11_count_0 rfl (j_iconst dX11_count_1 (j_putI 11 0 f_RX11_3 dX11_count_2 h (fun h => j_iconst dX11_count_5 (j_istore_n (lv2 := [(2, vI 0), (0, vA x0), (1, vI x1)]) dX11_count_6 (by decide) rfl (j_iload_n 2 dX11_count_7 rfl ((have hr := h.1; have h := h.2; j_tswC (cv := 0) (tgt := 52) dX11_count_8 hr (by decide) (by decide) rfl (by decide) h (fun h => j_aload_n 1 dX11_count_52 rfl (j_callV (rest := []) 11 [] k_RX11_83 ⟨w_7_218, p_4_10⟩ ⟨_, _, rfl⟩ (by decide) rfl rfl (Nat.le_of_ble_eq_true rfl) dX11_count_53 h (kI (fun r1 S1 h => j_iret rfl dX11_count_56 h)) (fun _ _ h => h.elim))) (fun hne0 h => j_tswC (cv := 1) (tgt := 57) dX11_count_8 hr (by decide) (by decide) rfl (by decide) h (fun h => j_aload_n 1 dX11_count_57 rfl (j_getR 11 1 f_RX11_13 dX11_count_58 h (fun b2 h => j_iconst dX11_count_61 (j_iald dX11_count_62 h (fun h => j_iret rfl dX11_count_63 h))))) (fun hne1 h => j_tswC (cv := 2) (tgt := 64) dX11_count_8 hr (by decide) (by decide) rfl (by decide) h (fun h => j_aload_n 1 dX11_count_64 rfl (j_callV (rest := []) 11 [] k_RX11_91 ⟨w_7_202, p_4_8⟩ ⟨_, _, rfl⟩ (by decide) rfl rfl (Nat.le_of_ble_eq_true rfl) dX11_count_65 h (kI (fun r3 S3 h => j_iret rfl dX11_count_68 h)) (fun _ _ h => h.elim))) (fun hne2 h => j_tswC (cv := 3) (tgt := 69) dX11_count_8 hr (by decide) (by decide) rfl (by decide) h (fun h => j_aload_n 1 dX11_count_69 rfl (j_getR 11 1 f_RX11_13 dX11_count_70 h (fun b4 h => j_iconst dX11_count_73 (j_iald dX11_count_74 h (fun h => j_iret rfl dX11_count_75 h))))) (fun hne3 h => j_tswC (cv := 4) (tgt := 76) dX11_count_8 hr (by decide) (by decide) rfl (by decide) h (fun h => j_iconst dX11_count_76 (j_istore_n (lv2 := [(3, vI 0), (2, vI 0), (0, vA x0), (1, vI x1)]) dX11_count_77 (by decide) rfl (Exists.elim h (fun m h => j_sub [2, 1, 0] rfl (JX11_count_78 m _ _ _ _ h))))) (fun hne4 h => j_tswC (cv := 5) (tgt := 108) dX11_count_8 hr (by decide) (by decide) rfl (by decide) h (fun h => j_aload_n 1 dX11_count_108 rfl (j_callV (rest := []) 11 [] k_RX11_253 ⟨w_8_42, p_5_4⟩ ⟨_, _, rfl⟩ (by decide) rfl rfl (Nat.le_of_ble_eq_true rfl) dX11_count_109 h (kV (fun S5 h => j_iconst dX11_count_112 (j_istore_n (lv2 := [(3, vI 0), (2, vI 0), (0, vA x0), (1, vI x1)]) dX11_count_113 (by decide) rfl (Exists.elim h (fun m h => j_sub [2, 1, 0] rfl (JX11_count_114 m _ _ _ _ h)))))) (fun _ _ h => h.elim))) (fun hne5 h => j_tswC (cv := 6) (tgt := 158) dX11_count_8 hr (by decide) (by decide) rfl (by decide) h (fun h => j_aload_n 1 dX11_count_158 rfl (j_callV (rest := []) 11 [] k_RX11_241 ⟨w_8_46, p_5_5⟩ ⟨_, _, rfl⟩ (by decide) rfl rfl (Nat.le_of_ble_eq_true rfl) dX11_count_159 h (kV (fun S6 h => j_iconst dX11_count_162 (j_istore_n (lv2 := [(3, vI 0), (2, vI 0), (0, vA x0), (1, vI x1)]) dX11_count_163 (by decide) rfl (Exists.elim h (fun m h => j_sub [2, 1, 0] rfl (JX11_count_164 m _ _ _ _ h)))))) (fun _ _ h => h.elim))) (fun hne6 h => j_tswD (tgt := 200) dX11_count_8 hr (tsw_6 hne0 hne1 hne2 hne3 hne4 hne5 hne6) (by decide) h (fun h => j_iconst dX11_count_200 (j_iret rfl dX11_count_201 h))))))))))))))))
theorem MX11_count {d : Nat} {x0 : Nat} {x1 : Int} {S : MS} {Q : Out → MS → Prop} (h : VX11_count_0 d Q x0 x1 S) : Mw hX11_count yX11_count (d + 1) [vA x0, vI x1] S Q := Mw.ofJ (by decide) (Nat.le_of_ble_eq_true rfl) (JX11_count_0 _ _ S h)
