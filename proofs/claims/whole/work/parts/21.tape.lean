theorem dX8_init_0 : decode cX8_init 0 = .ok (.aload_n 0, 1) := by decide +kernel
theorem dX8_init_1 : decode cX8_init 1 = .ok (.invokespecial 3, 3) := by decide +kernel
theorem dX8_init_4 : decode cX8_init 4 = .ok (.aload_n 0, 1) := by decide +kernel
theorem dX8_init_5 : decode cX8_init 5 = .ok (.sipush 400, 3) := by decide +kernel
theorem dX8_init_8 : decode cX8_init 8 = .ok (.newarray .int, 2) := by decide +kernel
theorem dX8_init_10 : decode cX8_init 10 = .ok (.putfield 9, 3) := by decide +kernel
theorem dX8_init_13 : decode cX8_init 13 = .ok (.aload_n 0, 1) := by decide +kernel
theorem dX8_init_14 : decode cX8_init 14 = .ok (.iconst 0, 1) := by decide +kernel
theorem dX8_init_15 : decode cX8_init 15 = .ok (.putfield 15, 3) := by decide +kernel
theorem dX8_init_18 : decode cX8_init 18 = .ok (.return_, 1) := by decide +kernel
def VX8_init_0 (d : Nat) (Q : Out → MS → Prop) (x0 : Nat) (S : MS) : Prop :=
  (0 ≤ (400 : Int) ∧ (400 : Int) < 1000000) ∧ ((S.mk 13 ((400 : Int)).toNat).K x0 = 8 ∧ (((S.mk 13 ((400 : Int)).toNat).setR x0 0 (some S.nx)).K x0 = 8 ∧ (Q (.inl none) (((S.mk 13 ((400 : Int)).toNat).setR x0 0 (some S.nx)).setI x0 1 0))))
theorem JX8_init_0 {d : Nat} {S0 : MS} {Q : Out → MS → Prop} (x0 : Nat) (S : MS) (h : VX8_init_0 d Q x0 S) : Jw FinM RX8 cX8_init 1 none [] yX8_init (d + 1) S0 S 0 [(0, vA x0)] [] Q :=
  j_aload_n 0 dX8_init_0 rfl (j_objInit w_1_49 dX8_init_1 (Nat.le_of_ble_eq_true rfl) w_1_36 w_objInit (j_aload_n 0 dX8_init_4 rfl (j_sipush dX8_init_5 rfl (j_newb 13 dX8_init_8 rfl (by decide) w_1_58 h (fun h => j_putFR 8 0 f_RX8_9 (by intro q h; cases h; rfl) rfl (fun b => ⟨rfl, rfl⟩) dX8_init_10 h (fun h => j_aload_n 0 dX8_init_13 rfl (j_iconst dX8_init_14 (j_putI 8 1 f_RX8_15 dX8_init_15 h (fun h => j_vret rfl dX8_init_18 h)))))))))
theorem MX8_init {d : Nat} {x0 : Nat} {S : MS} {Q : Out → MS → Prop} (h : VX8_init_0 d Q x0 S) : Mw hX8_init yX8_init (d + 1) [vA x0] S Q := Mw.ofJ (by decide) (Nat.le_of_ble_eq_true rfl) (JX8_init_0 _ S h)
theorem dX8_put_0 : decode cX8_put 0 = .ok (.bipush 24, 2) := by decide +kernel
theorem dX8_put_2 : decode cX8_put 2 = .ok (.istore_n 2, 1) := by decide +kernel
theorem dX8_put_3 : decode cX8_put 3 = .ok (.iload_n 2, 1) := by decide +kernel
theorem dX8_put_4 : decode cX8_put 4 = .ok (.ifCond .lt 47, 3) := by decide +kernel
theorem dX8_put_7 : decode cX8_put 7 = .ok (.aload_n 0, 1) := by decide +kernel
theorem dX8_put_8 : decode cX8_put 8 = .ok (.getfield 15, 3) := by decide +kernel
theorem dX8_put_11 : decode cX8_put 11 = .ok (.aload_n 0, 1) := by decide +kernel
theorem dX8_put_12 : decode cX8_put 12 = .ok (.getfield 9, 3) := by decide +kernel
theorem dX8_put_15 : decode cX8_put 15 = .ok (.arraylength, 1) := by decide +kernel
theorem dX8_put_16 : decode cX8_put 16 = .ok (.if_icmp .ge 35, 3) := by decide +kernel
theorem dX8_put_19 : decode cX8_put 19 = .ok (.aload_n 0, 1) := by decide +kernel
theorem dX8_put_20 : decode cX8_put 20 = .ok (.getfield 9, 3) := by decide +kernel
theorem dX8_put_23 : decode cX8_put 23 = .ok (.aload_n 0, 1) := by decide +kernel
theorem dX8_put_24 : decode cX8_put 24 = .ok (.getfield 15, 3) := by decide +kernel
theorem dX8_put_27 : decode cX8_put 27 = .ok (.iload_n 1, 1) := by decide +kernel
theorem dX8_put_28 : decode cX8_put 28 = .ok (.iload_n 2, 1) := by decide +kernel
theorem dX8_put_29 : decode cX8_put 29 = .ok (.iushr, 1) := by decide +kernel
theorem dX8_put_30 : decode cX8_put 30 = .ok (.sipush 255, 3) := by decide +kernel
theorem dX8_put_33 : decode cX8_put 33 = .ok (.iand, 1) := by decide +kernel
theorem dX8_put_34 : decode cX8_put 34 = .ok (.iastore, 1) := by decide +kernel
theorem dX8_put_35 : decode cX8_put 35 = .ok (.aload_n 0, 1) := by decide +kernel
theorem dX8_put_36 : decode cX8_put 36 = .ok (.dup, 1) := by decide +kernel
theorem dX8_put_37 : decode cX8_put 37 = .ok (.getfield 15, 3) := by decide +kernel
theorem dX8_put_40 : decode cX8_put 40 = .ok (.iconst 1, 1) := by decide +kernel
theorem dX8_put_41 : decode cX8_put 41 = .ok (.iadd, 1) := by decide +kernel
theorem dX8_put_42 : decode cX8_put 42 = .ok (.putfield 15, 3) := by decide +kernel
theorem dX8_put_45 : decode cX8_put 45 = .ok (.iinc 2 (-8), 3) := by decide +kernel
theorem dX8_put_48 : decode cX8_put 48 = .ok (.goto (-45), 3) := by decide +kernel
theorem dX8_put_51 : decode cX8_put 51 = .ok (.return_, 1) := by decide +kernel
def VX8_put_3 (d : Nat) (Q : Out → MS → Prop) : Nat → Nat → Int → Int → MS → Prop
  | 0, _, _, _, _ => False
  | n + 1, x0, x1, x2, S => R32 x2 ∧ ((x2 < 0) → Q (.inl none) S) ∧ (¬ (x2 < 0) → S.K x0 = 8 ∧ (S.K x0 = 8 ∧ ∃ b1, S.R x0 0 = some b1 ∧ ((12 ≤ S.K b1 ∧ S.K b1 < 21) ∧ ((R32 (S.I x0 1) ∧ R32 ((S.N b1 : Int))) ∧ ((((S.N b1 : Int)) ≤ (S.I x0 1)) → Q (.inl none) S) ∧ (¬ (((S.N b1 : Int)) ≤ (S.I x0 1)) → S.K x0 = 8 ∧ ∃ b2, S.R x0 0 = some b2 ∧ (S.K x0 = 8 ∧ ((S.K b2 = 13 ∧ 0 ≤ (S.I x0 1) ∧ (S.I x0 1) < S.N b2) ∧ ((S.setI b2 ((S.I x0 1)).toNat (iAnd (iUshr x1 x2) 255)).K x0 = 8 ∧ ((S.setI b2 ((S.I x0 1)).toNat (iAnd (iUshr x1 x2) 255)).K x0 = 8 ∧ (∀ S3 : MS, S3 = (S.setI b2 ((S.I x0 1)).toNat (iAnd (iUshr x1 x2) 255)).setI x0 1 (((S.setI b2 ((S.I x0 1)).toNat (iAnd (iUshr x1 x2) 255)).I x0 1) + 1) → (VX8_put_3 d Q n) x0 x1 (x2 + (-8)) S3))))))))))
theorem JX8_put_3 {d : Nat} {S0 : MS} {Q : Out → MS → Prop} : ∀ (n : Nat) (x0 : Nat) (x1 : Int) (x2 : Int) (S : MS), VX8_put_3 d Q n x0 x1 x2 S → Jw FinM RX8 cX8_put 3 none [] yX8_put (d + 1) S0 S 3 [(0, vA x0), (1, vI x1), (2, vI x2)] [] Q := by
  intro n
  induction n with
  | zero => intro x0 x1 x2 S h; exact h.elim
  | succ n ih =>
    intro x0 x1 x2 S h
    exact j_iload_n 2 dX8_put_3 rfl (j_if_lt (tgt := 51) dX8_put_4 (by decide) h (fun h => j_vret rfl dX8_put_51 h) (fun h => j_aload_n 0 dX8_put_7 rfl (j_getI 8 1 f_RX8_15 dX8_put_8 h (fun h => j_aload_n 0 dX8_put_11 rfl (j_getR 8 0 f_RX8_9 dX8_put_12 h (fun b1 h => j_alen dX8_put_15 h (fun h => j_icmp_ge (tgt := 51) dX8_put_16 (by decide) h (fun h => j_vret rfl dX8_put_51 h) (fun h => j_aload_n 0 dX8_put_19 rfl (j_getR 8 0 f_RX8_9 dX8_put_20 h (fun b2 h => j_aload_n 0 dX8_put_23 rfl (j_getI 8 1 f_RX8_15 dX8_put_24 h (fun h => j_iload_n 1 dX8_put_27 rfl (j_iload_n 2 dX8_put_28 rfl (j_iushr dX8_put_29 (j_sipush dX8_put_30 rfl (j_iand dX8_put_33 (j_iast dX8_put_34 h (fun h => j_aload_n 0 dX8_put_35 rfl (j_dup rfl dX8_put_36 (j_getI 8 1 f_RX8_15 dX8_put_37 h (fun h => j_iconst dX8_put_40 (j_iadd dX8_put_41 (j_putI 8 1 f_RX8_15 dX8_put_42 h (fun h => j_bind h (fun S3 h => j_iinc 2 (lv2 := [(2, vI (x2 + (-8))), (0, vA x0), (1, vI x1)]) dX8_put_45 rfl (by decide) rfl (j_goto (tgt := 3) dX8_put_48 (by decide) (j_sub [1, 2, 0] rfl (ih _ _ _ _ h))))))))))))))))))))))))))))
def VX8_put_0 (d : Nat) (Q : Out → MS → Prop) (x0 : Nat) (x1 : Int) (S : MS) : Prop :=
  ∃ m, VX8_put_3 d Q m x0 x1 24 S
theorem JX8_put_0 {d : Nat} {S0 : MS} {Q : Out → MS → Prop} (x0 : Nat) (x1 : Int) (S : MS) (h : VX8_put_0 d Q x0 x1 S) : Jw FinM RX8 cX8_put 3 none [] yX8_put (d + 1) S0 S 0 [(0, vA x0), (1, vI x1)] [] Q :=
  j_bipush dX8_put_0 rfl (j_istore_n (lv2 := [(2, vI 24), (0, vA x0), (1, vI x1)]) dX8_put_2 (by decide) rfl (Exists.elim h (fun m h => j_sub [1, 2, 0] rfl (JX8_put_3 m _ _ _ _ h))))
theorem MX8_put {d : Nat} {x0 : Nat} {x1 : Int} {S : MS} {Q : Out → MS → Prop} (h : VX8_put_0 d Q x0 x1 S) : Mw hX8_put yX8_put (d + 1) [vA x0, vI x1] S Q := Mw.ofJ (by decide) (Nat.le_of_ble_eq_true rfl) (JX8_put_0 _ _ S h)
theorem dX8_useUp_0 : decode cX8_useUp 0 = .ok (.aload_n 0, 1) := by decide +kernel
theorem dX8_useUp_1 : decode cX8_useUp 1 = .ok (.getfield 15, 3) := by decide +kernel
theorem dX8_useUp_4 : decode cX8_useUp 4 = .ok (.istore_n 1, 1) := by decide +kernel
theorem dX8_useUp_5 : decode cX8_useUp 5 = .ok (.aload_n 0, 1) := by decide +kernel
theorem dX8_useUp_6 : decode cX8_useUp 6 = .ok (.iconst 0, 1) := by decide +kernel
theorem dX8_useUp_7 : decode cX8_useUp 7 = .ok (.putfield 15, 3) := by decide +kernel
theorem dX8_useUp_10 : decode cX8_useUp 10 = .ok (.iload_n 1, 1) := by decide +kernel
theorem dX8_useUp_11 : decode cX8_useUp 11 = .ok (.ireturn, 1) := by decide +kernel
def VX8_useUp_0 (d : Nat) (Q : Out → MS → Prop) (x0 : Nat) (S : MS) : Prop :=
  S.K x0 = 8 ∧ (S.K x0 = 8 ∧ (Q (.inl (some (vI (S.I x0 1)))) (S.setI x0 1 0)))
theorem JX8_useUp_0 {d : Nat} {S0 : MS} {Q : Out → MS → Prop} (x0 : Nat) (S : MS) (h : VX8_useUp_0 d Q x0 S) : Jw FinM RX8 cX8_useUp 2 (some .int) [] yX8_useUp (d + 1) S0 S 0 [(0, vA x0)] [] Q :=
  j_aload_n 0 dX8_useUp_0 rfl (j_getI 8 1 f_RX8_15 dX8_useUp_1 h (fun h => j_istore_n (lv2 := [(1, vI (S.I x0 1)), (0, vA x0)]) dX8_useUp_4 (by decide) rfl (j_aload_n 1 dX8_useUp_5 rfl (j_iconst dX8_useUp_6 (j_putI 8 1 f_RX8_15 dX8_useUp_7 h (fun h => j_iload_n 0 dX8_useUp_10 rfl (j_iret rfl dX8_useUp_11 h)))))))
theorem MX8_useUp {d : Nat} {x0 : Nat} {S : MS} {Q : Out → MS → Prop} (h : VX8_useUp_0 d Q x0 S) : Mw hX8_useUp yX8_useUp (d + 1) [vA x0] S Q := Mw.ofJ (by decide) (Nat.le_of_ble_eq_true rfl) (JX8_useUp_0 _ S h)
theorem dX8_at_0 : decode cX8_at 0 = .ok (.iload_n 1, 1) := by decide +kernel
theorem dX8_at_1 : decode cX8_at 1 = .ok (.ifCond .lt 21, 3) := by decide +kernel
theorem dX8_at_4 : decode cX8_at 4 = .ok (.iload_n 1, 1) := by decide +kernel
theorem dX8_at_5 : decode cX8_at 5 = .ok (.aload_n 0, 1) := by decide +kernel
theorem dX8_at_6 : decode cX8_at 6 = .ok (.getfield 9, 3) := by decide +kernel
theorem dX8_at_9 : decode cX8_at 9 = .ok (.arraylength, 1) := by decide +kernel
theorem dX8_at_10 : decode cX8_at 10 = .ok (.if_icmp .ge 12, 3) := by decide +kernel
theorem dX8_at_13 : decode cX8_at 13 = .ok (.aload_n 0, 1) := by decide +kernel
theorem dX8_at_14 : decode cX8_at 14 = .ok (.getfield 9, 3) := by decide +kernel
theorem dX8_at_17 : decode cX8_at 17 = .ok (.iload_n 1, 1) := by decide +kernel
theorem dX8_at_18 : decode cX8_at 18 = .ok (.iaload, 1) := by decide +kernel
theorem dX8_at_19 : decode cX8_at 19 = .ok (.goto 4, 3) := by decide +kernel
theorem dX8_at_22 : decode cX8_at 22 = .ok (.iconst 0, 1) := by decide +kernel
theorem dX8_at_23 : decode cX8_at 23 = .ok (.ireturn, 1) := by decide +kernel
def VX8_at_0 (d : Nat) (Q : Out → MS → Prop) (x0 : Nat) (x1 : Int) (S : MS) : Prop :=
  R32 x1 ∧ ((x1 < 0) → Q (.inl (some (vI 0))) S) ∧ (¬ (x1 < 0) → S.K x0 = 8 ∧ ∃ b1, S.R x0 0 = some b1 ∧ ((12 ≤ S.K b1 ∧ S.K b1 < 21) ∧ ((R32 x1 ∧ R32 ((S.N b1 : Int))) ∧ ((((S.N b1 : Int)) ≤ x1) → Q (.inl (some (vI 0))) S) ∧ (¬ (((S.N b1 : Int)) ≤ x1) → S.K x0 = 8 ∧ ∃ b2, S.R x0 0 = some b2 ∧ ((S.K b2 = 13 ∧ 0 ≤ x1 ∧ x1 < S.N b2) ∧ (Q (.inl (some (vI (S.I b2 (x1).toNat)))) S))))))
theorem JX8_at_0 {d : Nat} {S0 : MS} {Q : Out → MS → Prop} (x0 : Nat) (x1 : Int) (S : MS) (h : VX8_at_0 d Q x0 x1 S) : Jw FinM RX8 cX8_at 2 (some .int) [] yX8_at (d + 1) S0 S 0 [(0, vA x0), (1, vI x1)] [] Q :=
  j_iload_n 1 dX8_at_0 rfl (j_if_lt (tgt := 22) dX8_at_1 (by decide) h (fun h => j_iconst dX8_at_22 (j_iret rfl dX8_at_23 h)) (fun h => j_iload_n 1 dX8_at_4 rfl (j_aload_n 0 dX8_at_5 rfl (j_getR 8 0 f_RX8_9 dX8_at_6 h (fun b1 h => j_alen dX8_at_9 h (fun h => j_icmp_ge (tgt := 22) dX8_at_10 (by decide) h (fun h => j_iconst dX8_at_22 (j_iret rfl dX8_at_23 h)) (fun h => j_aload_n 0 dX8_at_13 rfl (j_getR 8 0 f_RX8_9 dX8_at_14 h (fun b2 h => j_iload_n 1 dX8_at_17 rfl (j_iald dX8_at_18 h (fun h => j_goto (tgt := 23) dX8_at_19 (by decide) (j_iret rfl dX8_at_23 h))))))))))))
theorem MX8_at {d : Nat} {x0 : Nat} {x1 : Int} {S : MS} {Q : Out → MS → Prop} (h : VX8_at_0 d Q x0 x1 S) : Mw hX8_at yX8_at (d + 1) [vA x0, vI x1] S Q := Mw.ofJ (by decide) (Nat.le_of_ble_eq_true rfl) (JX8_at_0 _ _ S h)
theorem dX8_packedRow_0 : decode cX8_packedRow 0 = .ok (.iload_n 1, 1) := by decide +kernel
theorem dX8_packedRow_1 : decode cX8_packedRow 1 = .ok (.iload_n 2, 1) := by decide +kernel
theorem dX8_packedRow_2 : decode cX8_packedRow 2 = .ok (.if_icmp .eq 5, 3) := by decide +kernel
theorem dX8_packedRow_5 : decode cX8_packedRow 5 = .ok (.iconst (-1), 1) := by decide +kernel
theorem dX8_packedRow_6 : decode cX8_packedRow 6 = .ok (.ireturn, 1) := by decide +kernel
theorem dX8_packedRow_7 : decode cX8_packedRow 7 = .ok (.iconst 0, 1) := by decide +kernel
theorem dX8_packedRow_8 : decode cX8_packedRow 8 = .ok (.istore_n 3, 1) := by decide +kernel
theorem dX8_packedRow_9 : decode cX8_packedRow 9 = .ok (.iconst 0, 1) := by decide +kernel
theorem dX8_packedRow_10 : decode cX8_packedRow 10 = .ok (.istore 4, 2) := by decide +kernel
theorem dX8_packedRow_12 : decode cX8_packedRow 12 = .ok (.iconst 0, 1) := by decide +kernel
theorem dX8_packedRow_13 : decode cX8_packedRow 13 = .ok (.istore 5, 2) := by decide +kernel
theorem dX8_packedRow_15 : decode cX8_packedRow 15 = .ok (.iload 5, 2) := by decide +kernel
theorem dX8_packedRow_17 : decode cX8_packedRow 17 = .ok (.iload_n 2, 1) := by decide +kernel
theorem dX8_packedRow_18 : decode cX8_packedRow 18 = .ok (.if_icmp .ge 62, 3) := by decide +kernel
theorem dX8_packedRow_21 : decode cX8_packedRow 21 = .ok (.aload_n 0, 1) := by decide +kernel
theorem dX8_packedRow_22 : decode cX8_packedRow 22 = .ok (.iload 5, 2) := by decide +kernel
theorem dX8_packedRow_24 : decode cX8_packedRow 24 = .ok (.invokevirtual 19, 3) := by decide +kernel
theorem dX8_packedRow_27 : decode cX8_packedRow 27 = .ok (.bipush 48, 2) := by decide +kernel
theorem dX8_packedRow_29 : decode cX8_packedRow 29 = .ok (.isub, 1) := by decide +kernel
theorem dX8_packedRow_30 : decode cX8_packedRow 30 = .ok (.istore 6, 2) := by decide +kernel
theorem dX8_packedRow_32 : decode cX8_packedRow 32 = .ok (.iload 6, 2) := by decide +kernel
theorem dX8_packedRow_34 : decode cX8_packedRow 34 = .ok (.ifCond .lt 19, 3) := by decide +kernel
theorem dX8_packedRow_37 : decode cX8_packedRow 37 = .ok (.iload 6, 2) := by decide +kernel
theorem dX8_packedRow_39 : decode cX8_packedRow 39 = .ok (.iload_n 2, 1) := by decide +kernel
theorem dX8_packedRow_40 : decode cX8_packedRow 40 = .ok (.if_icmp .ge 13, 3) := by decide +kernel
theorem dX8_packedRow_43 : decode cX8_packedRow 43 = .ok (.iload 4, 2) := by decide +kernel
theorem dX8_packedRow_45 : decode cX8_packedRow 45 = .ok (.iload 6, 2) := by decide +kernel
theorem dX8_packedRow_47 : decode cX8_packedRow 47 = .ok (.invokestatic 23, 3) := by decide +kernel
theorem dX8_packedRow_50 : decode cX8_packedRow 50 = .ok (.ifCond .eq 5, 3) := by decide +kernel
theorem dX8_packedRow_53 : decode cX8_packedRow 53 = .ok (.iconst (-1), 1) := by decide +kernel
theorem dX8_packedRow_54 : decode cX8_packedRow 54 = .ok (.ireturn, 1) := by decide +kernel
theorem dX8_packedRow_55 : decode cX8_packedRow 55 = .ok (.iload 4, 2) := by decide +kernel
theorem dX8_packedRow_57 : decode cX8_packedRow 57 = .ok (.iconst 1, 1) := by decide +kernel
theorem dX8_packedRow_58 : decode cX8_packedRow 58 = .ok (.iload 6, 2) := by decide +kernel
theorem dX8_packedRow_60 : decode cX8_packedRow 60 = .ok (.ishl, 1) := by decide +kernel
theorem dX8_packedRow_61 : decode cX8_packedRow 61 = .ok (.ior, 1) := by decide +kernel
theorem dX8_packedRow_62 : decode cX8_packedRow 62 = .ok (.istore 4, 2) := by decide +kernel
theorem dX8_packedRow_64 : decode cX8_packedRow 64 = .ok (.iload_n 3, 1) := by decide +kernel
theorem dX8_packedRow_65 : decode cX8_packedRow 65 = .ok (.iload 6, 2) := by decide +kernel
theorem dX8_packedRow_67 : decode cX8_packedRow 67 = .ok (.iconst 3, 1) := by decide +kernel
theorem dX8_packedRow_68 : decode cX8_packedRow 68 = .ok (.iload 5, 2) := by decide +kernel
theorem dX8_packedRow_70 : decode cX8_packedRow 70 = .ok (.imul, 1) := by decide +kernel
theorem dX8_packedRow_71 : decode cX8_packedRow 71 = .ok (.ishl, 1) := by decide +kernel
theorem dX8_packedRow_72 : decode cX8_packedRow 72 = .ok (.ior, 1) := by decide +kernel
theorem dX8_packedRow_73 : decode cX8_packedRow 73 = .ok (.istore_n 3, 1) := by decide +kernel
theorem dX8_packedRow_74 : decode cX8_packedRow 74 = .ok (.iinc 5 1, 3) := by decide +kernel
theorem dX8_packedRow_77 : decode cX8_packedRow 77 = .ok (.goto (-62), 3) := by decide +kernel
theorem dX8_packedRow_80 : decode cX8_packedRow 80 = .ok (.iload_n 3, 1) := by decide +kernel
theorem dX8_packedRow_81 : decode cX8_packedRow 81 = .ok (.ireturn, 1) := by decide +kernel
def VX8_packedRow_15 (d : Nat) (Q : Out → MS → Prop) : Nat → Nat → Int → Int → Int → Int → MS → Prop
  | 0, _, _, _, _, _, _ => False
  | n + 1, x0, x2, x3, x4, x5, S => (R32 x5 ∧ R32 x2) ∧ ((x2 ≤ x5) → Q (.inl (some (vI x3))) S) ∧ (¬ (x2 ≤ x5) → S.K x0 = 8 ∧ Mw hX8_at yX8_at d [vA x0, vI x5] S (oI (fun r1 S1 => R32 (r1 - 48) ∧ (((r1 - 48) < 0) → Q (.inl (some (vI ((-1))))) S1) ∧ (¬ ((r1 - 48) < 0) → (R32 (r1 - 48) ∧ R32 x2) ∧ ((x2 ≤ (r1 - 48)) → Q (.inl (some (vI ((-1))))) S1) ∧ (¬ (x2 ≤ (r1 - 48)) → Mw hX10_holds yX10_holds d [vI x4, vI (r1 - 48)] S1 (oI (fun r2 S2 => R32 r2 ∧ ((r2 = 0) → (VX8_packedRow_15 d Q n) x0 x2 (iOr x3 (iShl (r1 - 48) (3 * x5))) (iOr x4 (iShl 1 (r1 - 48))) (x5 + 1) S2) ∧ (¬ (r2 = 0) → Q (.inl (some (vI ((-1))))) S2))))))))
theorem JX8_packedRow_15 {d : Nat} {S0 : MS} {Q : Out → MS → Prop} : ∀ (n : Nat) (x0 : Nat) (x2 : Int) (x3 : Int) (x4 : Int) (x5 : Int) (S : MS), VX8_packedRow_15 d Q n x0 x2 x3 x4 x5 S → Jw FinM RX8 cX8_packedRow 7 (some .int) [] yX8_packedRow (d + 1) S0 S 15 [(0, vA x0), (2, vI x2), (3, vI x3), (4, vI x4), (5, vI x5)] [] Q := by
  intro n
  induction n with
  | zero => intro x0 x2 x3 x4 x5 S h; exact h.elim
  | succ n ih =>
    intro x0 x2 x3 x4 x5 S h
    exact j_iload 4 dX8_packedRow_15 rfl (j_iload_n 1 dX8_packedRow_17 rfl (j_icmp_ge (tgt := 80) dX8_packedRow_18 (by decide) h (fun h => j_iload_n 2 dX8_packedRow_80 rfl (j_iret rfl dX8_packedRow_81 h)) (fun h => j_aload_n 0 dX8_packedRow_21 rfl (j_iload 4 dX8_packedRow_22 rfl (j_callV (rest := []) 8 [vI x5] k_RX8_19 ⟨w_4_48, w_4_49⟩ ⟨_, _, rfl⟩ (by decide) rfl rfl (Nat.le_of_ble_eq_true rfl) dX8_packedRow_24 h (kI (fun r1 S1 h => j_bipush dX8_packedRow_27 rfl (j_isub dX8_packedRow_29 (j_istore (lv2 := [(6, vI (r1 - 48)), (0, vA x0), (2, vI x2), (3, vI x3), (4, vI x4), (5, vI x5)]) dX8_packedRow_30 (by decide) rfl (j_iload 0 dX8_packedRow_32 rfl (j_if_lt (tgt := 53) dX8_packedRow_34 (by decide) h (fun h => j_iconst dX8_packedRow_53 (j_iret rfl dX8_packedRow_54 h)) (fun h => j_iload 0 dX8_packedRow_37 rfl (j_iload_n 2 dX8_packedRow_39 rfl (j_icmp_ge (tgt := 53) dX8_packedRow_40 (by decide) h (fun h => j_iconst dX8_packedRow_53 (j_iret rfl dX8_packedRow_54 h)) (fun h => j_iload 4 dX8_packedRow_43 rfl (j_iload 0 dX8_packedRow_45 rfl (j_callSN (rest := []) [vI x4, vI (r1 - 48)] k_RX8_23 w_2_192 rfl rfl (Nat.le_of_ble_eq_true rfl) dX8_packedRow_47 h (kI (fun r2 S2 h => j_if_eq (tgt := 55) dX8_packedRow_50 (by decide) h (fun h => j_iload 4 dX8_packedRow_55 rfl (j_iconst dX8_packedRow_57 (j_iload 0 dX8_packedRow_58 rfl (j_ishl dX8_packedRow_60 (j_ior dX8_packedRow_61 (j_istore (lv2 := [(4, vI (iOr x4 (iShl 1 (r1 - 48)))), (6, vI (r1 - 48)), (0, vA x0), (2, vI x2), (3, vI x3), (5, vI x5)]) dX8_packedRow_62 (by decide) rfl (j_iload_n 4 dX8_packedRow_64 rfl (j_iload 1 dX8_packedRow_65 rfl (j_iconst dX8_packedRow_67 (j_iload 5 dX8_packedRow_68 rfl (j_imul dX8_packedRow_70 (j_ishl dX8_packedRow_71 (j_ior dX8_packedRow_72 (j_istore_n (lv2 := [(3, vI (iOr x3 (iShl (r1 - 48) (3 * x5)))), (4, vI (iOr x4 (iShl 1 (r1 - 48)))), (6, vI (r1 - 48)), (0, vA x0), (2, vI x2), (5, vI x5)]) dX8_packedRow_73 (by decide) rfl (j_iinc 5 (lv2 := [(5, vI (x5 + 1)), (3, vI (iOr x3 (iShl (r1 - 48) (3 * x5)))), (4, vI (iOr x4 (iShl 1 (r1 - 48)))), (6, vI (r1 - 48)), (0, vA x0), (2, vI x2)]) dX8_packedRow_74 rfl (by decide) rfl (j_goto (tgt := 15) dX8_packedRow_77 (by decide) (j_sub [4, 5, 1, 2, 0] rfl (ih _ _ _ _ _ _ h)))))))))))))))))) (fun h => j_iconst dX8_packedRow_53 (j_iret rfl dX8_packedRow_54 h)))))))))))))))) (fun _ _ h => h.elim))))))
def VX8_packedRow_0 (d : Nat) (Q : Out → MS → Prop) (x0 : Nat) (x1 : Int) (x2 : Int) (S : MS) : Prop :=
  (R32 x1 ∧ R32 x2) ∧ ((x1 = x2) → ∃ m, VX8_packedRow_15 d Q m x0 x2 0 0 0 S) ∧ (¬ (x1 = x2) → Q (.inl (some (vI ((-1))))) S)
theorem JX8_packedRow_0 {d : Nat} {S0 : MS} {Q : Out → MS → Prop} (x0 : Nat) (x1 : Int) (x2 : Int) (S : MS) (h : VX8_packedRow_0 d Q x0 x1 x2 S) : Jw FinM RX8 cX8_packedRow 7 (some .int) [] yX8_packedRow (d + 1) S0 S 0 [(0, vA x0), (1, vI x1), (2, vI x2)] [] Q :=
  j_iload_n 1 dX8_packedRow_0 rfl (j_iload_n 2 dX8_packedRow_1 rfl (j_icmp_eq (tgt := 7) dX8_packedRow_2 (by decide) h (fun h => j_iconst dX8_packedRow_7 (j_istore_n (lv2 := [(3, vI 0), (0, vA x0), (1, vI x1), (2, vI x2)]) dX8_packedRow_8 (by decide) rfl (j_iconst dX8_packedRow_9 (j_istore (lv2 := [(4, vI 0), (3, vI 0), (0, vA x0), (1, vI x1), (2, vI x2)]) dX8_packedRow_10 (by decide) rfl (j_iconst dX8_packedRow_12 (j_istore (lv2 := [(5, vI 0), (4, vI 0), (3, vI 0), (0, vA x0), (1, vI x1), (2, vI x2)]) dX8_packedRow_13 (by decide) rfl (Exists.elim h (fun m h => j_sub [3, 5, 2, 1, 0] rfl (JX8_packedRow_15 m _ _ _ _ _ _ h))))))))) (fun h => j_iconst dX8_packedRow_5 (j_iret rfl dX8_packedRow_6 h))))
theorem MX8_packedRow {d : Nat} {x0 : Nat} {x1 : Int} {x2 : Int} {S : MS} {Q : Out → MS → Prop} (h : VX8_packedRow_0 d Q x0 x1 x2 S) : Mw hX8_packedRow yX8_packedRow (d + 1) [vA x0, vI x1, vI x2] S Q := Mw.ofJ (by decide) (Nat.le_of_ble_eq_true rfl) (JX8_packedRow_0 _ _ _ S h)
