theorem dX4_init_0 : decode cX4_init 0 = .ok (.aload_n 0, 1) := by decide +kernel
theorem dX4_init_1 : decode cX4_init 1 = .ok (.invokespecial 3, 3) := by decide +kernel
theorem dX4_init_4 : decode cX4_init 4 = .ok (.aload_n 0, 1) := by decide +kernel
theorem dX4_init_5 : decode cX4_init 5 = .ok (.new 9, 3) := by decide +kernel
theorem dX4_init_8 : decode cX4_init 8 = .ok (.dup, 1) := by decide +kernel
theorem dX4_init_9 : decode cX4_init 9 = .ok (.invokespecial 11, 3) := by decide +kernel
theorem dX4_init_12 : decode cX4_init 12 = .ok (.putfield 12, 3) := by decide +kernel
theorem dX4_init_15 : decode cX4_init 15 = .ok (.aload_n 0, 1) := by decide +kernel
theorem dX4_init_16 : decode cX4_init 16 = .ok (.new 18, 3) := by decide +kernel
theorem dX4_init_19 : decode cX4_init 19 = .ok (.dup, 1) := by decide +kernel
theorem dX4_init_20 : decode cX4_init 20 = .ok (.invokespecial 20, 3) := by decide +kernel
theorem dX4_init_23 : decode cX4_init 23 = .ok (.putfield 21, 3) := by decide +kernel
theorem dX4_init_26 : decode cX4_init 26 = .ok (.aload_n 0, 1) := by decide +kernel
theorem dX4_init_27 : decode cX4_init 27 = .ok (.iconst 0, 1) := by decide +kernel
theorem dX4_init_28 : decode cX4_init 28 = .ok (.putfield 25, 3) := by decide +kernel
theorem dX4_init_31 : decode cX4_init 31 = .ok (.aload_n 0, 1) := by decide +kernel
theorem dX4_init_32 : decode cX4_init 32 = .ok (.iconst 0, 1) := by decide +kernel
theorem dX4_init_33 : decode cX4_init 33 = .ok (.putfield 29, 3) := by decide +kernel
theorem dX4_init_36 : decode cX4_init 36 = .ok (.aload_n 0, 1) := by decide +kernel
theorem dX4_init_37 : decode cX4_init 37 = .ok (.iconst 0, 1) := by decide +kernel
theorem dX4_init_38 : decode cX4_init 38 = .ok (.putfield 32, 3) := by decide +kernel
theorem dX4_init_41 : decode cX4_init 41 = .ok (.aload_n 0, 1) := by decide +kernel
theorem dX4_init_42 : decode cX4_init 42 = .ok (.iconst (-1), 1) := by decide +kernel
theorem dX4_init_43 : decode cX4_init 43 = .ok (.putfield 35, 3) := by decide +kernel
theorem dX4_init_46 : decode cX4_init 46 = .ok (.return_, 1) := by decide +kernel
def VX4_init_0 (d : Nat) (Q : Out → MS → Prop) (x0 : Nat) (S : MS) : Prop :=
  Mw hX8_init yX8_init d [vA S.nx] (S.mk 8 2) (oV (fun S1 => S1.K x0 = 4 ∧ (Mw hX7_init yX7_init d [vA ((S1.setR x0 0 (some S.nx)).nx)] ((S1.setR x0 0 (some S.nx)).mk 7 11) (oV (fun S2 => S2.K x0 = 4 ∧ ((S2.setR x0 1 (some ((S1.setR x0 0 (some S.nx)).nx))).K x0 = 4 ∧ (((S2.setR x0 1 (some ((S1.setR x0 0 (some S.nx)).nx))).setI x0 2 0).K x0 = 4 ∧ ((((S2.setR x0 1 (some ((S1.setR x0 0 (some S.nx)).nx))).setI x0 2 0).setI x0 3 0).K x0 = 4 ∧ (∀ S3 : MS, S3 = (((S2.setR x0 1 (some ((S1.setR x0 0 (some S.nx)).nx))).setI x0 2 0).setI x0 3 0).setI x0 4 0 → S3.K x0 = 4 ∧ (Q (.inl none) (S3.setI x0 5 ((-1)))))))))))))
theorem JX4_init_0 {d : Nat} {S0 : MS} {Q : Out → MS → Prop} (x0 : Nat) (S : MS) (h : VX4_init_0 d Q x0 S) : Jw FinM RX4 cX4_init 1 none [] yX4_init (d + 1) S0 S 0 [(0, vA x0)] [] Q :=
  j_aload_n 0 dX4_init_0 rfl (j_objInit w_1_43 dX4_init_1 (Nat.le_of_ble_eq_true rfl) w_1_36 w_objInit (j_aload_n 0 dX4_init_4 rfl (j_new 8 n_RX4_9 dX4_init_5 (j_dup rfl dX4_init_8 (j_callIN (rest := [vA S.nx, vA x0]) [] k_RX4_11 rfl w_1_47 rfl rfl (Nat.le_of_ble_eq_true rfl) dX4_init_9 h (kV (fun S1 h => j_putFR 4 0 f_RX4_12 (by intro q h; cases h; rfl) rfl (fun b => ⟨rfl, rfl⟩) dX4_init_12 h (fun h => j_aload_n 0 dX4_init_15 rfl (j_new 7 n_RX4_18 dX4_init_16 (j_dup rfl dX4_init_19 (j_callIN (rest := [vA ((S1.setR x0 0 (some S.nx)).nx), vA x0]) [] k_RX4_20 rfl w_1_62 rfl rfl (Nat.le_of_ble_eq_true rfl) dX4_init_20 h (kV (fun S2 h => j_putFR 4 1 f_RX4_21 (by intro q h; cases h; rfl) rfl (fun b => ⟨rfl, rfl⟩) dX4_init_23 h (fun h => j_aload_n 0 dX4_init_26 rfl (j_iconst dX4_init_27 (j_putI 4 2 f_RX4_25 dX4_init_28 h (fun h => j_aload_n 0 dX4_init_31 rfl (j_iconst dX4_init_32 (j_putI 4 3 f_RX4_29 dX4_init_33 h (fun h => j_aload_n 0 dX4_init_36 rfl (j_iconst dX4_init_37 (j_putI 4 4 f_RX4_32 dX4_init_38 h (fun h => j_bind h (fun S3 h => j_aload_n 0 dX4_init_41 rfl (j_iconst dX4_init_42 (j_putI 4 5 f_RX4_35 dX4_init_43 h (fun h => j_vret rfl dX4_init_46 h)))))))))))))))))))))))))))
theorem MX4_init {d : Nat} {x0 : Nat} {S : MS} {Q : Out → MS → Prop} (h : VX4_init_0 d Q x0 S) : Mw hX4_init yX4_init (d + 1) [vA x0] S Q := Mw.ofJ (by decide) (Nat.le_of_ble_eq_true rfl) (JX4_init_0 _ S h)
theorem dX4_read_0 : decode cX4_read 0 = .ok (.aload_n 0, 1) := by decide +kernel
theorem dX4_read_1 : decode cX4_read 1 = .ok (.iload_n 1, 1) := by decide +kernel
theorem dX4_read_2 : decode cX4_read 2 = .ok (.putfield 25, 3) := by decide +kernel
theorem dX4_read_5 : decode cX4_read 5 = .ok (.aload_n 0, 1) := by decide +kernel
theorem dX4_read_6 : decode cX4_read 6 = .ok (.iconst 0, 1) := by decide +kernel
theorem dX4_read_7 : decode cX4_read 7 = .ok (.putfield 29, 3) := by decide +kernel
theorem dX4_read_10 : decode cX4_read 10 = .ok (.aload_n 0, 1) := by decide +kernel
theorem dX4_read_11 : decode cX4_read 11 = .ok (.iconst (-1), 1) := by decide +kernel
theorem dX4_read_12 : decode cX4_read 12 = .ok (.putfield 35, 3) := by decide +kernel
theorem dX4_read_15 : decode cX4_read 15 = .ok (.aload_n 0, 1) := by decide +kernel
theorem dX4_read_16 : decode cX4_read 16 = .ok (.invokevirtual 38, 3) := by decide +kernel
theorem dX4_read_19 : decode cX4_read 19 = .ok (.aload_n 0, 1) := by decide +kernel
theorem dX4_read_20 : decode cX4_read 20 = .ok (.getfield 29, 3) := by decide +kernel
theorem dX4_read_23 : decode cX4_read 23 = .ok (.aload_n 0, 1) := by decide +kernel
theorem dX4_read_24 : decode cX4_read 24 = .ok (.getfield 25, 3) := by decide +kernel
theorem dX4_read_27 : decode cX4_read 27 = .ok (.if_icmp .ge 7, 3) := by decide +kernel
theorem dX4_read_30 : decode cX4_read 30 = .ok (.iconst 1, 1) := by decide +kernel
theorem dX4_read_31 : decode cX4_read 31 = .ok (.goto 4, 3) := by decide +kernel
theorem dX4_read_34 : decode cX4_read 34 = .ok (.iconst 0, 1) := by decide +kernel
theorem dX4_read_35 : decode cX4_read 35 = .ok (.istore_n 2, 1) := by decide +kernel
theorem dX4_read_36 : decode cX4_read 36 = .ok (.iconst 0, 1) := by decide +kernel
theorem dX4_read_37 : decode cX4_read 37 = .ok (.istore_n 3, 1) := by decide +kernel
theorem dX4_read_38 : decode cX4_read 38 = .ok (.iload_n 2, 1) := by decide +kernel
theorem dX4_read_39 : decode cX4_read 39 = .ok (.ifCond .eq 36, 3) := by decide +kernel
theorem dX4_read_42 : decode cX4_read 42 = .ok (.iload_n 3, 1) := by decide +kernel
theorem dX4_read_43 : decode cX4_read 43 = .ok (.bipush 12, 2) := by decide +kernel
theorem dX4_read_45 : decode cX4_read 45 = .ok (.if_icmp .gt 30, 3) := by decide +kernel
theorem dX4_read_48 : decode cX4_read 48 = .ok (.aload_n 0, 1) := by decide +kernel
theorem dX4_read_49 : decode cX4_read 49 = .ok (.iload_n 3, 1) := by decide +kernel
theorem dX4_read_50 : decode cX4_read 50 = .ok (.invokevirtual 41, 3) := by decide +kernel
theorem dX4_read_53 : decode cX4_read 53 = .ok (.ifCond .eq 14, 3) := by decide +kernel
theorem dX4_read_56 : decode cX4_read 56 = .ok (.aload_n 0, 1) := by decide +kernel
theorem dX4_read_57 : decode cX4_read 57 = .ok (.invokevirtual 45, 3) := by decide +kernel
theorem dX4_read_60 : decode cX4_read 60 = .ok (.ifCond .eq 7, 3) := by decide +kernel
theorem dX4_read_63 : decode cX4_read 63 = .ok (.iconst 1, 1) := by decide +kernel
theorem dX4_read_64 : decode cX4_read 64 = .ok (.goto 4, 3) := by decide +kernel
theorem dX4_read_67 : decode cX4_read 67 = .ok (.iconst 0, 1) := by decide +kernel
theorem dX4_read_68 : decode cX4_read 68 = .ok (.istore_n 2, 1) := by decide +kernel
theorem dX4_read_69 : decode cX4_read 69 = .ok (.iinc 3 1, 3) := by decide +kernel
theorem dX4_read_72 : decode cX4_read 72 = .ok (.goto (-34), 3) := by decide +kernel
theorem dX4_read_75 : decode cX4_read 75 = .ok (.aload_n 0, 1) := by decide +kernel
theorem dX4_read_76 : decode cX4_read 76 = .ok (.getfield 35, 3) := by decide +kernel
theorem dX4_read_79 : decode cX4_read 79 = .ok (.ireturn, 1) := by decide +kernel
def VX4_read_68 (d : Nat) (c38 : Nat → Int → Int → MS → Prop) (Q : Out → MS → Prop) (x0 : Nat) (x3 : Int) (t0 : Int) (S : MS) : Prop :=
  c38 x0 t0 (x3 + 1) S
theorem JX4_read_68 {d : Nat} {c38 : Nat → Int → Int → MS → Prop} {S0 : MS} {Q : Out → MS → Prop} (hc38 : ∀ (x0 : Nat) (x2 : Int) (x3 : Int) (S : MS), c38 x0 x2 x3 S → Jw FinM RX4 cX4_read 4 (some .int) [] yX4_read (d + 1) S0 S 38 [(0, vA x0), (2, vI x2), (3, vI x3)] [] Q) (x0 : Nat) (x3 : Int) (t0 : Int) (S : MS) (h : VX4_read_68 d c38 Q x0 x3 t0 S) : Jw FinM RX4 cX4_read 4 (some .int) [] yX4_read (d + 1) S0 S 68 [(0, vA x0), (3, vI x3)] [vI t0] Q :=
  j_istore_n (lv2 := [(2, vI t0), (0, vA x0), (3, vI x3)]) dX4_read_68 (by decide) rfl (j_iinc 2 (lv2 := [(3, vI (x3 + 1)), (2, vI t0), (0, vA x0)]) dX4_read_69 rfl (by decide) rfl (j_goto (tgt := 38) dX4_read_72 (by decide) (j_sub [2, 1, 0] rfl (hc38 _ _ _ _ h))))
def VX4_read_67 (d : Nat) (c38 : Nat → Int → Int → MS → Prop) (Q : Out → MS → Prop) (x0 : Nat) (x3 : Int) (S : MS) : Prop :=
  VX4_read_68 d c38 Q x0 x3 0 S
theorem JX4_read_67 {d : Nat} {c38 : Nat → Int → Int → MS → Prop} {S0 : MS} {Q : Out → MS → Prop} (hc38 : ∀ (x0 : Nat) (x2 : Int) (x3 : Int) (S : MS), c38 x0 x2 x3 S → Jw FinM RX4 cX4_read 4 (some .int) [] yX4_read (d + 1) S0 S 38 [(0, vA x0), (2, vI x2), (3, vI x3)] [] Q) (x0 : Nat) (x3 : Int) (S : MS) (h : VX4_read_67 d c38 Q x0 x3 S) : Jw FinM RX4 cX4_read 4 (some .int) [] yX4_read (d + 1) S0 S 67 [(0, vA x0), (3, vI x3)] [] Q :=
  j_iconst dX4_read_67 (JX4_read_68 hc38 _ _ _ _ h)
def VX4_read_75 (d : Nat) (Q : Out → MS → Prop) (x0 : Nat) (S : MS) : Prop :=
  S.K x0 = 4 ∧ (Q (.inl (some (vI (S.I x0 5)))) S)
theorem JX4_read_75 {d : Nat} {S0 : MS} {Q : Out → MS → Prop} (x0 : Nat) (S : MS) (h : VX4_read_75 d Q x0 S) : Jw FinM RX4 cX4_read 4 (some .int) [] yX4_read (d + 1) S0 S 75 [(0, vA x0)] [] Q :=
  j_aload_n 0 dX4_read_75 rfl (j_getI 4 5 f_RX4_35 dX4_read_76 h (fun h => j_iret rfl dX4_read_79 h))
def VX4_read_38 (d : Nat) (Q : Out → MS → Prop) : Nat → Nat → Int → Int → MS → Prop
  | 0, _, _, _, _ => False
  | n + 1, x0, x2, x3, S => R32 x2 ∧ ((x2 = 0) → VX4_read_75 d Q x0 S) ∧ (¬ (x2 = 0) → (R32 x3 ∧ R32 (12 : Int)) ∧ (((12 : Int) < x3) → VX4_read_75 d Q x0 S) ∧ (¬ ((12 : Int) < x3) → S.K x0 = 4 ∧ Mw hX4_readLine yX4_readLine d [vA x0, vI x3] S (oI (fun r1 S1 => R32 r1 ∧ ((r1 = 0) → VX4_read_67 d (VX4_read_38 d Q n) Q x0 x3 S1) ∧ (¬ (r1 = 0) → S1.K x0 = 4 ∧ Mw hX4_goesOn yX4_goesOn d [vA x0] S1 (oI (fun r2 S2 => R32 r2 ∧ ((r2 = 0) → VX4_read_67 d (VX4_read_38 d Q n) Q x0 x3 S2) ∧ (¬ (r2 = 0) → VX4_read_68 d (VX4_read_38 d Q n) Q x0 x3 1 S2))))))))
theorem JX4_read_38 {d : Nat} {S0 : MS} {Q : Out → MS → Prop} : ∀ (n : Nat) (x0 : Nat) (x2 : Int) (x3 : Int) (S : MS), VX4_read_38 d Q n x0 x2 x3 S → Jw FinM RX4 cX4_read 4 (some .int) [] yX4_read (d + 1) S0 S 38 [(0, vA x0), (2, vI x2), (3, vI x3)] [] Q := by
  intro n
  induction n with
  | zero => intro x0 x2 x3 S h; exact h.elim
  | succ n ih =>
    intro x0 x2 x3 S h
    exact j_iload_n 1 dX4_read_38 rfl (j_if_eq (tgt := 75) dX4_read_39 (by decide) h (fun h => j_sub [0] rfl (JX4_read_75 _ _ h)) (fun h => j_iload_n 2 dX4_read_42 rfl (j_bipush dX4_read_43 rfl (j_icmp_gt (tgt := 75) dX4_read_45 (by decide) h (fun h => j_sub [0] rfl (JX4_read_75 _ _ h)) (fun h => j_aload_n 0 dX4_read_48 rfl (j_iload_n 2 dX4_read_49 rfl (j_callV (rest := []) 4 [vI x3] k_RX4_41 ⟨w_4_53, p_2_0⟩ ⟨_, _, rfl⟩ (by decide) rfl rfl (Nat.le_of_ble_eq_true rfl) dX4_read_50 h (kI (fun r1 S1 h => j_if_eq (tgt := 67) dX4_read_53 (by decide) h (fun h => j_sub [0, 2] rfl (JX4_read_67 ih _ _ _ h)) (fun h => j_aload_n 0 dX4_read_56 rfl (j_callV (rest := []) 4 [] k_RX4_45 ⟨w_4_170, p_2_10⟩ ⟨_, _, rfl⟩ (by decide) rfl rfl (Nat.le_of_ble_eq_true rfl) dX4_read_57 h (kI (fun r2 S2 h => j_if_eq (tgt := 67) dX4_read_60 (by decide) h (fun h => j_sub [0, 2] rfl (JX4_read_67 ih _ _ _ h)) (fun h => j_iconst dX4_read_63 (j_goto (tgt := 68) dX4_read_64 (by decide) (j_sub [0, 2] rfl (JX4_read_68 ih _ _ _ _ h)))))) (fun _ _ h => h.elim))))) (fun _ _ h => h.elim))))))))
def VX4_read_35 (d : Nat) (Q : Out → MS → Prop) (x0 : Nat) (t0 : Int) (S : MS) : Prop :=
  ∃ m, VX4_read_38 d Q m x0 t0 0 S
theorem JX4_read_35 {d : Nat} {S0 : MS} {Q : Out → MS → Prop} (x0 : Nat) (t0 : Int) (S : MS) (h : VX4_read_35 d Q x0 t0 S) : Jw FinM RX4 cX4_read 4 (some .int) [] yX4_read (d + 1) S0 S 35 [(0, vA x0)] [vI t0] Q :=
  j_istore_n (lv2 := [(2, vI t0), (0, vA x0)]) dX4_read_35 (by decide) rfl (j_iconst dX4_read_36 (j_istore_n (lv2 := [(3, vI 0), (2, vI t0), (0, vA x0)]) dX4_read_37 (by decide) rfl (Exists.elim h (fun m h => j_sub [2, 1, 0] rfl (JX4_read_38 m _ _ _ _ h)))))
def VX4_read_0 (d : Nat) (Q : Out → MS → Prop) (x0 : Nat) (x1 : Int) (S : MS) : Prop :=
  S.K x0 = 4 ∧ ((S.setI x0 2 x1).K x0 = 4 ∧ (((S.setI x0 2 x1).setI x0 3 0).K x0 = 4 ∧ ((((S.setI x0 2 x1).setI x0 3 0).setI x0 5 ((-1))).K x0 = 4 ∧ Mw hX4_skipBlanks yX4_skipBlanks d [vA x0] (((S.setI x0 2 x1).setI x0 3 0).setI x0 5 ((-1))) (oV (fun S1 => S1.K x0 = 4 ∧ (S1.K x0 = 4 ∧ ((R32 (S1.I x0 3) ∧ R32 (S1.I x0 2)) ∧ (((S1.I x0 2) ≤ (S1.I x0 3)) → VX4_read_35 d Q x0 0 S1) ∧ (¬ ((S1.I x0 2) ≤ (S1.I x0 3)) → VX4_read_35 d Q x0 1 S1))))))))
theorem JX4_read_0 {d : Nat} {S0 : MS} {Q : Out → MS → Prop} (x0 : Nat) (x1 : Int) (S : MS) (h : VX4_read_0 d Q x0 x1 S) : Jw FinM RX4 cX4_read 4 (some .int) [] yX4_read (d + 1) S0 S 0 [(0, vA x0), (1, vI x1)] [] Q :=
  j_aload_n 0 dX4_read_0 rfl (j_iload_n 1 dX4_read_1 rfl (j_putI 4 2 f_RX4_25 dX4_read_2 h (fun h => j_aload_n 0 dX4_read_5 rfl (j_iconst dX4_read_6 (j_putI 4 3 f_RX4_29 dX4_read_7 h (fun h => j_aload_n 0 dX4_read_10 rfl (j_iconst dX4_read_11 (j_putI 4 5 f_RX4_35 dX4_read_12 h (fun h => j_aload_n 0 dX4_read_15 rfl (j_callV (rest := []) 4 [] k_RX4_38 ⟨w_4_45, p_1_15⟩ ⟨_, _, rfl⟩ (by decide) rfl rfl (Nat.le_of_ble_eq_true rfl) dX4_read_16 h (kV (fun S1 h => j_aload_n 0 dX4_read_19 rfl (j_getI 4 3 f_RX4_29 dX4_read_20 h (fun h => j_aload_n 0 dX4_read_23 rfl (j_getI 4 2 f_RX4_25 dX4_read_24 h (fun h => j_icmp_ge (tgt := 34) dX4_read_27 (by decide) h (fun h => j_iconst dX4_read_34 (j_sub [0] rfl (JX4_read_35 _ _ _ h))) (fun h => j_iconst dX4_read_30 (j_goto (tgt := 35) dX4_read_31 (by decide) (j_sub [0] rfl (JX4_read_35 _ _ _ h)))))))))) (fun _ _ h => h.elim)))))))))))
theorem MX4_read {d : Nat} {x0 : Nat} {x1 : Int} {S : MS} {Q : Out → MS → Prop} (h : VX4_read_0 d Q x0 x1 S) : Mw hX4_read yX4_read (d + 1) [vA x0, vI x1] S Q := Mw.ofJ (by decide) (Nat.le_of_ble_eq_true rfl) (JX4_read_0 _ _ S h)
theorem dX4_goesOn_0 : decode cX4_goesOn 0 = .ok (.aload_n 0, 1) := by decide +kernel
theorem dX4_goesOn_1 : decode cX4_goesOn 1 = .ok (.invokevirtual 38, 3) := by decide +kernel
theorem dX4_goesOn_4 : decode cX4_goesOn 4 = .ok (.aload_n 0, 1) := by decide +kernel
theorem dX4_goesOn_5 : decode cX4_goesOn 5 = .ok (.getfield 29, 3) := by decide +kernel
theorem dX4_goesOn_8 : decode cX4_goesOn 8 = .ok (.aload_n 0, 1) := by decide +kernel
theorem dX4_goesOn_9 : decode cX4_goesOn 9 = .ok (.getfield 25, 3) := by decide +kernel
theorem dX4_goesOn_12 : decode cX4_goesOn 12 = .ok (.if_icmp .lt 5, 3) := by decide +kernel
theorem dX4_goesOn_15 : decode cX4_goesOn 15 = .ok (.iconst 0, 1) := by decide +kernel
theorem dX4_goesOn_16 : decode cX4_goesOn 16 = .ok (.ireturn, 1) := by decide +kernel
theorem dX4_goesOn_17 : decode cX4_goesOn 17 = .ok (.aload_n 0, 1) := by decide +kernel
theorem dX4_goesOn_18 : decode cX4_goesOn 18 = .ok (.getfield 12, 3) := by decide +kernel
theorem dX4_goesOn_21 : decode cX4_goesOn 21 = .ok (.aload_n 0, 1) := by decide +kernel
theorem dX4_goesOn_22 : decode cX4_goesOn 22 = .ok (.getfield 29, 3) := by decide +kernel
theorem dX4_goesOn_25 : decode cX4_goesOn 25 = .ok (.invokevirtual 49, 3) := by decide +kernel
theorem dX4_goesOn_28 : decode cX4_goesOn 28 = .ok (.bipush 59, 2) := by decide +kernel
theorem dX4_goesOn_30 : decode cX4_goesOn 30 = .ok (.if_icmp .eq 12, 3) := by decide +kernel
theorem dX4_goesOn_33 : decode cX4_goesOn 33 = .ok (.aload_n 0, 1) := by decide +kernel
theorem dX4_goesOn_34 : decode cX4_goesOn 34 = .ok (.aload_n 0, 1) := by decide +kernel
theorem dX4_goesOn_35 : decode cX4_goesOn 35 = .ok (.getfield 29, 3) := by decide +kernel
theorem dX4_goesOn_38 : decode cX4_goesOn 38 = .ok (.invokevirtual 52, 3) := by decide +kernel
theorem dX4_goesOn_41 : decode cX4_goesOn 41 = .ok (.ireturn, 1) := by decide +kernel
theorem dX4_goesOn_42 : decode cX4_goesOn 42 = .ok (.aload_n 0, 1) := by decide +kernel
theorem dX4_goesOn_43 : decode cX4_goesOn 43 = .ok (.dup, 1) := by decide +kernel
theorem dX4_goesOn_44 : decode cX4_goesOn 44 = .ok (.getfield 29, 3) := by decide +kernel
theorem dX4_goesOn_47 : decode cX4_goesOn 47 = .ok (.iconst 1, 1) := by decide +kernel
theorem dX4_goesOn_48 : decode cX4_goesOn 48 = .ok (.iadd, 1) := by decide +kernel
theorem dX4_goesOn_49 : decode cX4_goesOn 49 = .ok (.putfield 29, 3) := by decide +kernel
theorem dX4_goesOn_52 : decode cX4_goesOn 52 = .ok (.iconst 1, 1) := by decide +kernel
theorem dX4_goesOn_53 : decode cX4_goesOn 53 = .ok (.ireturn, 1) := by decide +kernel
def VX4_goesOn_0 (d : Nat) (Q : Out → MS → Prop) (x0 : Nat) (S : MS) : Prop :=
  S.K x0 = 4 ∧ Mw hX4_skipBlanks yX4_skipBlanks d [vA x0] S (oV (fun S1 => S1.K x0 = 4 ∧ (S1.K x0 = 4 ∧ ((R32 (S1.I x0 3) ∧ R32 (S1.I x0 2)) ∧ (((S1.I x0 3) < (S1.I x0 2)) → S1.K x0 = 4 ∧ ∃ b2, S1.R x0 0 = some b2 ∧ (S1.K x0 = 4 ∧ (S1.K b2 = 8 ∧ Mw hX8_at yX8_at d [vA b2, vI (S1.I x0 3)] S1 (oI (fun r3 S3 => (R32 r3 ∧ R32 (59 : Int)) ∧ ((r3 = (59 : Int)) → S3.K x0 = 4 ∧ (S3.K x0 = 4 ∧ (B01 1 ∧ Q (.inl (some (vI 1))) (S3.setI x0 3 ((S3.I x0 3) + 1))))) ∧ (¬ (r3 = (59 : Int)) → S3.K x0 = 4 ∧ (S3.K x0 = 4 ∧ Mw hX4_refuse yX4_refuse d [vA x0, vI (S3.I x0 3)] S3 (oI (fun r4 S4 => B01 r4 ∧ Q (.inl (some (vI r4))) S4))))))))) ∧ (¬ ((S1.I x0 3) < (S1.I x0 2)) → B01 0 ∧ Q (.inl (some (vI 0))) S1)))))
theorem JX4_goesOn_0 {d : Nat} {S0 : MS} {Q : Out → MS → Prop} (x0 : Nat) (S : MS) (h : VX4_goesOn_0 d Q x0 S) : Jw FinM RX4 cX4_goesOn 1 (some .boolean) [] yX4_goesOn (d + 1) S0 S 0 [(0, vA x0)] [] Q :=
  j_aload_n 0 dX4_goesOn_0 rfl (j_callV (rest := []) 4 [] k_RX4_38 ⟨w_4_45, p_1_15⟩ ⟨_, _, rfl⟩ (by decide) rfl rfl (Nat.le_of_ble_eq_true rfl) dX4_goesOn_1 h (kV (fun S1 h => j_aload_n 0 dX4_goesOn_4 rfl (j_getI 4 3 f_RX4_29 dX4_goesOn_5 h (fun h => j_aload_n 0 dX4_goesOn_8 rfl (j_getI 4 2 f_RX4_25 dX4_goesOn_9 h (fun h => j_icmp_lt (tgt := 17) dX4_goesOn_12 (by decide) h (fun h => j_aload_n 0 dX4_goesOn_17 rfl (j_getR 4 0 f_RX4_12 dX4_goesOn_18 h (fun b2 h => j_aload_n 0 dX4_goesOn_21 rfl (j_getI 4 3 f_RX4_29 dX4_goesOn_22 h (fun h => j_callV (rest := []) 8 [vI (S1.I x0 3)] k_RX4_49 ⟨w_4_48, w_4_49⟩ ⟨_, _, rfl⟩ (by decide) rfl rfl (Nat.le_of_ble_eq_true rfl) dX4_goesOn_25 h (kI (fun r3 S3 h => j_bipush dX4_goesOn_28 rfl (j_icmp_eq (tgt := 42) dX4_goesOn_30 (by decide) h (fun h => j_aload_n 0 dX4_goesOn_42 rfl (j_dup rfl dX4_goesOn_43 (j_getI 4 3 f_RX4_29 dX4_goesOn_44 h (fun h => j_iconst dX4_goesOn_47 (j_iadd dX4_goesOn_48 (j_putI 4 3 f_RX4_29 dX4_goesOn_49 h (fun h => j_iconst dX4_goesOn_52 (j_zret rfl dX4_goesOn_53 h)))))))) (fun h => j_aload_n 0 dX4_goesOn_33 rfl (j_aload_n 0 dX4_goesOn_34 rfl (j_getI 4 3 f_RX4_29 dX4_goesOn_35 h (fun h => j_callV (rest := []) 4 [vI (S3.I x0 3)] k_RX4_52 ⟨w_4_57, p_2_1⟩ ⟨_, _, rfl⟩ (by decide) rfl rfl (Nat.le_of_ble_eq_true rfl) dX4_goesOn_38 h (kI (fun r4 S4 h => j_zret rfl dX4_goesOn_41 h)) (fun _ _ h => h.elim)))))))) (fun _ _ h => h.elim)))))) (fun h => j_iconst dX4_goesOn_15 (j_zret rfl dX4_goesOn_16 h)))))))) (fun _ _ h => h.elim))
theorem MX4_goesOn {d : Nat} {x0 : Nat} {S : MS} {Q : Out → MS → Prop} (h : VX4_goesOn_0 d Q x0 S) : Mw hX4_goesOn yX4_goesOn (d + 1) [vA x0] S Q := Mw.ofJ (by decide) (Nat.le_of_ble_eq_true rfl) (JX4_goesOn_0 _ S h)
theorem dX4_readLine_0 : decode cX4_readLine 0 = .ok (.aload_n 0, 1) := by decide +kernel
theorem dX4_readLine_1 : decode cX4_readLine 1 = .ok (.invokevirtual 38, 3) := by decide +kernel
theorem dX4_readLine_4 : decode cX4_readLine 4 = .ok (.aload_n 0, 1) := by decide +kernel
theorem dX4_readLine_5 : decode cX4_readLine 5 = .ok (.getfield 29, 3) := by decide +kernel
theorem dX4_readLine_8 : decode cX4_readLine 8 = .ok (.istore_n 2, 1) := by decide +kernel
theorem dX4_readLine_9 : decode cX4_readLine 9 = .ok (.iload_n 1, 1) := by decide +kernel
theorem dX4_readLine_10 : decode cX4_readLine 10 = .ok (.bipush 12, 2) := by decide +kernel
theorem dX4_readLine_12 : decode cX4_readLine 12 = .ok (.if_icmp .lt 9, 3) := by decide +kernel
theorem dX4_readLine_15 : decode cX4_readLine 15 = .ok (.aload_n 0, 1) := by decide +kernel
theorem dX4_readLine_16 : decode cX4_readLine 16 = .ok (.iload_n 2, 1) := by decide +kernel
theorem dX4_readLine_17 : decode cX4_readLine 17 = .ok (.invokevirtual 52, 3) := by decide +kernel
theorem dX4_readLine_20 : decode cX4_readLine 20 = .ok (.ireturn, 1) := by decide +kernel
theorem dX4_readLine_21 : decode cX4_readLine 21 = .ok (.aload_n 0, 1) := by decide +kernel
theorem dX4_readLine_22 : decode cX4_readLine 22 = .ok (.ldc 55, 2) := by decide +kernel
theorem dX4_readLine_24 : decode cX4_readLine 24 = .ok (.invokevirtual 57, 3) := by decide +kernel
theorem dX4_readLine_27 : decode cX4_readLine 27 = .ok (.ifCond .eq 26, 3) := by decide +kernel
theorem dX4_readLine_30 : decode cX4_readLine 30 = .ok (.aload_n 0, 1) := by decide +kernel
theorem dX4_readLine_31 : decode cX4_readLine 31 = .ok (.getfield 21, 3) := by decide +kernel
theorem dX4_readLine_34 : decode cX4_readLine 34 = .ok (.getfield 61, 3) := by decide +kernel
theorem dX4_readLine_37 : decode cX4_readLine 37 = .ok (.ifCond .ne 10, 3) := by decide +kernel
theorem dX4_readLine_40 : decode cX4_readLine 40 = .ok (.aload_n 0, 1) := by decide +kernel
theorem dX4_readLine_41 : decode cX4_readLine 41 = .ok (.invokevirtual 64, 3) := by decide +kernel
theorem dX4_readLine_44 : decode cX4_readLine 44 = .ok (.goto 8, 3) := by decide +kernel
theorem dX4_readLine_47 : decode cX4_readLine 47 = .ok (.aload_n 0, 1) := by decide +kernel
theorem dX4_readLine_48 : decode cX4_readLine 48 = .ok (.iload_n 2, 1) := by decide +kernel
theorem dX4_readLine_49 : decode cX4_readLine 49 = .ok (.invokevirtual 52, 3) := by decide +kernel
theorem dX4_readLine_52 : decode cX4_readLine 52 = .ok (.ireturn, 1) := by decide +kernel
theorem dX4_readLine_53 : decode cX4_readLine 53 = .ok (.aload_n 0, 1) := by decide +kernel
theorem dX4_readLine_54 : decode cX4_readLine 54 = .ok (.ldc 67, 2) := by decide +kernel
theorem dX4_readLine_56 : decode cX4_readLine 56 = .ok (.invokevirtual 57, 3) := by decide +kernel
theorem dX4_readLine_59 : decode cX4_readLine 59 = .ok (.ifCond .eq 27, 3) := by decide +kernel
theorem dX4_readLine_62 : decode cX4_readLine 62 = .ok (.aload_n 0, 1) := by decide +kernel
theorem dX4_readLine_63 : decode cX4_readLine 63 = .ok (.getfield 21, 3) := by decide +kernel
theorem dX4_readLine_66 : decode cX4_readLine 66 = .ok (.getfield 69, 3) := by decide +kernel
theorem dX4_readLine_69 : decode cX4_readLine 69 = .ok (.iconst 4, 1) := by decide +kernel
theorem dX4_readLine_70 : decode cX4_readLine 70 = .ok (.if_icmp .ge 10, 3) := by decide +kernel
theorem dX4_readLine_73 : decode cX4_readLine 73 = .ok (.aload_n 0, 1) := by decide +kernel
theorem dX4_readLine_74 : decode cX4_readLine 74 = .ok (.invokevirtual 72, 3) := by decide +kernel
theorem dX4_readLine_77 : decode cX4_readLine 77 = .ok (.goto 8, 3) := by decide +kernel
theorem dX4_readLine_80 : decode cX4_readLine 80 = .ok (.aload_n 0, 1) := by decide +kernel
theorem dX4_readLine_81 : decode cX4_readLine 81 = .ok (.iload_n 2, 1) := by decide +kernel
theorem dX4_readLine_82 : decode cX4_readLine 82 = .ok (.invokevirtual 52, 3) := by decide +kernel
theorem dX4_readLine_85 : decode cX4_readLine 85 = .ok (.ireturn, 1) := by decide +kernel
theorem dX4_readLine_86 : decode cX4_readLine 86 = .ok (.aload_n 0, 1) := by decide +kernel
theorem dX4_readLine_87 : decode cX4_readLine 87 = .ok (.ldc 75, 2) := by decide +kernel
theorem dX4_readLine_89 : decode cX4_readLine 89 = .ok (.invokevirtual 57, 3) := by decide +kernel
theorem dX4_readLine_92 : decode cX4_readLine 92 = .ok (.ifCond .eq 8, 3) := by decide +kernel
theorem dX4_readLine_95 : decode cX4_readLine 95 = .ok (.aload_n 0, 1) := by decide +kernel
theorem dX4_readLine_96 : decode cX4_readLine 96 = .ok (.invokevirtual 77, 3) := by decide +kernel
theorem dX4_readLine_99 : decode cX4_readLine 99 = .ok (.ireturn, 1) := by decide +kernel
theorem dX4_readLine_100 : decode cX4_readLine 100 = .ok (.aload_n 0, 1) := by decide +kernel
theorem dX4_readLine_101 : decode cX4_readLine 101 = .ok (.ldc 80, 2) := by decide +kernel
theorem dX4_readLine_103 : decode cX4_readLine 103 = .ok (.invokevirtual 57, 3) := by decide +kernel
theorem dX4_readLine_106 : decode cX4_readLine 106 = .ok (.ifCond .eq 28, 3) := by decide +kernel
theorem dX4_readLine_109 : decode cX4_readLine 109 = .ok (.aload_n 0, 1) := by decide +kernel
theorem dX4_readLine_110 : decode cX4_readLine 110 = .ok (.getfield 21, 3) := by decide +kernel
theorem dX4_readLine_113 : decode cX4_readLine 113 = .ok (.getfield 61, 3) := by decide +kernel
theorem dX4_readLine_116 : decode cX4_readLine 116 = .ok (.bipush 16, 2) := by decide +kernel
theorem dX4_readLine_118 : decode cX4_readLine 118 = .ok (.if_icmp .ge 10, 3) := by decide +kernel
theorem dX4_readLine_121 : decode cX4_readLine 121 = .ok (.aload_n 0, 1) := by decide +kernel
theorem dX4_readLine_122 : decode cX4_readLine 122 = .ok (.invokevirtual 82, 3) := by decide +kernel
theorem dX4_readLine_125 : decode cX4_readLine 125 = .ok (.goto 8, 3) := by decide +kernel
theorem dX4_readLine_128 : decode cX4_readLine 128 = .ok (.aload_n 0, 1) := by decide +kernel
theorem dX4_readLine_129 : decode cX4_readLine 129 = .ok (.iload_n 2, 1) := by decide +kernel
theorem dX4_readLine_130 : decode cX4_readLine 130 = .ok (.invokevirtual 52, 3) := by decide +kernel
theorem dX4_readLine_133 : decode cX4_readLine 133 = .ok (.ireturn, 1) := by decide +kernel
theorem dX4_readLine_134 : decode cX4_readLine 134 = .ok (.aload_n 0, 1) := by decide +kernel
theorem dX4_readLine_135 : decode cX4_readLine 135 = .ok (.iload_n 2, 1) := by decide +kernel
theorem dX4_readLine_136 : decode cX4_readLine 136 = .ok (.invokevirtual 52, 3) := by decide +kernel
theorem dX4_readLine_139 : decode cX4_readLine 139 = .ok (.ireturn, 1) := by decide +kernel
def VX4_readLine_0 (d : Nat) (Q : Out → MS → Prop) (x0 : Nat) (x1 : Int) (S : MS) : Prop :=
  S.K x0 = 4 ∧ Mw hX4_skipBlanks yX4_skipBlanks d [vA x0] S (oV (fun S1 => S1.K x0 = 4 ∧ ((R32 x1 ∧ R32 (12 : Int)) ∧ ((x1 < (12 : Int)) → S1.K x0 = 4 ∧ Mw hX4_readWord yX4_readWord d [vA x0, vA (S1.T 0)] S1 (oI (fun r2 S2 => R32 r2 ∧ ((r2 = 0) → S2.K x0 = 4 ∧ Mw hX4_readWord yX4_readWord d [vA x0, vA (S2.T 1)] S2 (oI (fun r3 S3 => R32 r3 ∧ ((r3 = 0) → S3.K x0 = 4 ∧ Mw hX4_readWord yX4_readWord d [vA x0, vA (S3.T 2)] S3 (oI (fun r4 S4 => R32 r4 ∧ ((r4 = 0) → S4.K x0 = 4 ∧ Mw hX4_readWord yX4_readWord d [vA x0, vA (S4.T 3)] S4 (oI (fun r5 S5 => R32 r5 ∧ ((r5 = 0) → S5.K x0 = 4 ∧ Mw hX4_refuse yX4_refuse d [vA x0, vI (S1.I x0 3)] S5 (oI (fun r6 S6 => B01 r6 ∧ Q (.inl (some (vI r6))) S6))) ∧ (¬ (r5 = 0) → S5.K x0 = 4 ∧ ∃ b7, S5.R x0 1 = some b7 ∧ (S5.K b7 = 7 ∧ ((R32 (S5.I b7 9) ∧ R32 (16 : Int)) ∧ (((16 : Int) ≤ (S5.I b7 9)) → S5.K x0 = 4 ∧ Mw hX4_refuse yX4_refuse d [vA x0, vI (S1.I x0 3)] S5 (oI (fun r8 S8 => B01 r8 ∧ Q (.inl (some (vI r8))) S8))) ∧ (¬ ((16 : Int) ≤ (S5.I b7 9)) → S5.K x0 = 4 ∧ Mw hX4_readNote yX4_readNote d [vA x0] S5 (oI (fun r9 S9 => B01 r9 ∧ Q (.inl (some (vI r9))) S9))))))))) ∧ (¬ (r4 = 0) → S4.K x0 = 4 ∧ Mw hX4_readWeight yX4_readWeight d [vA x0] S4 (oI (fun r10 S10 => B01 r10 ∧ Q (.inl (some (vI r10))) S10)))))) ∧ (¬ (r3 = 0) → S3.K x0 = 4 ∧ ∃ b11, S3.R x0 1 = some b11 ∧ (S3.K b11 = 7 ∧ ((R32 (S3.I b11 8) ∧ R32 (4 : Int)) ∧ (((4 : Int) ≤ (S3.I b11 8)) → S3.K x0 = 4 ∧ Mw hX4_refuse yX4_refuse d [vA x0, vI (S1.I x0 3)] S3 (oI (fun r12 S12 => B01 r12 ∧ Q (.inl (some (vI r12))) S12))) ∧ (¬ ((4 : Int) ≤ (S3.I b11 8)) → S3.K x0 = 4 ∧ Mw hX4_readScale yX4_readScale d [vA x0] S3 (oI (fun r13 S13 => B01 r13 ∧ Q (.inl (some (vI r13))) S13))))))))) ∧ (¬ (r2 = 0) → S2.K x0 = 4 ∧ ∃ b14, S2.R x0 1 = some b14 ∧ (S2.K b14 = 7 ∧ (R32 (S2.I b14 9) ∧ (¬ ((S2.I b14 9) = 0) → S2.K x0 = 4 ∧ Mw hX4_refuse yX4_refuse d [vA x0, vI (S1.I x0 3)] S2 (oI (fun r15 S15 => B01 r15 ∧ Q (.inl (some (vI r15))) S15))) ∧ (((S2.I b14 9) = 0) → S2.K x0 = 4 ∧ Mw hX4_readThings yX4_readThings d [vA x0] S2 (oI (fun r16 S16 => B01 r16 ∧ Q (.inl (some (vI r16))) S16))))))))) ∧ (¬ (x1 < (12 : Int)) → S1.K x0 = 4 ∧ Mw hX4_refuse yX4_refuse d [vA x0, vI (S1.I x0 3)] S1 (oI (fun r17 S17 => B01 r17 ∧ Q (.inl (some (vI r17))) S17))))))
theorem JX4_readLine_0 {d : Nat} {S0 : MS} {Q : Out → MS → Prop} (x0 : Nat) (x1 : Int) (S : MS) (h : VX4_readLine_0 d Q x0 x1 S) : Jw FinM RX4 cX4_readLine 3 (some .boolean) [] yX4_readLine (d + 1) S0 S 0 [(0, vA x0), (1, vI x1)] [] Q :=
  j_aload_n 0 dX4_readLine_0 rfl (j_callV (rest := []) 4 [] k_RX4_38 ⟨w_4_45, p_1_15⟩ ⟨_, _, rfl⟩ (by decide) rfl rfl (Nat.le_of_ble_eq_true rfl) dX4_readLine_1 h (kV (fun S1 h => j_aload_n 0 dX4_readLine_4 rfl (j_getI 4 3 f_RX4_29 dX4_readLine_5 h (fun h => j_istore_n (lv2 := [(2, vI (S1.I x0 3)), (0, vA x0), (1, vI x1)]) dX4_readLine_8 (by decide) rfl (j_iload_n 2 dX4_readLine_9 rfl (j_bipush dX4_readLine_10 rfl (j_icmp_lt (tgt := 21) dX4_readLine_12 (by decide) h (fun h => j_aload_n 1 dX4_readLine_21 rfl (j_ldcS (List.mem_of_getElem? (i := 0) rfl) dX4_readLine_22 (j_callV (rest := []) 4 [vA (S1.T 0)] k_RX4_57 ⟨w_4_62, p_2_2⟩ ⟨_, _, rfl⟩ (by decide) rfl rfl (Nat.le_of_ble_eq_true rfl) dX4_readLine_24 h (kI (fun r2 S2 h => j_if_eq (tgt := 53) dX4_readLine_27 (by decide) h (fun h => j_aload_n 1 dX4_readLine_53 rfl (j_ldcS (List.mem_of_getElem? (i := 1) rfl) dX4_readLine_54 (j_callV (rest := []) 4 [vA (S2.T 1)] k_RX4_57 ⟨w_4_62, p_2_2⟩ ⟨_, _, rfl⟩ (by decide) rfl rfl (Nat.le_of_ble_eq_true rfl) dX4_readLine_56 h (kI (fun r3 S3 h => j_if_eq (tgt := 86) dX4_readLine_59 (by decide) h (fun h => j_aload_n 1 dX4_readLine_86 rfl (j_ldcS (List.mem_of_getElem? (i := 2) rfl) dX4_readLine_87 (j_callV (rest := []) 4 [vA (S3.T 2)] k_RX4_57 ⟨w_4_62, p_2_2⟩ ⟨_, _, rfl⟩ (by decide) rfl rfl (Nat.le_of_ble_eq_true rfl) dX4_readLine_89 h (kI (fun r4 S4 h => j_if_eq (tgt := 100) dX4_readLine_92 (by decide) h (fun h => j_aload_n 1 dX4_readLine_100 rfl (j_ldcS (List.mem_of_getElem? (i := 3) rfl) dX4_readLine_101 (j_callV (rest := []) 4 [vA (S4.T 3)] k_RX4_57 ⟨w_4_62, p_2_2⟩ ⟨_, _, rfl⟩ (by decide) rfl rfl (Nat.le_of_ble_eq_true rfl) dX4_readLine_103 h (kI (fun r5 S5 h => j_if_eq (tgt := 134) dX4_readLine_106 (by decide) h (fun h => j_aload_n 1 dX4_readLine_134 rfl (j_iload_n 0 dX4_readLine_135 rfl (j_callV (rest := []) 4 [vI (S1.I x0 3)] k_RX4_52 ⟨w_4_57, p_2_1⟩ ⟨_, _, rfl⟩ (by decide) rfl rfl (Nat.le_of_ble_eq_true rfl) dX4_readLine_136 h (kI (fun r6 S6 h => j_zret rfl dX4_readLine_139 h)) (fun _ _ h => h.elim)))) (fun h => j_aload_n 1 dX4_readLine_109 rfl (j_getR 4 1 f_RX4_21 dX4_readLine_110 h (fun b7 h => j_getI 7 9 f_RX4_61 dX4_readLine_113 h (fun h => j_bipush dX4_readLine_116 rfl (j_icmp_ge (tgt := 128) dX4_readLine_118 (by decide) h (fun h => j_aload_n 1 dX4_readLine_128 rfl (j_iload_n 0 dX4_readLine_129 rfl (j_callV (rest := []) 4 [vI (S1.I x0 3)] k_RX4_52 ⟨w_4_57, p_2_1⟩ ⟨_, _, rfl⟩ (by decide) rfl rfl (Nat.le_of_ble_eq_true rfl) dX4_readLine_130 h (kI (fun r8 S8 h => j_zret rfl dX4_readLine_133 h)) (fun _ _ h => h.elim)))) (fun h => j_aload_n 1 dX4_readLine_121 rfl (j_callV (rest := []) 4 [] k_RX4_82 ⟨w_4_155, p_2_8⟩ ⟨_, _, rfl⟩ (by decide) rfl rfl (Nat.le_of_ble_eq_true rfl) dX4_readLine_122 h (kI (fun r9 S9 h => j_goto (tgt := 133) dX4_readLine_125 (by decide) (j_zret rfl dX4_readLine_133 h))) (fun _ _ h => h.elim)))))))))) (fun _ _ h => h.elim)))) (fun h => j_aload_n 1 dX4_readLine_95 rfl (j_callV (rest := []) 4 [] k_RX4_77 ⟨w_4_150, p_2_7⟩ ⟨_, _, rfl⟩ (by decide) rfl rfl (Nat.le_of_ble_eq_true rfl) dX4_readLine_96 h (kI (fun r10 S10 h => j_zret rfl dX4_readLine_99 h)) (fun _ _ h => h.elim))))) (fun _ _ h => h.elim)))) (fun h => j_aload_n 1 dX4_readLine_62 rfl (j_getR 4 1 f_RX4_21 dX4_readLine_63 h (fun b11 h => j_getI 7 8 f_RX4_69 dX4_readLine_66 h (fun h => j_iconst dX4_readLine_69 (j_icmp_ge (tgt := 80) dX4_readLine_70 (by decide) h (fun h => j_aload_n 1 dX4_readLine_80 rfl (j_iload_n 0 dX4_readLine_81 rfl (j_callV (rest := []) 4 [vI (S1.I x0 3)] k_RX4_52 ⟨w_4_57, p_2_1⟩ ⟨_, _, rfl⟩ (by decide) rfl rfl (Nat.le_of_ble_eq_true rfl) dX4_readLine_82 h (kI (fun r12 S12 h => j_zret rfl dX4_readLine_85 h)) (fun _ _ h => h.elim)))) (fun h => j_aload_n 1 dX4_readLine_73 rfl (j_callV (rest := []) 4 [] k_RX4_72 ⟨w_4_134, p_2_5⟩ ⟨_, _, rfl⟩ (by decide) rfl rfl (Nat.le_of_ble_eq_true rfl) dX4_readLine_74 h (kI (fun r13 S13 h => j_goto (tgt := 85) dX4_readLine_77 (by decide) (j_zret rfl dX4_readLine_85 h))) (fun _ _ h => h.elim)))))))))) (fun _ _ h => h.elim)))) (fun h => j_aload_n 1 dX4_readLine_30 rfl (j_getR 4 1 f_RX4_21 dX4_readLine_31 h (fun b14 h => j_getI 7 9 f_RX4_61 dX4_readLine_34 h (fun h => j_if_ne (tgt := 47) dX4_readLine_37 (by decide) h (fun h => j_aload_n 1 dX4_readLine_47 rfl (j_iload_n 0 dX4_readLine_48 rfl (j_callV (rest := []) 4 [vI (S1.I x0 3)] k_RX4_52 ⟨w_4_57, p_2_1⟩ ⟨_, _, rfl⟩ (by decide) rfl rfl (Nat.le_of_ble_eq_true rfl) dX4_readLine_49 h (kI (fun r15 S15 h => j_zret rfl dX4_readLine_52 h)) (fun _ _ h => h.elim)))) (fun h => j_aload_n 1 dX4_readLine_40 rfl (j_callV (rest := []) 4 [] k_RX4_64 ⟨w_4_117, p_2_3⟩ ⟨_, _, rfl⟩ (by decide) rfl rfl (Nat.le_of_ble_eq_true rfl) dX4_readLine_41 h (kI (fun r16 S16 h => j_goto (tgt := 52) dX4_readLine_44 (by decide) (j_zret rfl dX4_readLine_52 h))) (fun _ _ h => h.elim))))))))) (fun _ _ h => h.elim)))) (fun h => j_aload_n 1 dX4_readLine_15 rfl (j_iload_n 0 dX4_readLine_16 rfl (j_callV (rest := []) 4 [vI (S1.I x0 3)] k_RX4_52 ⟨w_4_57, p_2_1⟩ ⟨_, _, rfl⟩ (by decide) rfl rfl (Nat.le_of_ble_eq_true rfl) dX4_readLine_17 h (kI (fun r17 S17 h => j_zret rfl dX4_readLine_20 h)) (fun _ _ h => h.elim))))))))))) (fun _ _ h => h.elim))
theorem MX4_readLine {d : Nat} {x0 : Nat} {x1 : Int} {S : MS} {Q : Out → MS → Prop} (h : VX4_readLine_0 d Q x0 x1 S) : Mw hX4_readLine yX4_readLine (d + 1) [vA x0, vI x1] S Q := Mw.ofJ (by decide) (Nat.le_of_ble_eq_true rfl) (JX4_readLine_0 _ _ S h)
theorem dX4_readThings_0 : decode cX4_readThings 0 = .ok (.aload_n 0, 1) := by decide +kernel
theorem dX4_readThings_1 : decode cX4_readThings 1 = .ok (.iconst 3, 1) := by decide +kernel
theorem dX4_readThings_2 : decode cX4_readThings 2 = .ok (.bipush 7, 2) := by decide +kernel
theorem dX4_readThings_4 : decode cX4_readThings 4 = .ok (.invokevirtual 85, 3) := by decide +kernel
theorem dX4_readThings_7 : decode cX4_readThings 7 = .ok (.istore_n 1, 1) := by decide +kernel
theorem dX4_readThings_8 : decode cX4_readThings 8 = .ok (.iload_n 1, 1) := by decide +kernel
theorem dX4_readThings_9 : decode cX4_readThings 9 = .ok (.iconst (-1), 1) := by decide +kernel
theorem dX4_readThings_10 : decode cX4_readThings 10 = .ok (.if_icmp .ne 5, 3) := by decide +kernel
theorem dX4_readThings_13 : decode cX4_readThings 13 = .ok (.iconst 0, 1) := by decide +kernel
theorem dX4_readThings_14 : decode cX4_readThings 14 = .ok (.ireturn, 1) := by decide +kernel
theorem dX4_readThings_15 : decode cX4_readThings 15 = .ok (.aload_n 0, 1) := by decide +kernel
theorem dX4_readThings_16 : decode cX4_readThings 16 = .ok (.getfield 21, 3) := by decide +kernel
theorem dX4_readThings_19 : decode cX4_readThings 19 = .ok (.iload_n 1, 1) := by decide +kernel
theorem dX4_readThings_20 : decode cX4_readThings 20 = .ok (.invokevirtual 89, 3) := by decide +kernel
theorem dX4_readThings_23 : decode cX4_readThings 23 = .ok (.iconst 1, 1) := by decide +kernel
theorem dX4_readThings_24 : decode cX4_readThings 24 = .ok (.ireturn, 1) := by decide +kernel
def VX4_readThings_0 (d : Nat) (Q : Out → MS → Prop) (x0 : Nat) (S : MS) : Prop :=
  S.K x0 = 4 ∧ Mw hX4_readNumber yX4_readNumber d [vA x0, vI 3, vI 7] S (oI (fun r1 S1 => (R32 r1 ∧ R32 ((-1) : Int)) ∧ (¬ (r1 = ((-1) : Int)) → S1.K x0 = 4 ∧ ∃ b2, S1.R x0 1 = some b2 ∧ (S1.K b2 = 7 ∧ Mw hX7_setThings yX7_setThings d [vA b2, vI r1] S1 (oV (fun S3 => B01 1 ∧ Q (.inl (some (vI 1))) S3)))) ∧ ((r1 = ((-1) : Int)) → B01 0 ∧ Q (.inl (some (vI 0))) S1)))
theorem JX4_readThings_0 {d : Nat} {S0 : MS} {Q : Out → MS → Prop} (x0 : Nat) (S : MS) (h : VX4_readThings_0 d Q x0 S) : Jw FinM RX4 cX4_readThings 2 (some .boolean) [] yX4_readThings (d + 1) S0 S 0 [(0, vA x0)] [] Q :=
  j_aload_n 0 dX4_readThings_0 rfl (j_iconst dX4_readThings_1 (j_bipush dX4_readThings_2 rfl (j_callV (rest := []) 4 [vI 3, vI 7] k_RX4_85 ⟨w_4_121, p_2_4⟩ ⟨_, _, rfl⟩ (by decide) rfl rfl (Nat.le_of_ble_eq_true rfl) dX4_readThings_4 h (kI (fun r1 S1 h => j_istore_n (lv2 := [(1, vI r1), (0, vA x0)]) dX4_readThings_7 (by decide) rfl (j_iload_n 0 dX4_readThings_8 rfl (j_iconst dX4_readThings_9 (j_icmp_ne (tgt := 15) dX4_readThings_10 (by decide) h (fun h => j_aload_n 1 dX4_readThings_15 rfl (j_getR 4 1 f_RX4_21 dX4_readThings_16 h (fun b2 h => j_iload_n 0 dX4_readThings_19 rfl (j_callV (rest := []) 7 [vI r1] k_RX4_89 ⟨w_4_128, w_4_129⟩ ⟨_, _, rfl⟩ (by decide) rfl rfl (Nat.le_of_ble_eq_true rfl) dX4_readThings_20 h (kV (fun S3 h => j_iconst dX4_readThings_23 (j_zret rfl dX4_readThings_24 h))) (fun _ _ h => h.elim))))) (fun h => j_iconst dX4_readThings_13 (j_zret rfl dX4_readThings_14 h))))))) (fun _ _ h => h.elim))))
theorem MX4_readThings {d : Nat} {x0 : Nat} {S : MS} {Q : Out → MS → Prop} (h : VX4_readThings_0 d Q x0 S) : Mw hX4_readThings yX4_readThings (d + 1) [vA x0] S Q := Mw.ofJ (by decide) (Nat.le_of_ble_eq_true rfl) (JX4_readThings_0 _ S h)
theorem dX4_readScale_0 : decode cX4_readScale 0 = .ok (.aload_n 0, 1) := by decide +kernel
theorem dX4_readScale_1 : decode cX4_readScale 1 = .ok (.invokevirtual 93, 3) := by decide +kernel
theorem dX4_readScale_4 : decode cX4_readScale 4 = .ok (.istore_n 1, 1) := by decide +kernel
theorem dX4_readScale_5 : decode cX4_readScale 5 = .ok (.iload_n 1, 1) := by decide +kernel
theorem dX4_readScale_6 : decode cX4_readScale 6 = .ok (.iconst (-1), 1) := by decide +kernel
theorem dX4_readScale_7 : decode cX4_readScale 7 = .ok (.if_icmp .ne 12, 3) := by decide +kernel
theorem dX4_readScale_10 : decode cX4_readScale 10 = .ok (.aload_n 0, 1) := by decide +kernel
theorem dX4_readScale_11 : decode cX4_readScale 11 = .ok (.aload_n 0, 1) := by decide +kernel
theorem dX4_readScale_12 : decode cX4_readScale 12 = .ok (.getfield 29, 3) := by decide +kernel
theorem dX4_readScale_15 : decode cX4_readScale 15 = .ok (.invokevirtual 52, 3) := by decide +kernel
theorem dX4_readScale_18 : decode cX4_readScale 18 = .ok (.ireturn, 1) := by decide +kernel
theorem dX4_readScale_19 : decode cX4_readScale 19 = .ok (.aload_n 0, 1) := by decide +kernel
theorem dX4_readScale_20 : decode cX4_readScale 20 = .ok (.iconst 0, 1) := by decide +kernel
theorem dX4_readScale_21 : decode cX4_readScale 21 = .ok (.bipush 99, 2) := by decide +kernel
theorem dX4_readScale_23 : decode cX4_readScale 23 = .ok (.invokevirtual 85, 3) := by decide +kernel
theorem dX4_readScale_26 : decode cX4_readScale 26 = .ok (.istore_n 2, 1) := by decide +kernel
theorem dX4_readScale_27 : decode cX4_readScale 27 = .ok (.iload_n 2, 1) := by decide +kernel
theorem dX4_readScale_28 : decode cX4_readScale 28 = .ok (.iconst (-1), 1) := by decide +kernel
theorem dX4_readScale_29 : decode cX4_readScale 29 = .ok (.if_icmp .ne 7, 3) := by decide +kernel
theorem dX4_readScale_32 : decode cX4_readScale 32 = .ok (.iconst (-1), 1) := by decide +kernel
theorem dX4_readScale_33 : decode cX4_readScale 33 = .ok (.goto 9, 3) := by decide +kernel
theorem dX4_readScale_36 : decode cX4_readScale 36 = .ok (.aload_n 0, 1) := by decide +kernel
theorem dX4_readScale_37 : decode cX4_readScale 37 = .ok (.iconst 0, 1) := by decide +kernel
theorem dX4_readScale_38 : decode cX4_readScale 38 = .ok (.iconst 3, 1) := by decide +kernel
theorem dX4_readScale_39 : decode cX4_readScale 39 = .ok (.invokevirtual 85, 3) := by decide +kernel
theorem dX4_readScale_42 : decode cX4_readScale 42 = .ok (.istore_n 3, 1) := by decide +kernel
theorem dX4_readScale_43 : decode cX4_readScale 43 = .ok (.iload_n 3, 1) := by decide +kernel
theorem dX4_readScale_44 : decode cX4_readScale 44 = .ok (.iconst (-1), 1) := by decide +kernel
theorem dX4_readScale_45 : decode cX4_readScale 45 = .ok (.if_icmp .ne 5, 3) := by decide +kernel
theorem dX4_readScale_48 : decode cX4_readScale 48 = .ok (.iconst 0, 1) := by decide +kernel
theorem dX4_readScale_49 : decode cX4_readScale 49 = .ok (.ireturn, 1) := by decide +kernel
theorem dX4_readScale_50 : decode cX4_readScale 50 = .ok (.aload_n 0, 1) := by decide +kernel
theorem dX4_readScale_51 : decode cX4_readScale 51 = .ok (.getfield 21, 3) := by decide +kernel
theorem dX4_readScale_54 : decode cX4_readScale 54 = .ok (.iload_n 1, 1) := by decide +kernel
theorem dX4_readScale_55 : decode cX4_readScale 55 = .ok (.iload_n 2, 1) := by decide +kernel
theorem dX4_readScale_56 : decode cX4_readScale 56 = .ok (.iload_n 3, 1) := by decide +kernel
theorem dX4_readScale_57 : decode cX4_readScale 57 = .ok (.invokevirtual 97, 3) := by decide +kernel
theorem dX4_readScale_60 : decode cX4_readScale 60 = .ok (.pop, 1) := by decide +kernel
theorem dX4_readScale_61 : decode cX4_readScale 61 = .ok (.iconst 1, 1) := by decide +kernel
theorem dX4_readScale_62 : decode cX4_readScale 62 = .ok (.ireturn, 1) := by decide +kernel
def VX4_readScale_42 (d : Nat) (Q : Out → MS → Prop) (x0 : Nat) (x1 : Int) (x2 : Int) (t0 : Int) (S : MS) : Prop :=
  (R32 t0 ∧ R32 ((-1) : Int)) ∧ (¬ (t0 = ((-1) : Int)) → S.K x0 = 4 ∧ ∃ b1, S.R x0 1 = some b1 ∧ (S.K b1 = 7 ∧ Mw hX7_addScale yX7_addScale d [vA b1, vI x1, vI x2, vI t0] S (oI (fun r2 S2 => B01 1 ∧ Q (.inl (some (vI 1))) S2)))) ∧ ((t0 = ((-1) : Int)) → B01 0 ∧ Q (.inl (some (vI 0))) S)
theorem JX4_readScale_42 {d : Nat} {S0 : MS} {Q : Out → MS → Prop} (x0 : Nat) (x1 : Int) (x2 : Int) (t0 : Int) (S : MS) (h : VX4_readScale_42 d Q x0 x1 x2 t0 S) : Jw FinM RX4 cX4_readScale 4 (some .boolean) [] yX4_readScale (d + 1) S0 S 42 [(0, vA x0), (1, vI x1), (2, vI x2)] [vI t0] Q :=
  j_istore_n (lv2 := [(3, vI t0), (0, vA x0), (1, vI x1), (2, vI x2)]) dX4_readScale_42 (by decide) rfl (j_iload_n 0 dX4_readScale_43 rfl (j_iconst dX4_readScale_44 (j_icmp_ne (tgt := 50) dX4_readScale_45 (by decide) h (fun h => j_aload_n 1 dX4_readScale_50 rfl (j_getR 4 1 f_RX4_21 dX4_readScale_51 h (fun b1 h => j_iload_n 2 dX4_readScale_54 rfl (j_iload_n 3 dX4_readScale_55 rfl (j_iload_n 0 dX4_readScale_56 rfl (j_callV (rest := []) 7 [vI x1, vI x2, vI t0] k_RX4_97 ⟨w_4_144, w_4_145⟩ ⟨_, _, rfl⟩ (by decide) rfl rfl (Nat.le_of_ble_eq_true rfl) dX4_readScale_57 h (kI (fun r2 S2 h => j_pop rfl dX4_readScale_60 (j_iconst dX4_readScale_61 (j_zret rfl dX4_readScale_62 h)))) (fun _ _ h => h.elim))))))) (fun h => j_iconst dX4_readScale_48 (j_zret rfl dX4_readScale_49 h)))))
def VX4_readScale_0 (d : Nat) (Q : Out → MS → Prop) (x0 : Nat) (S : MS) : Prop :=
  S.K x0 = 4 ∧ Mw hX4_readKind yX4_readKind d [vA x0] S (oI (fun r1 S1 => (R32 r1 ∧ R32 ((-1) : Int)) ∧ (¬ (r1 = ((-1) : Int)) → S1.K x0 = 4 ∧ Mw hX4_readNumber yX4_readNumber d [vA x0, vI 0, vI 99] S1 (oI (fun r2 S2 => (R32 r2 ∧ R32 ((-1) : Int)) ∧ (¬ (r2 = ((-1) : Int)) → S2.K x0 = 4 ∧ Mw hX4_readNumber yX4_readNumber d [vA x0, vI 0, vI 3] S2 (oI (fun r3 S3 => VX4_readScale_42 d Q x0 r1 r2 r3 S3))) ∧ ((r2 = ((-1) : Int)) → VX4_readScale_42 d Q x0 r1 r2 ((-1)) S2)))) ∧ ((r1 = ((-1) : Int)) → S1.K x0 = 4 ∧ (S1.K x0 = 4 ∧ Mw hX4_refuse yX4_refuse d [vA x0, vI (S1.I x0 3)] S1 (oI (fun r4 S4 => B01 r4 ∧ Q (.inl (some (vI r4))) S4))))))
theorem JX4_readScale_0 {d : Nat} {S0 : MS} {Q : Out → MS → Prop} (x0 : Nat) (S : MS) (h : VX4_readScale_0 d Q x0 S) : Jw FinM RX4 cX4_readScale 4 (some .boolean) [] yX4_readScale (d + 1) S0 S 0 [(0, vA x0)] [] Q :=
  j_aload_n 0 dX4_readScale_0 rfl (j_callV (rest := []) 4 [] k_RX4_93 ⟨w_4_138, p_2_6⟩ ⟨_, _, rfl⟩ (by decide) rfl rfl (Nat.le_of_ble_eq_true rfl) dX4_readScale_1 h (kI (fun r1 S1 h => j_istore_n (lv2 := [(1, vI r1), (0, vA x0)]) dX4_readScale_4 (by decide) rfl (j_iload_n 0 dX4_readScale_5 rfl (j_iconst dX4_readScale_6 (j_icmp_ne (tgt := 19) dX4_readScale_7 (by decide) h (fun h => j_aload_n 1 dX4_readScale_19 rfl (j_iconst dX4_readScale_20 (j_bipush dX4_readScale_21 rfl (j_callV (rest := []) 4 [vI 0, vI 99] k_RX4_85 ⟨w_4_121, p_2_4⟩ ⟨_, _, rfl⟩ (by decide) rfl rfl (Nat.le_of_ble_eq_true rfl) dX4_readScale_23 h (kI (fun r2 S2 h => j_istore_n (lv2 := [(2, vI r2), (1, vI r1), (0, vA x0)]) dX4_readScale_26 (by decide) rfl (j_iload_n 0 dX4_readScale_27 rfl (j_iconst dX4_readScale_28 (j_icmp_ne (tgt := 36) dX4_readScale_29 (by decide) h (fun h => j_aload_n 2 dX4_readScale_36 rfl (j_iconst dX4_readScale_37 (j_iconst dX4_readScale_38 (j_callV (rest := []) 4 [vI 0, vI 3] k_RX4_85 ⟨w_4_121, p_2_4⟩ ⟨_, _, rfl⟩ (by decide) rfl rfl (Nat.le_of_ble_eq_true rfl) dX4_readScale_39 h (kI (fun r3 S3 h => j_sub [2, 1, 0] rfl (JX4_readScale_42 _ _ _ _ _ h))) (fun _ _ h => h.elim))))) (fun h => j_iconst dX4_readScale_32 (j_goto (tgt := 42) dX4_readScale_33 (by decide) (j_sub [2, 1, 0] rfl (JX4_readScale_42 _ _ _ _ _ h))))))))) (fun _ _ h => h.elim))))) (fun h => j_aload_n 1 dX4_readScale_10 rfl (j_aload_n 1 dX4_readScale_11 rfl (j_getI 4 3 f_RX4_29 dX4_readScale_12 h (fun h => j_callV (rest := []) 4 [vI (S1.I x0 3)] k_RX4_52 ⟨w_4_57, p_2_1⟩ ⟨_, _, rfl⟩ (by decide) rfl rfl (Nat.le_of_ble_eq_true rfl) dX4_readScale_15 h (kI (fun r4 S4 h => j_zret rfl dX4_readScale_18 h)) (fun _ _ h => h.elim)))))))))) (fun _ _ h => h.elim))
theorem MX4_readScale {d : Nat} {x0 : Nat} {S : MS} {Q : Out → MS → Prop} (h : VX4_readScale_0 d Q x0 S) : Mw hX4_readScale yX4_readScale (d + 1) [vA x0] S Q := Mw.ofJ (by decide) (Nat.le_of_ble_eq_true rfl) (JX4_readScale_0 _ S h)
theorem dX4_readKind_0 : decode cX4_readKind 0 = .ok (.aload_n 0, 1) := by decide +kernel
theorem dX4_readKind_1 : decode cX4_readKind 1 = .ok (.invokevirtual 38, 3) := by decide +kernel
theorem dX4_readKind_4 : decode cX4_readKind 4 = .ok (.aload_n 0, 1) := by decide +kernel
theorem dX4_readKind_5 : decode cX4_readKind 5 = .ok (.ldc 101, 2) := by decide +kernel
theorem dX4_readKind_7 : decode cX4_readKind 7 = .ok (.invokevirtual 57, 3) := by decide +kernel
theorem dX4_readKind_10 : decode cX4_readKind 10 = .ok (.ifCond .eq 5, 3) := by decide +kernel
theorem dX4_readKind_13 : decode cX4_readKind 13 = .ok (.iconst 0, 1) := by decide +kernel
theorem dX4_readKind_14 : decode cX4_readKind 14 = .ok (.ireturn, 1) := by decide +kernel
theorem dX4_readKind_15 : decode cX4_readKind 15 = .ok (.aload_n 0, 1) := by decide +kernel
theorem dX4_readKind_16 : decode cX4_readKind 16 = .ok (.ldc 103, 2) := by decide +kernel
theorem dX4_readKind_18 : decode cX4_readKind 18 = .ok (.invokevirtual 57, 3) := by decide +kernel
theorem dX4_readKind_21 : decode cX4_readKind 21 = .ok (.ifCond .eq 5, 3) := by decide +kernel
theorem dX4_readKind_24 : decode cX4_readKind 24 = .ok (.iconst 1, 1) := by decide +kernel
theorem dX4_readKind_25 : decode cX4_readKind 25 = .ok (.ireturn, 1) := by decide +kernel
theorem dX4_readKind_26 : decode cX4_readKind 26 = .ok (.aload_n 0, 1) := by decide +kernel
theorem dX4_readKind_27 : decode cX4_readKind 27 = .ok (.ldc 105, 2) := by decide +kernel
theorem dX4_readKind_29 : decode cX4_readKind 29 = .ok (.invokevirtual 57, 3) := by decide +kernel
theorem dX4_readKind_32 : decode cX4_readKind 32 = .ok (.ifCond .eq 7, 3) := by decide +kernel
theorem dX4_readKind_35 : decode cX4_readKind 35 = .ok (.iconst 2, 1) := by decide +kernel
theorem dX4_readKind_36 : decode cX4_readKind 36 = .ok (.goto 4, 3) := by decide +kernel
theorem dX4_readKind_39 : decode cX4_readKind 39 = .ok (.iconst (-1), 1) := by decide +kernel
theorem dX4_readKind_40 : decode cX4_readKind 40 = .ok (.ireturn, 1) := by decide +kernel
def VX4_readKind_0 (d : Nat) (Q : Out → MS → Prop) (x0 : Nat) (S : MS) : Prop :=
  S.K x0 = 4 ∧ Mw hX4_skipBlanks yX4_skipBlanks d [vA x0] S (oV (fun S1 => S1.K x0 = 4 ∧ Mw hX4_readWord yX4_readWord d [vA x0, vA (S1.T 4)] S1 (oI (fun r2 S2 => R32 r2 ∧ ((r2 = 0) → S2.K x0 = 4 ∧ Mw hX4_readWord yX4_readWord d [vA x0, vA (S2.T 5)] S2 (oI (fun r3 S3 => R32 r3 ∧ ((r3 = 0) → S3.K x0 = 4 ∧ Mw hX4_readWord yX4_readWord d [vA x0, vA (S3.T 6)] S3 (oI (fun r4 S4 => R32 r4 ∧ ((r4 = 0) → Q (.inl (some (vI ((-1))))) S4) ∧ (¬ (r4 = 0) → Q (.inl (some (vI 2))) S4)))) ∧ (¬ (r3 = 0) → Q (.inl (some (vI 1))) S3)))) ∧ (¬ (r2 = 0) → Q (.inl (some (vI 0))) S2)))))
theorem JX4_readKind_0 {d : Nat} {S0 : MS} {Q : Out → MS → Prop} (x0 : Nat) (S : MS) (h : VX4_readKind_0 d Q x0 S) : Jw FinM RX4 cX4_readKind 1 (some .int) [] yX4_readKind (d + 1) S0 S 0 [(0, vA x0)] [] Q :=
  j_aload_n 0 dX4_readKind_0 rfl (j_callV (rest := []) 4 [] k_RX4_38 ⟨w_4_45, p_1_15⟩ ⟨_, _, rfl⟩ (by decide) rfl rfl (Nat.le_of_ble_eq_true rfl) dX4_readKind_1 h (kV (fun S1 h => j_aload_n 0 dX4_readKind_4 rfl (j_ldcS (List.mem_of_getElem? (i := 4) rfl) dX4_readKind_5 (j_callV (rest := []) 4 [vA (S1.T 4)] k_RX4_57 ⟨w_4_62, p_2_2⟩ ⟨_, _, rfl⟩ (by decide) rfl rfl (Nat.le_of_ble_eq_true rfl) dX4_readKind_7 h (kI (fun r2 S2 h => j_if_eq (tgt := 15) dX4_readKind_10 (by decide) h (fun h => j_aload_n 0 dX4_readKind_15 rfl (j_ldcS (List.mem_of_getElem? (i := 5) rfl) dX4_readKind_16 (j_callV (rest := []) 4 [vA (S2.T 5)] k_RX4_57 ⟨w_4_62, p_2_2⟩ ⟨_, _, rfl⟩ (by decide) rfl rfl (Nat.le_of_ble_eq_true rfl) dX4_readKind_18 h (kI (fun r3 S3 h => j_if_eq (tgt := 26) dX4_readKind_21 (by decide) h (fun h => j_aload_n 0 dX4_readKind_26 rfl (j_ldcS (List.mem_of_getElem? (i := 6) rfl) dX4_readKind_27 (j_callV (rest := []) 4 [vA (S3.T 6)] k_RX4_57 ⟨w_4_62, p_2_2⟩ ⟨_, _, rfl⟩ (by decide) rfl rfl (Nat.le_of_ble_eq_true rfl) dX4_readKind_29 h (kI (fun r4 S4 h => j_if_eq (tgt := 39) dX4_readKind_32 (by decide) h (fun h => j_iconst dX4_readKind_39 (j_iret rfl dX4_readKind_40 h)) (fun h => j_iconst dX4_readKind_35 (j_goto (tgt := 40) dX4_readKind_36 (by decide) (j_iret rfl dX4_readKind_40 h))))) (fun _ _ h => h.elim)))) (fun h => j_iconst dX4_readKind_24 (j_iret rfl dX4_readKind_25 h)))) (fun _ _ h => h.elim)))) (fun h => j_iconst dX4_readKind_13 (j_iret rfl dX4_readKind_14 h)))) (fun _ _ h => h.elim))))) (fun _ _ h => h.elim))
theorem MX4_readKind {d : Nat} {x0 : Nat} {S : MS} {Q : Out → MS → Prop} (h : VX4_readKind_0 d Q x0 S) : Mw hX4_readKind yX4_readKind (d + 1) [vA x0] S Q := Mw.ofJ (by decide) (Nat.le_of_ble_eq_true rfl) (JX4_readKind_0 _ S h)
theorem dX4_readWeight_0 : decode cX4_readWeight 0 = .ok (.aload_n 0, 1) := by decide +kernel
theorem dX4_readWeight_1 : decode cX4_readWeight 1 = .ok (.iconst 0, 1) := by decide +kernel
theorem dX4_readWeight_2 : decode cX4_readWeight 2 = .ok (.aload_n 0, 1) := by decide +kernel
theorem dX4_readWeight_3 : decode cX4_readWeight 3 = .ok (.getfield 21, 3) := by decide +kernel
theorem dX4_readWeight_6 : decode cX4_readWeight 6 = .ok (.getfield 107, 3) := by decide +kernel
theorem dX4_readWeight_9 : decode cX4_readWeight 9 = .ok (.iconst 1, 1) := by decide +kernel
theorem dX4_readWeight_10 : decode cX4_readWeight 10 = .ok (.isub, 1) := by decide +kernel
theorem dX4_readWeight_11 : decode cX4_readWeight 11 = .ok (.invokevirtual 85, 3) := by decide +kernel
theorem dX4_readWeight_14 : decode cX4_readWeight 14 = .ok (.istore_n 1, 1) := by decide +kernel
theorem dX4_readWeight_15 : decode cX4_readWeight 15 = .ok (.iload_n 1, 1) := by decide +kernel
theorem dX4_readWeight_16 : decode cX4_readWeight 16 = .ok (.iconst (-1), 1) := by decide +kernel
theorem dX4_readWeight_17 : decode cX4_readWeight 17 = .ok (.if_icmp .ne 7, 3) := by decide +kernel
theorem dX4_readWeight_20 : decode cX4_readWeight 20 = .ok (.iconst (-1), 1) := by decide +kernel
theorem dX4_readWeight_21 : decode cX4_readWeight 21 = .ok (.goto 11, 3) := by decide +kernel
theorem dX4_readWeight_24 : decode cX4_readWeight 24 = .ok (.aload_n 0, 1) := by decide +kernel
theorem dX4_readWeight_25 : decode cX4_readWeight 25 = .ok (.iconst 0, 1) := by decide +kernel
theorem dX4_readWeight_26 : decode cX4_readWeight 26 = .ok (.sipush 999, 3) := by decide +kernel
theorem dX4_readWeight_29 : decode cX4_readWeight 29 = .ok (.invokevirtual 85, 3) := by decide +kernel
theorem dX4_readWeight_32 : decode cX4_readWeight 32 = .ok (.istore_n 2, 1) := by decide +kernel
theorem dX4_readWeight_33 : decode cX4_readWeight 33 = .ok (.iload_n 2, 1) := by decide +kernel
theorem dX4_readWeight_34 : decode cX4_readWeight 34 = .ok (.iconst (-1), 1) := by decide +kernel
theorem dX4_readWeight_35 : decode cX4_readWeight 35 = .ok (.if_icmp .ne 5, 3) := by decide +kernel
theorem dX4_readWeight_38 : decode cX4_readWeight 38 = .ok (.iconst 0, 1) := by decide +kernel
theorem dX4_readWeight_39 : decode cX4_readWeight 39 = .ok (.ireturn, 1) := by decide +kernel
theorem dX4_readWeight_40 : decode cX4_readWeight 40 = .ok (.aload_n 0, 1) := by decide +kernel
theorem dX4_readWeight_41 : decode cX4_readWeight 41 = .ok (.getfield 21, 3) := by decide +kernel
theorem dX4_readWeight_44 : decode cX4_readWeight 44 = .ok (.getfield 109, 3) := by decide +kernel
theorem dX4_readWeight_47 : decode cX4_readWeight 47 = .ok (.iload_n 1, 1) := by decide +kernel
theorem dX4_readWeight_48 : decode cX4_readWeight 48 = .ok (.iload_n 2, 1) := by decide +kernel
theorem dX4_readWeight_49 : decode cX4_readWeight 49 = .ok (.iastore, 1) := by decide +kernel
theorem dX4_readWeight_50 : decode cX4_readWeight 50 = .ok (.iconst 1, 1) := by decide +kernel
theorem dX4_readWeight_51 : decode cX4_readWeight 51 = .ok (.ireturn, 1) := by decide +kernel
def VX4_readWeight_32 (d : Nat) (Q : Out → MS → Prop) (x0 : Nat) (x1 : Int) (t0 : Int) (S : MS) : Prop :=
  (R32 t0 ∧ R32 ((-1) : Int)) ∧ (¬ (t0 = ((-1) : Int)) → S.K x0 = 4 ∧ ∃ b1, S.R x0 1 = some b1 ∧ (S.K b1 = 7 ∧ ∃ b2, S.R b1 0 = some b2 ∧ ((S.K b2 = 13 ∧ 0 ≤ x1 ∧ x1 < S.N b2) ∧ (B01 1 ∧ Q (.inl (some (vI 1))) (S.setI b2 (x1).toNat t0))))) ∧ ((t0 = ((-1) : Int)) → B01 0 ∧ Q (.inl (some (vI 0))) S)
theorem JX4_readWeight_32 {d : Nat} {S0 : MS} {Q : Out → MS → Prop} (x0 : Nat) (x1 : Int) (t0 : Int) (S : MS) (h : VX4_readWeight_32 d Q x0 x1 t0 S) : Jw FinM RX4 cX4_readWeight 3 (some .boolean) [] yX4_readWeight (d + 1) S0 S 32 [(0, vA x0), (1, vI x1)] [vI t0] Q :=
  j_istore_n (lv2 := [(2, vI t0), (0, vA x0), (1, vI x1)]) dX4_readWeight_32 (by decide) rfl (j_iload_n 0 dX4_readWeight_33 rfl (j_iconst dX4_readWeight_34 (j_icmp_ne (tgt := 40) dX4_readWeight_35 (by decide) h (fun h => j_aload_n 1 dX4_readWeight_40 rfl (j_getR 4 1 f_RX4_21 dX4_readWeight_41 h (fun b1 h => j_getR 7 0 f_RX4_109 dX4_readWeight_44 h (fun b2 h => j_iload_n 2 dX4_readWeight_47 rfl (j_iload_n 0 dX4_readWeight_48 rfl (j_iast dX4_readWeight_49 h (fun h => j_iconst dX4_readWeight_50 (j_zret rfl dX4_readWeight_51 h)))))))) (fun h => j_iconst dX4_readWeight_38 (j_zret rfl dX4_readWeight_39 h)))))
def VX4_readWeight_0 (d : Nat) (Q : Out → MS → Prop) (x0 : Nat) (S : MS) : Prop :=
  S.K x0 = 4 ∧ ∃ b1, S.R x0 1 = some b1 ∧ (S.K b1 = 7 ∧ (S.K x0 = 4 ∧ Mw hX4_readNumber yX4_readNumber d [vA x0, vI 0, vI ((S.I b1 7) - 1)] S (oI (fun r2 S2 => (R32 r2 ∧ R32 ((-1) : Int)) ∧ (¬ (r2 = ((-1) : Int)) → S2.K x0 = 4 ∧ Mw hX4_readNumber yX4_readNumber d [vA x0, vI 0, vI 999] S2 (oI (fun r3 S3 => VX4_readWeight_32 d Q x0 r2 r3 S3))) ∧ ((r2 = ((-1) : Int)) → VX4_readWeight_32 d Q x0 r2 ((-1)) S2)))))
theorem JX4_readWeight_0 {d : Nat} {S0 : MS} {Q : Out → MS → Prop} (x0 : Nat) (S : MS) (h : VX4_readWeight_0 d Q x0 S) : Jw FinM RX4 cX4_readWeight 3 (some .boolean) [] yX4_readWeight (d + 1) S0 S 0 [(0, vA x0)] [] Q :=
  j_aload_n 0 dX4_readWeight_0 rfl (j_iconst dX4_readWeight_1 (j_aload_n 0 dX4_readWeight_2 rfl (j_getR 4 1 f_RX4_21 dX4_readWeight_3 h (fun b1 h => j_getI 7 7 f_RX4_107 dX4_readWeight_6 h (fun h => j_iconst dX4_readWeight_9 (j_isub dX4_readWeight_10 (j_callV (rest := []) 4 [vI 0, vI ((S.I b1 7) - 1)] k_RX4_85 ⟨w_4_121, p_2_4⟩ ⟨_, _, rfl⟩ (by decide) rfl rfl (Nat.le_of_ble_eq_true rfl) dX4_readWeight_11 h (kI (fun r2 S2 h => j_istore_n (lv2 := [(1, vI r2), (0, vA x0)]) dX4_readWeight_14 (by decide) rfl (j_iload_n 0 dX4_readWeight_15 rfl (j_iconst dX4_readWeight_16 (j_icmp_ne (tgt := 24) dX4_readWeight_17 (by decide) h (fun h => j_aload_n 1 dX4_readWeight_24 rfl (j_iconst dX4_readWeight_25 (j_sipush dX4_readWeight_26 rfl (j_callV (rest := []) 4 [vI 0, vI 999] k_RX4_85 ⟨w_4_121, p_2_4⟩ ⟨_, _, rfl⟩ (by decide) rfl rfl (Nat.le_of_ble_eq_true rfl) dX4_readWeight_29 h (kI (fun r3 S3 h => j_sub [1, 0] rfl (JX4_readWeight_32 _ _ _ _ h))) (fun _ _ h => h.elim))))) (fun h => j_iconst dX4_readWeight_20 (j_goto (tgt := 32) dX4_readWeight_21 (by decide) (j_sub [1, 0] rfl (JX4_readWeight_32 _ _ _ _ h))))))))) (fun _ _ h => h.elim))))))))
theorem MX4_readWeight {d : Nat} {x0 : Nat} {S : MS} {Q : Out → MS → Prop} (h : VX4_readWeight_0 d Q x0 S) : Mw hX4_readWeight yX4_readWeight (d + 1) [vA x0] S Q := Mw.ofJ (by decide) (Nat.le_of_ble_eq_true rfl) (JX4_readWeight_0 _ S h)
theorem dX4_readNote_0 : decode cX4_readNote 0 = .ok (.aload_n 0, 1) := by decide +kernel
theorem dX4_readNote_1 : decode cX4_readNote 1 = .ok (.iconst 0, 1) := by decide +kernel
theorem dX4_readNote_2 : decode cX4_readNote 2 = .ok (.aload_n 0, 1) := by decide +kernel
theorem dX4_readNote_3 : decode cX4_readNote 3 = .ok (.getfield 21, 3) := by decide +kernel
theorem dX4_readNote_6 : decode cX4_readNote 6 = .ok (.getfield 69, 3) := by decide +kernel
theorem dX4_readNote_9 : decode cX4_readNote 9 = .ok (.iconst 1, 1) := by decide +kernel
theorem dX4_readNote_10 : decode cX4_readNote 10 = .ok (.isub, 1) := by decide +kernel
theorem dX4_readNote_11 : decode cX4_readNote 11 = .ok (.invokevirtual 85, 3) := by decide +kernel
theorem dX4_readNote_14 : decode cX4_readNote 14 = .ok (.istore_n 1, 1) := by decide +kernel
theorem dX4_readNote_15 : decode cX4_readNote 15 = .ok (.iload_n 1, 1) := by decide +kernel
theorem dX4_readNote_16 : decode cX4_readNote 16 = .ok (.iconst (-1), 1) := by decide +kernel
theorem dX4_readNote_17 : decode cX4_readNote 17 = .ok (.if_icmp .ne 5, 3) := by decide +kernel
theorem dX4_readNote_20 : decode cX4_readNote 20 = .ok (.iconst 0, 1) := by decide +kernel
theorem dX4_readNote_21 : decode cX4_readNote 21 = .ok (.ireturn, 1) := by decide +kernel
theorem dX4_readNote_22 : decode cX4_readNote 22 = .ok (.aload_n 0, 1) := by decide +kernel
theorem dX4_readNote_23 : decode cX4_readNote 23 = .ok (.getfield 21, 3) := by decide +kernel
theorem dX4_readNote_26 : decode cX4_readNote 26 = .ok (.getfield 113, 3) := by decide +kernel
theorem dX4_readNote_29 : decode cX4_readNote 29 = .ok (.iload_n 1, 1) := by decide +kernel
theorem dX4_readNote_30 : decode cX4_readNote 30 = .ok (.iaload, 1) := by decide +kernel
theorem dX4_readNote_31 : decode cX4_readNote 31 = .ok (.invokestatic 116, 3) := by decide +kernel
theorem dX4_readNote_34 : decode cX4_readNote 34 = .ok (.istore_n 2, 1) := by decide +kernel
theorem dX4_readNote_35 : decode cX4_readNote 35 = .ok (.iconst 0, 1) := by decide +kernel
theorem dX4_readNote_36 : decode cX4_readNote 36 = .ok (.istore_n 3, 1) := by decide +kernel
theorem dX4_readNote_37 : decode cX4_readNote 37 = .ok (.iconst 0, 1) := by decide +kernel
theorem dX4_readNote_38 : decode cX4_readNote 38 = .ok (.istore 4, 2) := by decide +kernel
theorem dX4_readNote_40 : decode cX4_readNote 40 = .ok (.iload 4, 2) := by decide +kernel
theorem dX4_readNote_42 : decode cX4_readNote 42 = .ok (.iload_n 2, 1) := by decide +kernel
theorem dX4_readNote_43 : decode cX4_readNote 43 = .ok (.if_icmp .ge 32, 3) := by decide +kernel
theorem dX4_readNote_46 : decode cX4_readNote 46 = .ok (.aload_n 0, 1) := by decide +kernel
theorem dX4_readNote_47 : decode cX4_readNote 47 = .ok (.iload_n 3, 1) := by decide +kernel
theorem dX4_readNote_48 : decode cX4_readNote 48 = .ok (.iconst 0, 1) := by decide +kernel
theorem dX4_readNote_49 : decode cX4_readNote 49 = .ok (.invokevirtual 119, 3) := by decide +kernel
theorem dX4_readNote_52 : decode cX4_readNote 52 = .ok (.istore 5, 2) := by decide +kernel
theorem dX4_readNote_54 : decode cX4_readNote 54 = .ok (.iload 5, 2) := by decide +kernel
theorem dX4_readNote_56 : decode cX4_readNote 56 = .ok (.iconst (-1), 1) := by decide +kernel
theorem dX4_readNote_57 : decode cX4_readNote 57 = .ok (.if_icmp .ne 5, 3) := by decide +kernel
theorem dX4_readNote_60 : decode cX4_readNote 60 = .ok (.iconst 0, 1) := by decide +kernel
theorem dX4_readNote_61 : decode cX4_readNote 61 = .ok (.ireturn, 1) := by decide +kernel
theorem dX4_readNote_62 : decode cX4_readNote 62 = .ok (.iload_n 3, 1) := by decide +kernel
theorem dX4_readNote_63 : decode cX4_readNote 63 = .ok (.iconst 1, 1) := by decide +kernel
theorem dX4_readNote_64 : decode cX4_readNote 64 = .ok (.iload 5, 2) := by decide +kernel
theorem dX4_readNote_66 : decode cX4_readNote 66 = .ok (.ishl, 1) := by decide +kernel
theorem dX4_readNote_67 : decode cX4_readNote 67 = .ok (.ior, 1) := by decide +kernel
theorem dX4_readNote_68 : decode cX4_readNote 68 = .ok (.istore_n 3, 1) := by decide +kernel
theorem dX4_readNote_69 : decode cX4_readNote 69 = .ok (.iinc 4 1, 3) := by decide +kernel
theorem dX4_readNote_72 : decode cX4_readNote 72 = .ok (.goto (-32), 3) := by decide +kernel
theorem dX4_readNote_75 : decode cX4_readNote 75 = .ok (.aload_n 0, 1) := by decide +kernel
theorem dX4_readNote_76 : decode cX4_readNote 76 = .ok (.invokevirtual 38, 3) := by decide +kernel
theorem dX4_readNote_79 : decode cX4_readNote 79 = .ok (.aload_n 0, 1) := by decide +kernel
theorem dX4_readNote_80 : decode cX4_readNote 80 = .ok (.ldc 123, 2) := by decide +kernel
theorem dX4_readNote_82 : decode cX4_readNote 82 = .ok (.invokevirtual 57, 3) := by decide +kernel
theorem dX4_readNote_85 : decode cX4_readNote 85 = .ok (.ifCond .ne 12, 3) := by decide +kernel
theorem dX4_readNote_88 : decode cX4_readNote 88 = .ok (.aload_n 0, 1) := by decide +kernel
theorem dX4_readNote_89 : decode cX4_readNote 89 = .ok (.aload_n 0, 1) := by decide +kernel
theorem dX4_readNote_90 : decode cX4_readNote 90 = .ok (.getfield 29, 3) := by decide +kernel
theorem dX4_readNote_93 : decode cX4_readNote 93 = .ok (.invokevirtual 52, 3) := by decide +kernel
theorem dX4_readNote_96 : decode cX4_readNote 96 = .ok (.ireturn, 1) := by decide +kernel
theorem dX4_readNote_97 : decode cX4_readNote 97 = .ok (.aload_n 0, 1) := by decide +kernel
theorem dX4_readNote_98 : decode cX4_readNote 98 = .ok (.iload_n 3, 1) := by decide +kernel
theorem dX4_readNote_99 : decode cX4_readNote 99 = .ok (.iconst 1, 1) := by decide +kernel
theorem dX4_readNote_100 : decode cX4_readNote 100 = .ok (.invokevirtual 119, 3) := by decide +kernel
theorem dX4_readNote_103 : decode cX4_readNote 103 = .ok (.istore 4, 2) := by decide +kernel
theorem dX4_readNote_105 : decode cX4_readNote 105 = .ok (.iload 4, 2) := by decide +kernel
theorem dX4_readNote_107 : decode cX4_readNote 107 = .ok (.iconst (-1), 1) := by decide +kernel
theorem dX4_readNote_108 : decode cX4_readNote 108 = .ok (.if_icmp .ne 5, 3) := by decide +kernel
theorem dX4_readNote_111 : decode cX4_readNote 111 = .ok (.iconst 0, 1) := by decide +kernel
theorem dX4_readNote_112 : decode cX4_readNote 112 = .ok (.ireturn, 1) := by decide +kernel
theorem dX4_readNote_113 : decode cX4_readNote 113 = .ok (.aload_n 0, 1) := by decide +kernel
theorem dX4_readNote_114 : decode cX4_readNote 114 = .ok (.getfield 21, 3) := by decide +kernel
theorem dX4_readNote_117 : decode cX4_readNote 117 = .ok (.iload_n 1, 1) := by decide +kernel
theorem dX4_readNote_118 : decode cX4_readNote 118 = .ok (.iload_n 3, 1) := by decide +kernel
theorem dX4_readNote_119 : decode cX4_readNote 119 = .ok (.iload 4, 2) := by decide +kernel
theorem dX4_readNote_121 : decode cX4_readNote 121 = .ok (.invokevirtual 125, 3) := by decide +kernel
theorem dX4_readNote_124 : decode cX4_readNote 124 = .ok (.pop, 1) := by decide +kernel
theorem dX4_readNote_125 : decode cX4_readNote 125 = .ok (.iconst 1, 1) := by decide +kernel
theorem dX4_readNote_126 : decode cX4_readNote 126 = .ok (.ireturn, 1) := by decide +kernel
def VX4_readNote_40 (d : Nat) (Q : Out → MS → Prop) : Nat → Nat → Int → Int → Int → Int → MS → Prop
  | 0, _, _, _, _, _, _ => False
  | n + 1, x0, x1, x2, x3, x4, S => (R32 x4 ∧ R32 x2) ∧ ((x2 ≤ x4) → S.K x0 = 4 ∧ Mw hX4_skipBlanks yX4_skipBlanks d [vA x0] S (oV (fun S1 => S1.K x0 = 4 ∧ Mw hX4_readWord yX4_readWord d [vA x0, vA (S1.T 7)] S1 (oI (fun r2 S2 => R32 r2 ∧ (¬ (r2 = 0) → S2.K x0 = 4 ∧ Mw hX4_readThing yX4_readThing d [vA x0, vI x3, vI 1] S2 (oI (fun r3 S3 => (R32 r3 ∧ R32 ((-1) : Int)) ∧ (¬ (r3 = ((-1) : Int)) → S3.K x0 = 4 ∧ ∃ b4, S3.R x0 1 = some b4 ∧ (S3.K b4 = 7 ∧ Mw hX7_addNote yX7_addNote d [vA b4, vI x1, vI x3, vI r3] S3 (oI (fun r5 S5 => B01 1 ∧ Q (.inl (some (vI 1))) S5)))) ∧ ((r3 = ((-1) : Int)) → B01 0 ∧ Q (.inl (some (vI 0))) S3)))) ∧ ((r2 = 0) → S2.K x0 = 4 ∧ (S2.K x0 = 4 ∧ Mw hX4_refuse yX4_refuse d [vA x0, vI (S2.I x0 3)] S2 (oI (fun r6 S6 => B01 r6 ∧ Q (.inl (some (vI r6))) S6))))))))) ∧ (¬ (x2 ≤ x4) → S.K x0 = 4 ∧ Mw hX4_readThing yX4_readThing d [vA x0, vI x3, vI 0] S (oI (fun r7 S7 => (R32 r7 ∧ R32 ((-1) : Int)) ∧ (¬ (r7 = ((-1) : Int)) → (VX4_readNote_40 d Q n) x0 x1 x2 (iOr x3 (iShl 1 r7)) (x4 + 1) S7) ∧ ((r7 = ((-1) : Int)) → B01 0 ∧ Q (.inl (some (vI 0))) S7))))
theorem JX4_readNote_40 {d : Nat} {S0 : MS} {Q : Out → MS → Prop} : ∀ (n : Nat) (x0 : Nat) (x1 : Int) (x2 : Int) (x3 : Int) (x4 : Int) (S : MS), VX4_readNote_40 d Q n x0 x1 x2 x3 x4 S → Jw FinM RX4 cX4_readNote 6 (some .boolean) [] yX4_readNote (d + 1) S0 S 40 [(0, vA x0), (1, vI x1), (2, vI x2), (3, vI x3), (4, vI x4)] [] Q := by
  intro n
  induction n with
  | zero => intro x0 x1 x2 x3 x4 S h; exact h.elim
  | succ n ih =>
    intro x0 x1 x2 x3 x4 S h
    exact j_iload 4 dX4_readNote_40 rfl (j_iload_n 2 dX4_readNote_42 rfl (j_icmp_ge (tgt := 75) dX4_readNote_43 (by decide) h (fun h => j_aload_n 0 dX4_readNote_75 rfl (j_callV (rest := []) 4 [] k_RX4_38 ⟨w_4_45, p_1_15⟩ ⟨_, _, rfl⟩ (by decide) rfl rfl (Nat.le_of_ble_eq_true rfl) dX4_readNote_76 h (kV (fun S1 h => j_aload_n 0 dX4_readNote_79 rfl (j_ldcS (List.mem_of_getElem? (i := 7) rfl) dX4_readNote_80 (j_callV (rest := []) 4 [vA (S1.T 7)] k_RX4_57 ⟨w_4_62, p_2_2⟩ ⟨_, _, rfl⟩ (by decide) rfl rfl (Nat.le_of_ble_eq_true rfl) dX4_readNote_82 h (kI (fun r2 S2 h => j_if_ne (tgt := 97) dX4_readNote_85 (by decide) h (fun h => j_aload_n 0 dX4_readNote_97 rfl (j_iload_n 3 dX4_readNote_98 rfl (j_iconst dX4_readNote_99 (j_callV (rest := []) 4 [vI x3, vI 1] k_RX4_119 ⟨w_4_160, p_2_9⟩ ⟨_, _, rfl⟩ (by decide) rfl rfl (Nat.le_of_ble_eq_true rfl) dX4_readNote_100 h (kI (fun r3 S3 h => j_istore (lv2 := [(4, vI r3), (0, vA x0), (1, vI x1), (2, vI x2), (3, vI x3)]) dX4_readNote_103 (by decide) rfl (j_iload 0 dX4_readNote_105 rfl (j_iconst dX4_readNote_107 (j_icmp_ne (tgt := 113) dX4_readNote_108 (by decide) h (fun h => j_aload_n 1 dX4_readNote_113 rfl (j_getR 4 1 f_RX4_21 dX4_readNote_114 h (fun b4 h => j_iload_n 2 dX4_readNote_117 rfl (j_iload_n 4 dX4_readNote_118 rfl (j_iload 0 dX4_readNote_119 rfl (j_callV (rest := []) 7 [vI x1, vI x3, vI r3] k_RX4_125 ⟨w_4_165, w_4_166⟩ ⟨_, _, rfl⟩ (by decide) rfl rfl (Nat.le_of_ble_eq_true rfl) dX4_readNote_121 h (kI (fun r5 S5 h => j_pop rfl dX4_readNote_124 (j_iconst dX4_readNote_125 (j_zret rfl dX4_readNote_126 h)))) (fun _ _ h => h.elim))))))) (fun h => j_iconst dX4_readNote_111 (j_zret rfl dX4_readNote_112 h))))))) (fun _ _ h => h.elim))))) (fun h => j_aload_n 0 dX4_readNote_88 rfl (j_aload_n 0 dX4_readNote_89 rfl (j_getI 4 3 f_RX4_29 dX4_readNote_90 h (fun h => j_callV (rest := []) 4 [vI (S2.I x0 3)] k_RX4_52 ⟨w_4_57, p_2_1⟩ ⟨_, _, rfl⟩ (by decide) rfl rfl (Nat.le_of_ble_eq_true rfl) dX4_readNote_93 h (kI (fun r6 S6 h => j_zret rfl dX4_readNote_96 h)) (fun _ _ h => h.elim))))))) (fun _ _ h => h.elim))))) (fun _ _ h => h.elim))) (fun h => j_aload_n 0 dX4_readNote_46 rfl (j_iload_n 3 dX4_readNote_47 rfl (j_iconst dX4_readNote_48 (j_callV (rest := []) 4 [vI x3, vI 0] k_RX4_119 ⟨w_4_160, p_2_9⟩ ⟨_, _, rfl⟩ (by decide) rfl rfl (Nat.le_of_ble_eq_true rfl) dX4_readNote_49 h (kI (fun r7 S7 h => j_istore (lv2 := [(5, vI r7), (0, vA x0), (1, vI x1), (2, vI x2), (3, vI x3), (4, vI x4)]) dX4_readNote_52 (by decide) rfl (j_iload 0 dX4_readNote_54 rfl (j_iconst dX4_readNote_56 (j_icmp_ne (tgt := 62) dX4_readNote_57 (by decide) h (fun h => j_iload_n 4 dX4_readNote_62 rfl (j_iconst dX4_readNote_63 (j_iload 0 dX4_readNote_64 rfl (j_ishl dX4_readNote_66 (j_ior dX4_readNote_67 (j_istore_n (lv2 := [(3, vI (iOr x3 (iShl 1 r7))), (5, vI r7), (0, vA x0), (1, vI x1), (2, vI x2), (4, vI x4)]) dX4_readNote_68 (by decide) rfl (j_iinc 5 (lv2 := [(4, vI (x4 + 1)), (3, vI (iOr x3 (iShl 1 r7))), (5, vI r7), (0, vA x0), (1, vI x1), (2, vI x2)]) dX4_readNote_69 rfl (by decide) rfl (j_goto (tgt := 40) dX4_readNote_72 (by decide) (j_sub [3, 4, 5, 1, 0] rfl (ih _ _ _ _ _ _ h)))))))))) (fun h => j_iconst dX4_readNote_60 (j_zret rfl dX4_readNote_61 h))))))) (fun _ _ h => h.elim)))))))
def VX4_readNote_0 (d : Nat) (Q : Out → MS → Prop) (x0 : Nat) (S : MS) : Prop :=
  S.K x0 = 4 ∧ ∃ b1, S.R x0 1 = some b1 ∧ (S.K b1 = 7 ∧ (S.K x0 = 4 ∧ Mw hX4_readNumber yX4_readNumber d [vA x0, vI 0, vI ((S.I b1 8) - 1)] S (oI (fun r2 S2 => (R32 r2 ∧ R32 ((-1) : Int)) ∧ (¬ (r2 = ((-1) : Int)) → S2.K x0 = 4 ∧ ∃ b3, S2.R x0 1 = some b3 ∧ (S2.K b3 = 7 ∧ ∃ b4, S2.R b3 1 = some b4 ∧ ((S2.K b4 = 13 ∧ 0 ≤ r2 ∧ r2 < S2.N b4) ∧ (Mw hX10_pansOf yX10_pansOf d [vI (S2.I b4 (r2).toNat)] S2 (oI (fun r5 S5 => ∃ m, VX4_readNote_40 d Q m x0 r2 r5 0 0 S5)))))) ∧ ((r2 = ((-1) : Int)) → B01 0 ∧ Q (.inl (some (vI 0))) S2)))))
theorem JX4_readNote_0 {d : Nat} {S0 : MS} {Q : Out → MS → Prop} (x0 : Nat) (S : MS) (h : VX4_readNote_0 d Q x0 S) : Jw FinM RX4 cX4_readNote 6 (some .boolean) [] yX4_readNote (d + 1) S0 S 0 [(0, vA x0)] [] Q :=
  j_aload_n 0 dX4_readNote_0 rfl (j_iconst dX4_readNote_1 (j_aload_n 0 dX4_readNote_2 rfl (j_getR 4 1 f_RX4_21 dX4_readNote_3 h (fun b1 h => j_getI 7 8 f_RX4_69 dX4_readNote_6 h (fun h => j_iconst dX4_readNote_9 (j_isub dX4_readNote_10 (j_callV (rest := []) 4 [vI 0, vI ((S.I b1 8) - 1)] k_RX4_85 ⟨w_4_121, p_2_4⟩ ⟨_, _, rfl⟩ (by decide) rfl rfl (Nat.le_of_ble_eq_true rfl) dX4_readNote_11 h (kI (fun r2 S2 h => j_istore_n (lv2 := [(1, vI r2), (0, vA x0)]) dX4_readNote_14 (by decide) rfl (j_iload_n 0 dX4_readNote_15 rfl (j_iconst dX4_readNote_16 (j_icmp_ne (tgt := 22) dX4_readNote_17 (by decide) h (fun h => j_aload_n 1 dX4_readNote_22 rfl (j_getR 4 1 f_RX4_21 dX4_readNote_23 h (fun b3 h => j_getR 7 1 f_RX4_113 dX4_readNote_26 h (fun b4 h => j_iload_n 0 dX4_readNote_29 rfl (j_iald dX4_readNote_30 h (fun h => j_callSN (rest := []) [vI (S2.I b4 (r2).toNat)] k_RX4_116 w_2_83 rfl rfl (Nat.le_of_ble_eq_true rfl) dX4_readNote_31 h (kI (fun r5 S5 h => j_istore_n (lv2 := [(2, vI r5), (1, vI r2), (0, vA x0)]) dX4_readNote_34 (by decide) rfl (j_iconst dX4_readNote_35 (j_istore_n (lv2 := [(3, vI 0), (2, vI r5), (1, vI r2), (0, vA x0)]) dX4_readNote_36 (by decide) rfl (j_iconst dX4_readNote_37 (j_istore (lv2 := [(4, vI 0), (3, vI 0), (2, vI r5), (1, vI r2), (0, vA x0)]) dX4_readNote_38 (by decide) rfl (Exists.elim h (fun m h => j_sub [4, 3, 2, 1, 0] rfl (JX4_readNote_40 m _ _ _ _ _ _ h))))))))))))))) (fun h => j_iconst dX4_readNote_20 (j_zret rfl dX4_readNote_21 h))))))) (fun _ _ h => h.elim))))))))
theorem MX4_readNote {d : Nat} {x0 : Nat} {S : MS} {Q : Out → MS → Prop} (h : VX4_readNote_0 d Q x0 S) : Mw hX4_readNote yX4_readNote (d + 1) [vA x0] S Q := Mw.ofJ (by decide) (Nat.le_of_ble_eq_true rfl) (JX4_readNote_0 _ S h)
theorem dX4_readThing_0 : decode cX4_readThing 0 = .ok (.aload_n 0, 1) := by decide +kernel
theorem dX4_readThing_1 : decode cX4_readThing 1 = .ok (.iconst 0, 1) := by decide +kernel
theorem dX4_readThing_2 : decode cX4_readThing 2 = .ok (.aload_n 0, 1) := by decide +kernel
theorem dX4_readThing_3 : decode cX4_readThing 3 = .ok (.getfield 21, 3) := by decide +kernel
theorem dX4_readThing_6 : decode cX4_readThing 6 = .ok (.getfield 107, 3) := by decide +kernel
theorem dX4_readThing_9 : decode cX4_readThing 9 = .ok (.iconst 1, 1) := by decide +kernel
theorem dX4_readThing_10 : decode cX4_readThing 10 = .ok (.isub, 1) := by decide +kernel
theorem dX4_readThing_11 : decode cX4_readThing 11 = .ok (.invokevirtual 85, 3) := by decide +kernel
theorem dX4_readThing_14 : decode cX4_readThing 14 = .ok (.istore_n 3, 1) := by decide +kernel
theorem dX4_readThing_15 : decode cX4_readThing 15 = .ok (.iload_n 3, 1) := by decide +kernel
theorem dX4_readThing_16 : decode cX4_readThing 16 = .ok (.iconst (-1), 1) := by decide +kernel
theorem dX4_readThing_17 : decode cX4_readThing 17 = .ok (.if_icmp .eq 23, 3) := by decide +kernel
theorem dX4_readThing_20 : decode cX4_readThing 20 = .ok (.iload_n 1, 1) := by decide +kernel
theorem dX4_readThing_21 : decode cX4_readThing 21 = .ok (.iload_n 3, 1) := by decide +kernel
theorem dX4_readThing_22 : decode cX4_readThing 22 = .ok (.invokestatic 128, 3) := by decide +kernel
theorem dX4_readThing_25 : decode cX4_readThing 25 = .ok (.iload_n 2, 1) := by decide +kernel
theorem dX4_readThing_26 : decode cX4_readThing 26 = .ok (.if_icmp .eq 14, 3) := by decide +kernel
theorem dX4_readThing_29 : decode cX4_readThing 29 = .ok (.aload_n 0, 1) := by decide +kernel
theorem dX4_readThing_30 : decode cX4_readThing 30 = .ok (.aload_n 0, 1) := by decide +kernel
theorem dX4_readThing_31 : decode cX4_readThing 31 = .ok (.getfield 32, 3) := by decide +kernel
theorem dX4_readThing_34 : decode cX4_readThing 34 = .ok (.invokevirtual 52, 3) := by decide +kernel
theorem dX4_readThing_37 : decode cX4_readThing 37 = .ok (.pop, 1) := by decide +kernel
theorem dX4_readThing_38 : decode cX4_readThing 38 = .ok (.iconst (-1), 1) := by decide +kernel
theorem dX4_readThing_39 : decode cX4_readThing 39 = .ok (.ireturn, 1) := by decide +kernel
theorem dX4_readThing_40 : decode cX4_readThing 40 = .ok (.iload_n 3, 1) := by decide +kernel
theorem dX4_readThing_41 : decode cX4_readThing 41 = .ok (.ireturn, 1) := by decide +kernel
def VX4_readThing_40 (d : Nat) (Q : Out → MS → Prop) (x3 : Int) (S : MS) : Prop :=
  Q (.inl (some (vI x3))) S
theorem JX4_readThing_40 {d : Nat} {S0 : MS} {Q : Out → MS → Prop} (x3 : Int) (S : MS) (h : VX4_readThing_40 d Q x3 S) : Jw FinM RX4 cX4_readThing 4 (some .int) [] yX4_readThing (d + 1) S0 S 40 [(3, vI x3)] [] Q :=
  j_iload_n 0 dX4_readThing_40 rfl (j_iret rfl dX4_readThing_41 h)
def VX4_readThing_0 (d : Nat) (Q : Out → MS → Prop) (x0 : Nat) (x1 : Int) (x2 : Int) (S : MS) : Prop :=
  S.K x0 = 4 ∧ ∃ b1, S.R x0 1 = some b1 ∧ (S.K b1 = 7 ∧ (S.K x0 = 4 ∧ Mw hX4_readNumber yX4_readNumber d [vA x0, vI 0, vI ((S.I b1 7) - 1)] S (oI (fun r2 S2 => (R32 r2 ∧ R32 ((-1) : Int)) ∧ ((r2 = ((-1) : Int)) → VX4_readThing_40 d Q r2 S2) ∧ (¬ (r2 = ((-1) : Int)) → Mw hX10_holds yX10_holds d [vI x1, vI r2] S2 (oI (fun r3 S3 => (R32 r3 ∧ R32 x2) ∧ ((r3 = x2) → VX4_readThing_40 d Q r2 S3) ∧ (¬ (r3 = x2) → S3.K x0 = 4 ∧ (S3.K x0 = 4 ∧ Mw hX4_refuse yX4_refuse d [vA x0, vI (S3.I x0 4)] S3 (oI (fun r4 S4 => Q (.inl (some (vI ((-1))))) S4)))))))))))
theorem JX4_readThing_0 {d : Nat} {S0 : MS} {Q : Out → MS → Prop} (x0 : Nat) (x1 : Int) (x2 : Int) (S : MS) (h : VX4_readThing_0 d Q x0 x1 x2 S) : Jw FinM RX4 cX4_readThing 4 (some .int) [] yX4_readThing (d + 1) S0 S 0 [(0, vA x0), (1, vI x1), (2, vI x2)] [] Q :=
  j_aload_n 0 dX4_readThing_0 rfl (j_iconst dX4_readThing_1 (j_aload_n 0 dX4_readThing_2 rfl (j_getR 4 1 f_RX4_21 dX4_readThing_3 h (fun b1 h => j_getI 7 7 f_RX4_107 dX4_readThing_6 h (fun h => j_iconst dX4_readThing_9 (j_isub dX4_readThing_10 (j_callV (rest := []) 4 [vI 0, vI ((S.I b1 7) - 1)] k_RX4_85 ⟨w_4_121, p_2_4⟩ ⟨_, _, rfl⟩ (by decide) rfl rfl (Nat.le_of_ble_eq_true rfl) dX4_readThing_11 h (kI (fun r2 S2 h => j_istore_n (lv2 := [(3, vI r2), (0, vA x0), (1, vI x1), (2, vI x2)]) dX4_readThing_14 (by decide) rfl (j_iload_n 0 dX4_readThing_15 rfl (j_iconst dX4_readThing_16 (j_icmp_eq (tgt := 40) dX4_readThing_17 (by decide) h (fun h => j_sub [0] rfl (JX4_readThing_40 _ _ h)) (fun h => j_iload_n 2 dX4_readThing_20 rfl (j_iload_n 0 dX4_readThing_21 rfl (j_callSN (rest := []) [vI x1, vI r2] k_RX4_128 w_2_192 rfl rfl (Nat.le_of_ble_eq_true rfl) dX4_readThing_22 h (kI (fun r3 S3 h => j_iload_n 3 dX4_readThing_25 rfl (j_icmp_eq (tgt := 40) dX4_readThing_26 (by decide) h (fun h => j_sub [0] rfl (JX4_readThing_40 _ _ h)) (fun h => j_aload_n 1 dX4_readThing_29 rfl (j_aload_n 1 dX4_readThing_30 rfl (j_getI 4 4 f_RX4_32 dX4_readThing_31 h (fun h => j_callV (rest := []) 4 [vI (S3.I x0 4)] k_RX4_52 ⟨w_4_57, p_2_1⟩ ⟨_, _, rfl⟩ (by decide) rfl rfl (Nat.le_of_ble_eq_true rfl) dX4_readThing_34 h (kI (fun r4 S4 h => j_pop rfl dX4_readThing_37 (j_iconst dX4_readThing_38 (j_iret rfl dX4_readThing_39 h)))) (fun _ _ h => h.elim)))))))))))))))) (fun _ _ h => h.elim))))))))
theorem MX4_readThing {d : Nat} {x0 : Nat} {x1 : Int} {x2 : Int} {S : MS} {Q : Out → MS → Prop} (h : VX4_readThing_0 d Q x0 x1 x2 S) : Mw hX4_readThing yX4_readThing (d + 1) [vA x0, vI x1, vI x2] S Q := Mw.ofJ (by decide) (Nat.le_of_ble_eq_true rfl) (JX4_readThing_0 _ _ _ S h)
theorem dX4_readNumber_0 : decode cX4_readNumber 0 = .ok (.aload_n 0, 1) := by decide +kernel
theorem dX4_readNumber_1 : decode cX4_readNumber 1 = .ok (.invokevirtual 38, 3) := by decide +kernel
theorem dX4_readNumber_4 : decode cX4_readNumber 4 = .ok (.aload_n 0, 1) := by decide +kernel
theorem dX4_readNumber_5 : decode cX4_readNumber 5 = .ok (.aload_n 0, 1) := by decide +kernel
theorem dX4_readNumber_6 : decode cX4_readNumber 6 = .ok (.getfield 29, 3) := by decide +kernel
theorem dX4_readNumber_9 : decode cX4_readNumber 9 = .ok (.putfield 32, 3) := by decide +kernel
theorem dX4_readNumber_12 : decode cX4_readNumber 12 = .ok (.iconst 0, 1) := by decide +kernel
theorem dX4_readNumber_13 : decode cX4_readNumber 13 = .ok (.istore_n 3, 1) := by decide +kernel
theorem dX4_readNumber_14 : decode cX4_readNumber 14 = .ok (.aload_n 0, 1) := by decide +kernel
theorem dX4_readNumber_15 : decode cX4_readNumber 15 = .ok (.getfield 29, 3) := by decide +kernel
theorem dX4_readNumber_18 : decode cX4_readNumber 18 = .ok (.aload_n 0, 1) := by decide +kernel
theorem dX4_readNumber_19 : decode cX4_readNumber 19 = .ok (.getfield 25, 3) := by decide +kernel
theorem dX4_readNumber_22 : decode cX4_readNumber 22 = .ok (.if_icmp .ge 59, 3) := by decide +kernel
theorem dX4_readNumber_25 : decode cX4_readNumber 25 = .ok (.aload_n 0, 1) := by decide +kernel
theorem dX4_readNumber_26 : decode cX4_readNumber 26 = .ok (.getfield 12, 3) := by decide +kernel
theorem dX4_readNumber_29 : decode cX4_readNumber 29 = .ok (.aload_n 0, 1) := by decide +kernel
theorem dX4_readNumber_30 : decode cX4_readNumber 30 = .ok (.getfield 29, 3) := by decide +kernel
theorem dX4_readNumber_33 : decode cX4_readNumber 33 = .ok (.invokevirtual 49, 3) := by decide +kernel
theorem dX4_readNumber_36 : decode cX4_readNumber 36 = .ok (.invokestatic 132, 3) := by decide +kernel
theorem dX4_readNumber_39 : decode cX4_readNumber 39 = .ok (.ifCond .eq 42, 3) := by decide +kernel
theorem dX4_readNumber_42 : decode cX4_readNumber 42 = .ok (.iload_n 3, 1) := by decide +kernel
theorem dX4_readNumber_43 : decode cX4_readNumber 43 = .ok (.sipush 999, 3) := by decide +kernel
theorem dX4_readNumber_46 : decode cX4_readNumber 46 = .ok (.invokestatic 135, 3) := by decide +kernel
theorem dX4_readNumber_49 : decode cX4_readNumber 49 = .ok (.bipush 10, 2) := by decide +kernel
theorem dX4_readNumber_51 : decode cX4_readNumber 51 = .ok (.imul, 1) := by decide +kernel
theorem dX4_readNumber_52 : decode cX4_readNumber 52 = .ok (.aload_n 0, 1) := by decide +kernel
theorem dX4_readNumber_53 : decode cX4_readNumber 53 = .ok (.getfield 12, 3) := by decide +kernel
theorem dX4_readNumber_56 : decode cX4_readNumber 56 = .ok (.aload_n 0, 1) := by decide +kernel
theorem dX4_readNumber_57 : decode cX4_readNumber 57 = .ok (.getfield 29, 3) := by decide +kernel
theorem dX4_readNumber_60 : decode cX4_readNumber 60 = .ok (.invokevirtual 49, 3) := by decide +kernel
theorem dX4_readNumber_63 : decode cX4_readNumber 63 = .ok (.iadd, 1) := by decide +kernel
theorem dX4_readNumber_64 : decode cX4_readNumber 64 = .ok (.bipush 48, 2) := by decide +kernel
theorem dX4_readNumber_66 : decode cX4_readNumber 66 = .ok (.isub, 1) := by decide +kernel
theorem dX4_readNumber_67 : decode cX4_readNumber 67 = .ok (.istore_n 3, 1) := by decide +kernel
theorem dX4_readNumber_68 : decode cX4_readNumber 68 = .ok (.aload_n 0, 1) := by decide +kernel
theorem dX4_readNumber_69 : decode cX4_readNumber 69 = .ok (.dup, 1) := by decide +kernel
theorem dX4_readNumber_70 : decode cX4_readNumber 70 = .ok (.getfield 29, 3) := by decide +kernel
theorem dX4_readNumber_73 : decode cX4_readNumber 73 = .ok (.iconst 1, 1) := by decide +kernel
theorem dX4_readNumber_74 : decode cX4_readNumber 74 = .ok (.iadd, 1) := by decide +kernel
theorem dX4_readNumber_75 : decode cX4_readNumber 75 = .ok (.putfield 29, 3) := by decide +kernel
theorem dX4_readNumber_78 : decode cX4_readNumber 78 = .ok (.goto (-64), 3) := by decide +kernel
theorem dX4_readNumber_81 : decode cX4_readNumber 81 = .ok (.aload_n 0, 1) := by decide +kernel
theorem dX4_readNumber_82 : decode cX4_readNumber 82 = .ok (.getfield 29, 3) := by decide +kernel
theorem dX4_readNumber_85 : decode cX4_readNumber 85 = .ok (.aload_n 0, 1) := by decide +kernel
theorem dX4_readNumber_86 : decode cX4_readNumber 86 = .ok (.getfield 32, 3) := by decide +kernel
theorem dX4_readNumber_89 : decode cX4_readNumber 89 = .ok (.isub, 1) := by decide +kernel
theorem dX4_readNumber_90 : decode cX4_readNumber 90 = .ok (.istore 4, 2) := by decide +kernel
theorem dX4_readNumber_92 : decode cX4_readNumber 92 = .ok (.iload 4, 2) := by decide +kernel
theorem dX4_readNumber_94 : decode cX4_readNumber 94 = .ok (.iconst 1, 1) := by decide +kernel
theorem dX4_readNumber_95 : decode cX4_readNumber 95 = .ok (.if_icmp .lt 19, 3) := by decide +kernel
theorem dX4_readNumber_98 : decode cX4_readNumber 98 = .ok (.iload 4, 2) := by decide +kernel
theorem dX4_readNumber_100 : decode cX4_readNumber 100 = .ok (.iconst 3, 1) := by decide +kernel
theorem dX4_readNumber_101 : decode cX4_readNumber 101 = .ok (.if_icmp .gt 13, 3) := by decide +kernel
theorem dX4_readNumber_104 : decode cX4_readNumber 104 = .ok (.iload_n 3, 1) := by decide +kernel
theorem dX4_readNumber_105 : decode cX4_readNumber 105 = .ok (.iload_n 1, 1) := by decide +kernel
theorem dX4_readNumber_106 : decode cX4_readNumber 106 = .ok (.if_icmp .lt 8, 3) := by decide +kernel
theorem dX4_readNumber_109 : decode cX4_readNumber 109 = .ok (.iload_n 3, 1) := by decide +kernel
theorem dX4_readNumber_110 : decode cX4_readNumber 110 = .ok (.iload_n 2, 1) := by decide +kernel
theorem dX4_readNumber_111 : decode cX4_readNumber 111 = .ok (.if_icmp .le 14, 3) := by decide +kernel
theorem dX4_readNumber_114 : decode cX4_readNumber 114 = .ok (.aload_n 0, 1) := by decide +kernel
theorem dX4_readNumber_115 : decode cX4_readNumber 115 = .ok (.aload_n 0, 1) := by decide +kernel
theorem dX4_readNumber_116 : decode cX4_readNumber 116 = .ok (.getfield 32, 3) := by decide +kernel
theorem dX4_readNumber_119 : decode cX4_readNumber 119 = .ok (.invokevirtual 52, 3) := by decide +kernel
theorem dX4_readNumber_122 : decode cX4_readNumber 122 = .ok (.pop, 1) := by decide +kernel
theorem dX4_readNumber_123 : decode cX4_readNumber 123 = .ok (.iconst (-1), 1) := by decide +kernel
theorem dX4_readNumber_124 : decode cX4_readNumber 124 = .ok (.ireturn, 1) := by decide +kernel
theorem dX4_readNumber_125 : decode cX4_readNumber 125 = .ok (.iload_n 3, 1) := by decide +kernel
theorem dX4_readNumber_126 : decode cX4_readNumber 126 = .ok (.ireturn, 1) := by decide +kernel
def VX4_readNumber_114 (d : Nat) (Q : Out → MS → Prop) (x0 : Nat) (S : MS) : Prop :=
  S.K x0 = 4 ∧ (S.K x0 = 4 ∧ Mw hX4_refuse yX4_refuse d [vA x0, vI (S.I x0 4)] S (oI (fun r1 S1 => Q (.inl (some (vI ((-1))))) S1)))
theorem JX4_readNumber_114 {d : Nat} {S0 : MS} {Q : Out → MS → Prop} (x0 : Nat) (S : MS) (h : VX4_readNumber_114 d Q x0 S) : Jw FinM RX4 cX4_readNumber 5 (some .int) [] yX4_readNumber (d + 1) S0 S 114 [(0, vA x0)] [] Q :=
  j_aload_n 0 dX4_readNumber_114 rfl (j_aload_n 0 dX4_readNumber_115 rfl (j_getI 4 4 f_RX4_32 dX4_readNumber_116 h (fun h => j_callV (rest := []) 4 [vI (S.I x0 4)] k_RX4_52 ⟨w_4_57, p_2_1⟩ ⟨_, _, rfl⟩ (by decide) rfl rfl (Nat.le_of_ble_eq_true rfl) dX4_readNumber_119 h (kI (fun r1 S1 h => j_pop rfl dX4_readNumber_122 (j_iconst dX4_readNumber_123 (j_iret rfl dX4_readNumber_124 h)))) (fun _ _ h => h.elim))))
def VX4_readNumber_81 (d : Nat) (Q : Out → MS → Prop) (x0 : Nat) (x1 : Int) (x2 : Int) (x3 : Int) (S : MS) : Prop :=
  S.K x0 = 4 ∧ (S.K x0 = 4 ∧ ((R32 ((S.I x0 3) - (S.I x0 4)) ∧ R32 (1 : Int)) ∧ ((((S.I x0 3) - (S.I x0 4)) < (1 : Int)) → VX4_readNumber_114 d Q x0 S) ∧ (¬ (((S.I x0 3) - (S.I x0 4)) < (1 : Int)) → (R32 ((S.I x0 3) - (S.I x0 4)) ∧ R32 (3 : Int)) ∧ (((3 : Int) < ((S.I x0 3) - (S.I x0 4))) → VX4_readNumber_114 d Q x0 S) ∧ (¬ ((3 : Int) < ((S.I x0 3) - (S.I x0 4))) → (R32 x3 ∧ R32 x1) ∧ ((x3 < x1) → VX4_readNumber_114 d Q x0 S) ∧ (¬ (x3 < x1) → (R32 x3 ∧ R32 x2) ∧ ((x3 ≤ x2) → Q (.inl (some (vI x3))) S) ∧ (¬ (x3 ≤ x2) → VX4_readNumber_114 d Q x0 S))))))
theorem JX4_readNumber_81 {d : Nat} {S0 : MS} {Q : Out → MS → Prop} (x0 : Nat) (x1 : Int) (x2 : Int) (x3 : Int) (S : MS) (h : VX4_readNumber_81 d Q x0 x1 x2 x3 S) : Jw FinM RX4 cX4_readNumber 5 (some .int) [] yX4_readNumber (d + 1) S0 S 81 [(0, vA x0), (1, vI x1), (2, vI x2), (3, vI x3)] [] Q :=
  j_aload_n 0 dX4_readNumber_81 rfl (j_getI 4 3 f_RX4_29 dX4_readNumber_82 h (fun h => j_aload_n 0 dX4_readNumber_85 rfl (j_getI 4 4 f_RX4_32 dX4_readNumber_86 h (fun h => j_isub dX4_readNumber_89 (j_istore (lv2 := [(4, vI ((S.I x0 3) - (S.I x0 4))), (0, vA x0), (1, vI x1), (2, vI x2), (3, vI x3)]) dX4_readNumber_90 (by decide) rfl (j_iload 0 dX4_readNumber_92 rfl (j_iconst dX4_readNumber_94 (j_icmp_lt (tgt := 114) dX4_readNumber_95 (by decide) h (fun h => j_sub [1] rfl (JX4_readNumber_114 _ _ h)) (fun h => j_iload 0 dX4_readNumber_98 rfl (j_iconst dX4_readNumber_100 (j_icmp_gt (tgt := 114) dX4_readNumber_101 (by decide) h (fun h => j_sub [1] rfl (JX4_readNumber_114 _ _ h)) (fun h => j_iload_n 4 dX4_readNumber_104 rfl (j_iload_n 2 dX4_readNumber_105 rfl (j_icmp_lt (tgt := 114) dX4_readNumber_106 (by decide) h (fun h => j_sub [1] rfl (JX4_readNumber_114 _ _ h)) (fun h => j_iload_n 4 dX4_readNumber_109 rfl (j_iload_n 3 dX4_readNumber_110 rfl (j_icmp_le (tgt := 125) dX4_readNumber_111 (by decide) h (fun h => j_iload_n 4 dX4_readNumber_125 rfl (j_iret rfl dX4_readNumber_126 h)) (fun h => j_sub [1] rfl (JX4_readNumber_114 _ _ h)))))))))))))))))))
def VX4_readNumber_14 (d : Nat) (Q : Out → MS → Prop) : Nat → Nat → Int → Int → Int → MS → Prop
  | 0, _, _, _, _, _ => False
  | n + 1, x0, x1, x2, x3, S => S.K x0 = 4 ∧ (S.K x0 = 4 ∧ ((R32 (S.I x0 3) ∧ R32 (S.I x0 2)) ∧ (((S.I x0 2) ≤ (S.I x0 3)) → VX4_readNumber_81 d Q x0 x1 x2 x3 S) ∧ (¬ ((S.I x0 2) ≤ (S.I x0 3)) → S.K x0 = 4 ∧ ∃ b1, S.R x0 0 = some b1 ∧ (S.K x0 = 4 ∧ (S.K b1 = 8 ∧ Mw hX8_at yX8_at d [vA b1, vI (S.I x0 3)] S (oI (fun r2 S2 => Mw hX4_isDigit yX4_isDigit d [vI r2] S2 (oI (fun r3 S3 => R32 r3 ∧ ((r3 = 0) → VX4_readNumber_81 d Q x0 x1 x2 x3 S3) ∧ (¬ (r3 = 0) → (R32 x3 ∧ R32 (999 : Int)) ∧ (S3.K x0 = 4 ∧ ∃ b4, S3.R x0 0 = some b4 ∧ (S3.K x0 = 4 ∧ (S3.K b4 = 8 ∧ Mw hX8_at yX8_at d [vA b4, vI (S3.I x0 3)] S3 (oI (fun r5 S5 => S5.K x0 = 4 ∧ (S5.K x0 = 4 ∧ ((VX4_readNumber_14 d Q n) x0 x1 x2 ((((min x3 (999 : Int)) * 10) + r5) - 48) (S5.setI x0 3 ((S5.I x0 3) + 1)))))))))))))))))))
theorem JX4_readNumber_14 {d : Nat} {S0 : MS} {Q : Out → MS → Prop} : ∀ (n : Nat) (x0 : Nat) (x1 : Int) (x2 : Int) (x3 : Int) (S : MS), VX4_readNumber_14 d Q n x0 x1 x2 x3 S → Jw FinM RX4 cX4_readNumber 5 (some .int) [] yX4_readNumber (d + 1) S0 S 14 [(0, vA x0), (1, vI x1), (2, vI x2), (3, vI x3)] [] Q := by
  intro n
  induction n with
  | zero => intro x0 x1 x2 x3 S h; exact h.elim
  | succ n ih =>
    intro x0 x1 x2 x3 S h
    exact j_aload_n 0 dX4_readNumber_14 rfl (j_getI 4 3 f_RX4_29 dX4_readNumber_15 h (fun h => j_aload_n 0 dX4_readNumber_18 rfl (j_getI 4 2 f_RX4_25 dX4_readNumber_19 h (fun h => j_icmp_ge (tgt := 81) dX4_readNumber_22 (by decide) h (fun h => JX4_readNumber_81 _ _ _ _ _ h) (fun h => j_aload_n 0 dX4_readNumber_25 rfl (j_getR 4 0 f_RX4_12 dX4_readNumber_26 h (fun b1 h => j_aload_n 0 dX4_readNumber_29 rfl (j_getI 4 3 f_RX4_29 dX4_readNumber_30 h (fun h => j_callV (rest := []) 8 [vI (S.I x0 3)] k_RX4_49 ⟨w_4_48, w_4_49⟩ ⟨_, _, rfl⟩ (by decide) rfl rfl (Nat.le_of_ble_eq_true rfl) dX4_readNumber_33 h (kI (fun r2 S2 h => j_callS (rest := []) [vI r2] k_RX4_132 w_4_124 rfl rfl (Nat.le_of_ble_eq_true rfl) dX4_readNumber_36 h (kI (fun r3 S3 h => j_if_eq (tgt := 81) dX4_readNumber_39 (by decide) h (fun h => JX4_readNumber_81 _ _ _ _ _ h) (fun h => j_iload_n 3 dX4_readNumber_42 rfl (j_sipush dX4_readNumber_43 rfl (j_mmin w_4_126 w_2_64 w_1_16 w_mmin (Nat.le_of_ble_eq_true rfl) dX4_readNumber_46 h (fun h => j_bipush dX4_readNumber_49 rfl (j_imul dX4_readNumber_51 (j_aload_n 0 dX4_readNumber_52 rfl (j_getR 4 0 f_RX4_12 dX4_readNumber_53 h (fun b4 h => j_aload_n 0 dX4_readNumber_56 rfl (j_getI 4 3 f_RX4_29 dX4_readNumber_57 h (fun h => j_callV (rest := [vI ((min x3 (999 : Int)) * 10)]) 8 [vI (S3.I x0 3)] k_RX4_49 ⟨w_4_48, w_4_49⟩ ⟨_, _, rfl⟩ (by decide) rfl rfl (Nat.le_of_ble_eq_true rfl) dX4_readNumber_60 h (kI (fun r5 S5 h => j_iadd dX4_readNumber_63 (j_bipush dX4_readNumber_64 rfl (j_isub dX4_readNumber_66 (j_istore_n (lv2 := [(3, vI ((((min x3 (999 : Int)) * 10) + r5) - 48)), (0, vA x0), (1, vI x1), (2, vI x2)]) dX4_readNumber_67 (by decide) rfl (j_aload_n 1 dX4_readNumber_68 rfl (j_dup rfl dX4_readNumber_69 (j_getI 4 3 f_RX4_29 dX4_readNumber_70 h (fun h => j_iconst dX4_readNumber_73 (j_iadd dX4_readNumber_74 (j_putI 4 3 f_RX4_29 dX4_readNumber_75 h (fun h => j_goto (tgt := 14) dX4_readNumber_78 (by decide) (j_sub [1, 2, 3, 0] rfl (ih _ _ _ _ _ h)))))))))))))) (fun _ _ h => h.elim))))))))))))) (fun _ _ h => h.elim))) (fun _ _ h => h.elim))))))))))
def VX4_readNumber_0 (d : Nat) (Q : Out → MS → Prop) (x0 : Nat) (x1 : Int) (x2 : Int) (S : MS) : Prop :=
  S.K x0 = 4 ∧ Mw hX4_skipBlanks yX4_skipBlanks d [vA x0] S (oV (fun S1 => S1.K x0 = 4 ∧ (S1.K x0 = 4 ∧ (∃ m, VX4_readNumber_14 d Q m x0 x1 x2 0 (S1.setI x0 4 (S1.I x0 3))))))
theorem JX4_readNumber_0 {d : Nat} {S0 : MS} {Q : Out → MS → Prop} (x0 : Nat) (x1 : Int) (x2 : Int) (S : MS) (h : VX4_readNumber_0 d Q x0 x1 x2 S) : Jw FinM RX4 cX4_readNumber 5 (some .int) [] yX4_readNumber (d + 1) S0 S 0 [(0, vA x0), (1, vI x1), (2, vI x2)] [] Q :=
  j_aload_n 0 dX4_readNumber_0 rfl (j_callV (rest := []) 4 [] k_RX4_38 ⟨w_4_45, p_1_15⟩ ⟨_, _, rfl⟩ (by decide) rfl rfl (Nat.le_of_ble_eq_true rfl) dX4_readNumber_1 h (kV (fun S1 h => j_aload_n 0 dX4_readNumber_4 rfl (j_aload_n 0 dX4_readNumber_5 rfl (j_getI 4 3 f_RX4_29 dX4_readNumber_6 h (fun h => j_putI 4 4 f_RX4_32 dX4_readNumber_9 h (fun h => j_iconst dX4_readNumber_12 (j_istore_n (lv2 := [(3, vI 0), (0, vA x0), (1, vI x1), (2, vI x2)]) dX4_readNumber_13 (by decide) rfl (Exists.elim h (fun m h => j_sub [1, 2, 3, 0] rfl (JX4_readNumber_14 m _ _ _ _ _ h)))))))))) (fun _ _ h => h.elim))
theorem MX4_readNumber {d : Nat} {x0 : Nat} {x1 : Int} {x2 : Int} {S : MS} {Q : Out → MS → Prop} (h : VX4_readNumber_0 d Q x0 x1 x2 S) : Mw hX4_readNumber yX4_readNumber (d + 1) [vA x0, vI x1, vI x2] S Q := Mw.ofJ (by decide) (Nat.le_of_ble_eq_true rfl) (JX4_readNumber_0 _ _ _ S h)
theorem dX4_readWord_0 : decode cX4_readWord 0 = .ok (.aload_n 0, 1) := by decide +kernel
theorem dX4_readWord_1 : decode cX4_readWord 1 = .ok (.getfield 29, 3) := by decide +kernel
theorem dX4_readWord_4 : decode cX4_readWord 4 = .ok (.istore_n 2, 1) := by decide +kernel
theorem dX4_readWord_5 : decode cX4_readWord 5 = .ok (.iload_n 2, 1) := by decide +kernel
theorem dX4_readWord_6 : decode cX4_readWord 6 = .ok (.aload_n 0, 1) := by decide +kernel
theorem dX4_readWord_7 : decode cX4_readWord 7 = .ok (.getfield 25, 3) := by decide +kernel
theorem dX4_readWord_10 : decode cX4_readWord 10 = .ok (.if_icmp .ge 23, 3) := by decide +kernel
theorem dX4_readWord_13 : decode cX4_readWord 13 = .ok (.aload_n 0, 1) := by decide +kernel
theorem dX4_readWord_14 : decode cX4_readWord 14 = .ok (.getfield 12, 3) := by decide +kernel
theorem dX4_readWord_17 : decode cX4_readWord 17 = .ok (.iload_n 2, 1) := by decide +kernel
theorem dX4_readWord_18 : decode cX4_readWord 18 = .ok (.invokevirtual 49, 3) := by decide +kernel
theorem dX4_readWord_21 : decode cX4_readWord 21 = .ok (.invokestatic 140, 3) := by decide +kernel
theorem dX4_readWord_24 : decode cX4_readWord 24 = .ok (.ifCond .eq 9, 3) := by decide +kernel
theorem dX4_readWord_27 : decode cX4_readWord 27 = .ok (.iinc 2 1, 3) := by decide +kernel
theorem dX4_readWord_30 : decode cX4_readWord 30 = .ok (.goto (-25), 3) := by decide +kernel
theorem dX4_readWord_33 : decode cX4_readWord 33 = .ok (.iload_n 2, 1) := by decide +kernel
theorem dX4_readWord_34 : decode cX4_readWord 34 = .ok (.aload_n 0, 1) := by decide +kernel
theorem dX4_readWord_35 : decode cX4_readWord 35 = .ok (.getfield 29, 3) := by decide +kernel
theorem dX4_readWord_38 : decode cX4_readWord 38 = .ok (.isub, 1) := by decide +kernel
theorem dX4_readWord_39 : decode cX4_readWord 39 = .ok (.aload_n 1, 1) := by decide +kernel
theorem dX4_readWord_40 : decode cX4_readWord 40 = .ok (.invokevirtual 143, 3) := by decide +kernel
theorem dX4_readWord_43 : decode cX4_readWord 43 = .ok (.if_icmp .eq 5, 3) := by decide +kernel
theorem dX4_readWord_46 : decode cX4_readWord 46 = .ok (.iconst 0, 1) := by decide +kernel
theorem dX4_readWord_47 : decode cX4_readWord 47 = .ok (.ireturn, 1) := by decide +kernel
theorem dX4_readWord_48 : decode cX4_readWord 48 = .ok (.iconst 0, 1) := by decide +kernel
theorem dX4_readWord_49 : decode cX4_readWord 49 = .ok (.istore_n 3, 1) := by decide +kernel
theorem dX4_readWord_50 : decode cX4_readWord 50 = .ok (.iload_n 3, 1) := by decide +kernel
theorem dX4_readWord_51 : decode cX4_readWord 51 = .ok (.aload_n 1, 1) := by decide +kernel
theorem dX4_readWord_52 : decode cX4_readWord 52 = .ok (.invokevirtual 143, 3) := by decide +kernel
theorem dX4_readWord_55 : decode cX4_readWord 55 = .ok (.if_icmp .ge 32, 3) := by decide +kernel
theorem dX4_readWord_58 : decode cX4_readWord 58 = .ok (.aload_n 0, 1) := by decide +kernel
theorem dX4_readWord_59 : decode cX4_readWord 59 = .ok (.getfield 12, 3) := by decide +kernel
theorem dX4_readWord_62 : decode cX4_readWord 62 = .ok (.aload_n 0, 1) := by decide +kernel
theorem dX4_readWord_63 : decode cX4_readWord 63 = .ok (.getfield 29, 3) := by decide +kernel
theorem dX4_readWord_66 : decode cX4_readWord 66 = .ok (.iload_n 3, 1) := by decide +kernel
theorem dX4_readWord_67 : decode cX4_readWord 67 = .ok (.iadd, 1) := by decide +kernel
theorem dX4_readWord_68 : decode cX4_readWord 68 = .ok (.invokevirtual 49, 3) := by decide +kernel
theorem dX4_readWord_71 : decode cX4_readWord 71 = .ok (.aload_n 1, 1) := by decide +kernel
theorem dX4_readWord_72 : decode cX4_readWord 72 = .ok (.iload_n 3, 1) := by decide +kernel
theorem dX4_readWord_73 : decode cX4_readWord 73 = .ok (.invokevirtual 147, 3) := by decide +kernel
theorem dX4_readWord_76 : decode cX4_readWord 76 = .ok (.if_icmp .eq 5, 3) := by decide +kernel
theorem dX4_readWord_79 : decode cX4_readWord 79 = .ok (.iconst 0, 1) := by decide +kernel
theorem dX4_readWord_80 : decode cX4_readWord 80 = .ok (.ireturn, 1) := by decide +kernel
theorem dX4_readWord_81 : decode cX4_readWord 81 = .ok (.iinc 3 1, 3) := by decide +kernel
theorem dX4_readWord_84 : decode cX4_readWord 84 = .ok (.goto (-34), 3) := by decide +kernel
theorem dX4_readWord_87 : decode cX4_readWord 87 = .ok (.aload_n 0, 1) := by decide +kernel
theorem dX4_readWord_88 : decode cX4_readWord 88 = .ok (.iload_n 2, 1) := by decide +kernel
theorem dX4_readWord_89 : decode cX4_readWord 89 = .ok (.putfield 29, 3) := by decide +kernel
theorem dX4_readWord_92 : decode cX4_readWord 92 = .ok (.iconst 1, 1) := by decide +kernel
theorem dX4_readWord_93 : decode cX4_readWord 93 = .ok (.ireturn, 1) := by decide +kernel
def VX4_readWord_50 (d : Nat) (Q : Out → MS → Prop) : Nat → Nat → Nat → Int → Int → MS → Prop
  | 0, _, _, _, _, _ => False
  | n + 1, x0, x1, x2, x3, S => (∃ i, i < 8 ∧ x1 = S.T i) ∧ Mw hJ0_length_8abf5 yJ0_length_8abf5 d [vA x1] S (oI (fun r1 S1 => (R32 x3 ∧ R32 r1) ∧ ((r1 ≤ x3) → S1.K x0 = 4 ∧ (B01 1 ∧ Q (.inl (some (vI 1))) (S1.setI x0 3 x2))) ∧ (¬ (r1 ≤ x3) → S1.K x0 = 4 ∧ ∃ b2, S1.R x0 0 = some b2 ∧ (S1.K x0 = 4 ∧ (S1.K b2 = 8 ∧ Mw hX8_at yX8_at d [vA b2, vI ((S1.I x0 3) + x3)] S1 (oI (fun r3 S3 => (∃ i, i < 8 ∧ x1 = S3.T i) ∧ Mw hJ0_charAt_5068e yJ0_charAt_5068e d [vA x1, vI x3] S3 (oI (fun r4 S4 => (R32 r3 ∧ R32 r4) ∧ ((r3 = r4) → (VX4_readWord_50 d Q n) x0 x1 x2 (x3 + 1) S4) ∧ (¬ (r3 = r4) → B01 0 ∧ Q (.inl (some (vI 0))) S4))))))))))
theorem JX4_readWord_50 {d : Nat} {S0 : MS} {Q : Out → MS → Prop} : ∀ (n : Nat) (x0 : Nat) (x1 : Nat) (x2 : Int) (x3 : Int) (S : MS), VX4_readWord_50 d Q n x0 x1 x2 x3 S → Jw FinM RX4 cX4_readWord 4 (some .boolean) [] yX4_readWord (d + 1) S0 S 50 [(0, vA x0), (1, vA x1), (2, vI x2), (3, vI x3)] [] Q := by
  intro n
  induction n with
  | zero => intro x0 x1 x2 x3 S h; exact h.elim
  | succ n ih =>
    intro x0 x1 x2 x3 S h
    exact j_iload_n 3 dX4_readWord_50 rfl (j_aload_n 1 dX4_readWord_51 rfl (j_callT (rest := [vI x3]) [] k_RX4_143 ⟨w_4_68, w_4_69⟩ rfl rfl rfl (Nat.le_of_ble_eq_true rfl) dX4_readWord_52 h (kI (fun r1 S1 h => j_icmp_ge (tgt := 87) dX4_readWord_55 (by decide) h (fun h => j_aload_n 0 dX4_readWord_87 rfl (j_iload_n 2 dX4_readWord_88 rfl (j_putI 4 3 f_RX4_29 dX4_readWord_89 h (fun h => j_iconst dX4_readWord_92 (j_zret rfl dX4_readWord_93 h))))) (fun h => j_aload_n 0 dX4_readWord_58 rfl (j_getR 4 0 f_RX4_12 dX4_readWord_59 h (fun b2 h => j_aload_n 0 dX4_readWord_62 rfl (j_getI 4 3 f_RX4_29 dX4_readWord_63 h (fun h => j_iload_n 3 dX4_readWord_66 rfl (j_iadd dX4_readWord_67 (j_callV (rest := []) 8 [vI ((S1.I x0 3) + x3)] k_RX4_49 ⟨w_4_48, w_4_49⟩ ⟨_, _, rfl⟩ (by decide) rfl rfl (Nat.le_of_ble_eq_true rfl) dX4_readWord_68 h (kI (fun r3 S3 h => j_aload_n 1 dX4_readWord_71 rfl (j_iload_n 3 dX4_readWord_72 rfl (j_callT (rest := [vI r3]) [vI x3] k_RX4_147 ⟨w_4_78, w_4_79⟩ rfl rfl rfl (Nat.le_of_ble_eq_true rfl) dX4_readWord_73 h (kI (fun r4 S4 h => j_icmp_eq (tgt := 81) dX4_readWord_76 (by decide) h (fun h => j_iinc 3 (lv2 := [(3, vI (x3 + 1)), (0, vA x0), (1, vA x1), (2, vI x2)]) dX4_readWord_81 rfl (by decide) rfl (j_goto (tgt := 50) dX4_readWord_84 (by decide) (j_sub [1, 2, 3, 0] rfl (ih _ _ _ _ _ h)))) (fun h => j_iconst dX4_readWord_79 (j_zret rfl dX4_readWord_80 h)))))))) (fun _ _ h => h.elim))))))))))))
def VX4_readWord_33 (d : Nat) (Q : Out → MS → Prop) (x0 : Nat) (x1 : Nat) (x2 : Int) (S : MS) : Prop :=
  S.K x0 = 4 ∧ ((∃ i, i < 8 ∧ x1 = S.T i) ∧ Mw hJ0_length_8abf5 yJ0_length_8abf5 d [vA x1] S (oI (fun r1 S1 => (R32 (x2 - (S.I x0 3)) ∧ R32 r1) ∧ (((x2 - (S.I x0 3)) = r1) → ∃ m, VX4_readWord_50 d Q m x0 x1 x2 0 S1) ∧ (¬ ((x2 - (S.I x0 3)) = r1) → B01 0 ∧ Q (.inl (some (vI 0))) S1))))
theorem JX4_readWord_33 {d : Nat} {S0 : MS} {Q : Out → MS → Prop} (x0 : Nat) (x1 : Nat) (x2 : Int) (S : MS) (h : VX4_readWord_33 d Q x0 x1 x2 S) : Jw FinM RX4 cX4_readWord 4 (some .boolean) [] yX4_readWord (d + 1) S0 S 33 [(0, vA x0), (1, vA x1), (2, vI x2)] [] Q :=
  j_iload_n 2 dX4_readWord_33 rfl (j_aload_n 0 dX4_readWord_34 rfl (j_getI 4 3 f_RX4_29 dX4_readWord_35 h (fun h => j_isub dX4_readWord_38 (j_aload_n 1 dX4_readWord_39 rfl (j_callT (rest := [vI (x2 - (S.I x0 3))]) [] k_RX4_143 ⟨w_4_68, w_4_69⟩ rfl rfl rfl (Nat.le_of_ble_eq_true rfl) dX4_readWord_40 h (kI (fun r1 S1 h => j_icmp_eq (tgt := 48) dX4_readWord_43 (by decide) h (fun h => j_iconst dX4_readWord_48 (j_istore_n (lv2 := [(3, vI 0), (0, vA x0), (1, vA x1), (2, vI x2)]) dX4_readWord_49 (by decide) rfl (Exists.elim h (fun m h => j_sub [1, 2, 3, 0] rfl (JX4_readWord_50 m _ _ _ _ _ h))))) (fun h => j_iconst dX4_readWord_46 (j_zret rfl dX4_readWord_47 h)))))))))
def VX4_readWord_5 (d : Nat) (Q : Out → MS → Prop) : Nat → Nat → Nat → Int → MS → Prop
  | 0, _, _, _, _ => False
  | n + 1, x0, x1, x2, S => S.K x0 = 4 ∧ ((R32 x2 ∧ R32 (S.I x0 2)) ∧ (((S.I x0 2) ≤ x2) → VX4_readWord_33 d Q x0 x1 x2 S) ∧ (¬ ((S.I x0 2) ≤ x2) → S.K x0 = 4 ∧ ∃ b1, S.R x0 0 = some b1 ∧ (S.K b1 = 8 ∧ Mw hX8_at yX8_at d [vA b1, vI x2] S (oI (fun r2 S2 => Mw hX4_isLetter yX4_isLetter d [vI r2] S2 (oI (fun r3 S3 => R32 r3 ∧ ((r3 = 0) → VX4_readWord_33 d Q x0 x1 x2 S3) ∧ (¬ (r3 = 0) → (VX4_readWord_5 d Q n) x0 x1 (x2 + 1) S3))))))))
theorem JX4_readWord_5 {d : Nat} {S0 : MS} {Q : Out → MS → Prop} : ∀ (n : Nat) (x0 : Nat) (x1 : Nat) (x2 : Int) (S : MS), VX4_readWord_5 d Q n x0 x1 x2 S → Jw FinM RX4 cX4_readWord 4 (some .boolean) [] yX4_readWord (d + 1) S0 S 5 [(0, vA x0), (1, vA x1), (2, vI x2)] [] Q := by
  intro n
  induction n with
  | zero => intro x0 x1 x2 S h; exact h.elim
  | succ n ih =>
    intro x0 x1 x2 S h
    exact j_iload_n 2 dX4_readWord_5 rfl (j_aload_n 0 dX4_readWord_6 rfl (j_getI 4 2 f_RX4_25 dX4_readWord_7 h (fun h => j_icmp_ge (tgt := 33) dX4_readWord_10 (by decide) h (fun h => JX4_readWord_33 _ _ _ _ h) (fun h => j_aload_n 0 dX4_readWord_13 rfl (j_getR 4 0 f_RX4_12 dX4_readWord_14 h (fun b1 h => j_iload_n 2 dX4_readWord_17 rfl (j_callV (rest := []) 8 [vI x2] k_RX4_49 ⟨w_4_48, w_4_49⟩ ⟨_, _, rfl⟩ (by decide) rfl rfl (Nat.le_of_ble_eq_true rfl) dX4_readWord_18 h (kI (fun r2 S2 h => j_callS (rest := []) [vI r2] k_RX4_140 w_4_65 rfl rfl (Nat.le_of_ble_eq_true rfl) dX4_readWord_21 h (kI (fun r3 S3 h => j_if_eq (tgt := 33) dX4_readWord_24 (by decide) h (fun h => JX4_readWord_33 _ _ _ _ h) (fun h => j_iinc 2 (lv2 := [(2, vI (x2 + 1)), (0, vA x0), (1, vA x1)]) dX4_readWord_27 rfl (by decide) rfl (j_goto (tgt := 5) dX4_readWord_30 (by decide) (j_sub [1, 2, 0] rfl (ih _ _ _ _ h)))))) (fun _ _ h => h.elim))) (fun _ _ h => h.elim))))))))
def VX4_readWord_0 (d : Nat) (Q : Out → MS → Prop) (x0 : Nat) (x1 : Nat) (S : MS) : Prop :=
  S.K x0 = 4 ∧ (∃ m, VX4_readWord_5 d Q m x0 x1 (S.I x0 3) S)
theorem JX4_readWord_0 {d : Nat} {S0 : MS} {Q : Out → MS → Prop} (x0 : Nat) (x1 : Nat) (S : MS) (h : VX4_readWord_0 d Q x0 x1 S) : Jw FinM RX4 cX4_readWord 4 (some .boolean) [] yX4_readWord (d + 1) S0 S 0 [(0, vA x0), (1, vA x1)] [] Q :=
  j_aload_n 0 dX4_readWord_0 rfl (j_getI 4 3 f_RX4_29 dX4_readWord_1 h (fun h => j_istore_n (lv2 := [(2, vI (S.I x0 3)), (0, vA x0), (1, vA x1)]) dX4_readWord_4 (by decide) rfl (Exists.elim h (fun m h => j_sub [1, 2, 0] rfl (JX4_readWord_5 m _ _ _ _ h)))))
theorem MX4_readWord {d : Nat} {x0 : Nat} {x1 : Nat} {S : MS} {Q : Out → MS → Prop} (h : VX4_readWord_0 d Q x0 x1 S) : Mw hX4_readWord yX4_readWord (d + 1) [vA x0, vA x1] S Q := Mw.ofJ (by decide) (Nat.le_of_ble_eq_true rfl) (JX4_readWord_0 _ _ S h)
theorem dX4_skipBlanks_0 : decode cX4_skipBlanks 0 = .ok (.aload_n 0, 1) := by decide +kernel
theorem dX4_skipBlanks_1 : decode cX4_skipBlanks 1 = .ok (.getfield 29, 3) := by decide +kernel
theorem dX4_skipBlanks_4 : decode cX4_skipBlanks 4 = .ok (.aload_n 0, 1) := by decide +kernel
theorem dX4_skipBlanks_5 : decode cX4_skipBlanks 5 = .ok (.getfield 25, 3) := by decide +kernel
theorem dX4_skipBlanks_8 : decode cX4_skipBlanks 8 = .ok (.if_icmp .ge 32, 3) := by decide +kernel
theorem dX4_skipBlanks_11 : decode cX4_skipBlanks 11 = .ok (.aload_n 0, 1) := by decide +kernel
theorem dX4_skipBlanks_12 : decode cX4_skipBlanks 12 = .ok (.getfield 12, 3) := by decide +kernel
theorem dX4_skipBlanks_15 : decode cX4_skipBlanks 15 = .ok (.aload_n 0, 1) := by decide +kernel
theorem dX4_skipBlanks_16 : decode cX4_skipBlanks 16 = .ok (.getfield 29, 3) := by decide +kernel
theorem dX4_skipBlanks_19 : decode cX4_skipBlanks 19 = .ok (.invokevirtual 49, 3) := by decide +kernel
theorem dX4_skipBlanks_22 : decode cX4_skipBlanks 22 = .ok (.bipush 32, 2) := by decide +kernel
theorem dX4_skipBlanks_24 : decode cX4_skipBlanks 24 = .ok (.if_icmp .ne 16, 3) := by decide +kernel
theorem dX4_skipBlanks_27 : decode cX4_skipBlanks 27 = .ok (.aload_n 0, 1) := by decide +kernel
theorem dX4_skipBlanks_28 : decode cX4_skipBlanks 28 = .ok (.dup, 1) := by decide +kernel
theorem dX4_skipBlanks_29 : decode cX4_skipBlanks 29 = .ok (.getfield 29, 3) := by decide +kernel
theorem dX4_skipBlanks_32 : decode cX4_skipBlanks 32 = .ok (.iconst 1, 1) := by decide +kernel
theorem dX4_skipBlanks_33 : decode cX4_skipBlanks 33 = .ok (.iadd, 1) := by decide +kernel
theorem dX4_skipBlanks_34 : decode cX4_skipBlanks 34 = .ok (.putfield 29, 3) := by decide +kernel
theorem dX4_skipBlanks_37 : decode cX4_skipBlanks 37 = .ok (.goto (-37), 3) := by decide +kernel
theorem dX4_skipBlanks_40 : decode cX4_skipBlanks 40 = .ok (.return_, 1) := by decide +kernel
def VX4_skipBlanks_0 (d : Nat) (Q : Out → MS → Prop) : Nat → Nat → MS → Prop
  | 0, _, _ => False
  | n + 1, x0, S => S.K x0 = 4 ∧ (S.K x0 = 4 ∧ ((R32 (S.I x0 3) ∧ R32 (S.I x0 2)) ∧ (((S.I x0 2) ≤ (S.I x0 3)) → Q (.inl none) S) ∧ (¬ ((S.I x0 2) ≤ (S.I x0 3)) → S.K x0 = 4 ∧ ∃ b1, S.R x0 0 = some b1 ∧ (S.K x0 = 4 ∧ (S.K b1 = 8 ∧ Mw hX8_at yX8_at d [vA b1, vI (S.I x0 3)] S (oI (fun r2 S2 => (R32 r2 ∧ R32 (32 : Int)) ∧ (¬ (r2 = (32 : Int)) → Q (.inl none) S2) ∧ ((r2 = (32 : Int)) → S2.K x0 = 4 ∧ (S2.K x0 = 4 ∧ ((VX4_skipBlanks_0 d Q n) x0 (S2.setI x0 3 ((S2.I x0 3) + 1))))))))))))
theorem JX4_skipBlanks_0 {d : Nat} {S0 : MS} {Q : Out → MS → Prop} : ∀ (n : Nat) (x0 : Nat) (S : MS), VX4_skipBlanks_0 d Q n x0 S → Jw FinM RX4 cX4_skipBlanks 1 none [] yX4_skipBlanks (d + 1) S0 S 0 [(0, vA x0)] [] Q := by
  intro n
  induction n with
  | zero => intro x0 S h; exact h.elim
  | succ n ih =>
    intro x0 S h
    exact j_aload_n 0 dX4_skipBlanks_0 rfl (j_getI 4 3 f_RX4_29 dX4_skipBlanks_1 h (fun h => j_aload_n 0 dX4_skipBlanks_4 rfl (j_getI 4 2 f_RX4_25 dX4_skipBlanks_5 h (fun h => j_icmp_ge (tgt := 40) dX4_skipBlanks_8 (by decide) h (fun h => j_vret rfl dX4_skipBlanks_40 h) (fun h => j_aload_n 0 dX4_skipBlanks_11 rfl (j_getR 4 0 f_RX4_12 dX4_skipBlanks_12 h (fun b1 h => j_aload_n 0 dX4_skipBlanks_15 rfl (j_getI 4 3 f_RX4_29 dX4_skipBlanks_16 h (fun h => j_callV (rest := []) 8 [vI (S.I x0 3)] k_RX4_49 ⟨w_4_48, w_4_49⟩ ⟨_, _, rfl⟩ (by decide) rfl rfl (Nat.le_of_ble_eq_true rfl) dX4_skipBlanks_19 h (kI (fun r2 S2 h => j_bipush dX4_skipBlanks_22 rfl (j_icmp_ne (tgt := 40) dX4_skipBlanks_24 (by decide) h (fun h => j_vret rfl dX4_skipBlanks_40 h) (fun h => j_aload_n 0 dX4_skipBlanks_27 rfl (j_dup rfl dX4_skipBlanks_28 (j_getI 4 3 f_RX4_29 dX4_skipBlanks_29 h (fun h => j_iconst dX4_skipBlanks_32 (j_iadd dX4_skipBlanks_33 (j_putI 4 3 f_RX4_29 dX4_skipBlanks_34 h (fun h => j_goto (tgt := 0) dX4_skipBlanks_37 (by decide) (ih _ _ h))))))))))) (fun _ _ h => h.elim))))))))))
theorem dX4_refuse_0 : decode cX4_refuse 0 = .ok (.aload_n 0, 1) := by decide +kernel
theorem dX4_refuse_1 : decode cX4_refuse 1 = .ok (.iload_n 1, 1) := by decide +kernel
theorem dX4_refuse_2 : decode cX4_refuse 2 = .ok (.putfield 35, 3) := by decide +kernel
theorem dX4_refuse_5 : decode cX4_refuse 5 = .ok (.iconst 0, 1) := by decide +kernel
theorem dX4_refuse_6 : decode cX4_refuse 6 = .ok (.ireturn, 1) := by decide +kernel
def VX4_refuse_0 (d : Nat) (Q : Out → MS → Prop) (x0 : Nat) (x1 : Int) (S : MS) : Prop :=
  S.K x0 = 4 ∧ (B01 0 ∧ Q (.inl (some (vI 0))) (S.setI x0 5 x1))
theorem JX4_refuse_0 {d : Nat} {S0 : MS} {Q : Out → MS → Prop} (x0 : Nat) (x1 : Int) (S : MS) (h : VX4_refuse_0 d Q x0 x1 S) : Jw FinM RX4 cX4_refuse 2 (some .boolean) [] yX4_refuse (d + 1) S0 S 0 [(0, vA x0), (1, vI x1)] [] Q :=
  j_aload_n 0 dX4_refuse_0 rfl (j_iload_n 1 dX4_refuse_1 rfl (j_putI 4 5 f_RX4_35 dX4_refuse_2 h (fun h => j_iconst dX4_refuse_5 (j_zret rfl dX4_refuse_6 h))))
theorem MX4_refuse {d : Nat} {x0 : Nat} {x1 : Int} {S : MS} {Q : Out → MS → Prop} (h : VX4_refuse_0 d Q x0 x1 S) : Mw hX4_refuse yX4_refuse (d + 1) [vA x0, vI x1] S Q := Mw.ofJ (by decide) (Nat.le_of_ble_eq_true rfl) (JX4_refuse_0 _ _ S h)
theorem dX4_isLetter_0 : decode cX4_isLetter 0 = .ok (.iload_n 0, 1) := by decide +kernel
theorem dX4_isLetter_1 : decode cX4_isLetter 1 = .ok (.bipush 97, 2) := by decide +kernel
theorem dX4_isLetter_3 : decode cX4_isLetter 3 = .ok (.if_icmp .lt 13, 3) := by decide +kernel
theorem dX4_isLetter_6 : decode cX4_isLetter 6 = .ok (.iload_n 0, 1) := by decide +kernel
theorem dX4_isLetter_7 : decode cX4_isLetter 7 = .ok (.bipush 122, 2) := by decide +kernel
theorem dX4_isLetter_9 : decode cX4_isLetter 9 = .ok (.if_icmp .gt 7, 3) := by decide +kernel
theorem dX4_isLetter_12 : decode cX4_isLetter 12 = .ok (.iconst 1, 1) := by decide +kernel
theorem dX4_isLetter_13 : decode cX4_isLetter 13 = .ok (.goto 4, 3) := by decide +kernel
theorem dX4_isLetter_16 : decode cX4_isLetter 16 = .ok (.iconst 0, 1) := by decide +kernel
theorem dX4_isLetter_17 : decode cX4_isLetter 17 = .ok (.ireturn, 1) := by decide +kernel
def VX4_isLetter_0 (d : Nat) (Q : Out → MS → Prop) (x0 : Int) (S : MS) : Prop :=
  (R32 x0 ∧ R32 (97 : Int)) ∧ ((x0 < (97 : Int)) → B01 0 ∧ Q (.inl (some (vI 0))) S) ∧ (¬ (x0 < (97 : Int)) → (R32 x0 ∧ R32 (122 : Int)) ∧ (((122 : Int) < x0) → B01 0 ∧ Q (.inl (some (vI 0))) S) ∧ (¬ ((122 : Int) < x0) → B01 1 ∧ Q (.inl (some (vI 1))) S))
theorem JX4_isLetter_0 {d : Nat} {S0 : MS} {Q : Out → MS → Prop} (x0 : Int) (S : MS) (h : VX4_isLetter_0 d Q x0 S) : Jw FinM RX4 cX4_isLetter 1 (some .boolean) [] yX4_isLetter (d + 1) S0 S 0 [(0, vI x0)] [] Q :=
  j_iload_n 0 dX4_isLetter_0 rfl (j_bipush dX4_isLetter_1 rfl (j_icmp_lt (tgt := 16) dX4_isLetter_3 (by decide) h (fun h => j_iconst dX4_isLetter_16 (j_zret rfl dX4_isLetter_17 h)) (fun h => j_iload_n 0 dX4_isLetter_6 rfl (j_bipush dX4_isLetter_7 rfl (j_icmp_gt (tgt := 16) dX4_isLetter_9 (by decide) h (fun h => j_iconst dX4_isLetter_16 (j_zret rfl dX4_isLetter_17 h)) (fun h => j_iconst dX4_isLetter_12 (j_goto (tgt := 17) dX4_isLetter_13 (by decide) (j_zret rfl dX4_isLetter_17 h))))))))
theorem MX4_isLetter {d : Nat} {x0 : Int} {S : MS} {Q : Out → MS → Prop} (h : VX4_isLetter_0 d Q x0 S) : Mw hX4_isLetter yX4_isLetter (d + 1) [vI x0] S Q := Mw.ofJ (by decide) (Nat.le_of_ble_eq_true rfl) (JX4_isLetter_0 _ S h)
theorem dX4_isDigit_0 : decode cX4_isDigit 0 = .ok (.iload_n 0, 1) := by decide +kernel
theorem dX4_isDigit_1 : decode cX4_isDigit 1 = .ok (.bipush 48, 2) := by decide +kernel
theorem dX4_isDigit_3 : decode cX4_isDigit 3 = .ok (.if_icmp .lt 13, 3) := by decide +kernel
theorem dX4_isDigit_6 : decode cX4_isDigit 6 = .ok (.iload_n 0, 1) := by decide +kernel
theorem dX4_isDigit_7 : decode cX4_isDigit 7 = .ok (.bipush 57, 2) := by decide +kernel
theorem dX4_isDigit_9 : decode cX4_isDigit 9 = .ok (.if_icmp .gt 7, 3) := by decide +kernel
theorem dX4_isDigit_12 : decode cX4_isDigit 12 = .ok (.iconst 1, 1) := by decide +kernel
theorem dX4_isDigit_13 : decode cX4_isDigit 13 = .ok (.goto 4, 3) := by decide +kernel
theorem dX4_isDigit_16 : decode cX4_isDigit 16 = .ok (.iconst 0, 1) := by decide +kernel
theorem dX4_isDigit_17 : decode cX4_isDigit 17 = .ok (.ireturn, 1) := by decide +kernel
def VX4_isDigit_0 (d : Nat) (Q : Out → MS → Prop) (x0 : Int) (S : MS) : Prop :=
  (R32 x0 ∧ R32 (48 : Int)) ∧ ((x0 < (48 : Int)) → B01 0 ∧ Q (.inl (some (vI 0))) S) ∧ (¬ (x0 < (48 : Int)) → (R32 x0 ∧ R32 (57 : Int)) ∧ (((57 : Int) < x0) → B01 0 ∧ Q (.inl (some (vI 0))) S) ∧ (¬ ((57 : Int) < x0) → B01 1 ∧ Q (.inl (some (vI 1))) S))
theorem JX4_isDigit_0 {d : Nat} {S0 : MS} {Q : Out → MS → Prop} (x0 : Int) (S : MS) (h : VX4_isDigit_0 d Q x0 S) : Jw FinM RX4 cX4_isDigit 1 (some .boolean) [] yX4_isDigit (d + 1) S0 S 0 [(0, vI x0)] [] Q :=
  j_iload_n 0 dX4_isDigit_0 rfl (j_bipush dX4_isDigit_1 rfl (j_icmp_lt (tgt := 16) dX4_isDigit_3 (by decide) h (fun h => j_iconst dX4_isDigit_16 (j_zret rfl dX4_isDigit_17 h)) (fun h => j_iload_n 0 dX4_isDigit_6 rfl (j_bipush dX4_isDigit_7 rfl (j_icmp_gt (tgt := 16) dX4_isDigit_9 (by decide) h (fun h => j_iconst dX4_isDigit_16 (j_zret rfl dX4_isDigit_17 h)) (fun h => j_iconst dX4_isDigit_12 (j_goto (tgt := 17) dX4_isDigit_13 (by decide) (j_zret rfl dX4_isDigit_17 h))))))))
theorem MX4_isDigit {d : Nat} {x0 : Int} {S : MS} {Q : Out → MS → Prop} (h : VX4_isDigit_0 d Q x0 S) : Mw hX4_isDigit yX4_isDigit (d + 1) [vI x0] S Q := Mw.ofJ (by decide) (Nat.le_of_ble_eq_true rfl) (JX4_isDigit_0 _ S h)
