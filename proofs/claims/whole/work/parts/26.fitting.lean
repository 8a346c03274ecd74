theorem dX1_init_0 : decode cX1_init 0 = .ok (.aload_n 0, 1) := by decide +kernel
theorem dX1_init_1 : decode cX1_init 1 = .ok (.invokespecial 3, 3) := by decide +kernel
theorem dX1_init_4 : decode cX1_init 4 = .ok (.aload_n 0, 1) := by decide +kernel
theorem dX1_init_5 : decode cX1_init 5 = .ok (.bipush 16, 2) := by decide +kernel
theorem dX1_init_7 : decode cX1_init 7 = .ok (.iconst 0, 1) := by decide +kernel
theorem dX1_init_8 : decode cX1_init 8 = .ok (.multianewarray 9 2, 4) := by decide +kernel
theorem dX1_init_12 : decode cX1_init 12 = .ok (.putfield 11, 3) := by decide +kernel
theorem dX1_init_15 : decode cX1_init 15 = .ok (.return_, 1) := by decide +kernel
def VX1_init_0 (d : Nat) (Q : Out → MS → Prop) (x0 : Nat) (S : MS) : Prop :=
  ((0 ≤ (16 : Int) ∧ (16 : Int) < 100000) ∧ 0 ≤ (0 : Int) ∧ (0 : Int) < 100000) ∧ ((S.mk2 ((16 : Int)).toNat ((0 : Int)).toNat).K x0 = 1 ∧ (Q (.inl none) ((S.mk2 ((16 : Int)).toNat ((0 : Int)).toNat).setR x0 0 (some S.nx))))
theorem JX1_init_0 {d : Nat} {S0 : MS} {Q : Out → MS → Prop} (x0 : Nat) (S : MS) (h : VX1_init_0 d Q x0 S) : Jw FinM RX1 cX1_init 1 none [] yX1_init (d + 1) S0 S 0 [(0, vA x0)] [] Q :=
  j_aload_n 0 dX1_init_0 rfl (j_objInit w_1_151 dX1_init_1 (Nat.le_of_ble_eq_true rfl) w_1_36 w_objInit (j_aload_n 0 dX1_init_4 rfl (j_bipush dX1_init_5 rfl (j_iconst dX1_init_7 (j_mna w_1_152 w_1_158 dX1_init_8 h (fun h => j_putFR 1 0 f_RX1_11 (by intro q h; cases h; rfl) rfl (fun b => ⟨rfl, rfl⟩) dX1_init_12 h (fun h => j_vret rfl dX1_init_15 h)))))))
theorem MX1_init {d : Nat} {x0 : Nat} {S : MS} {Q : Out → MS → Prop} (h : VX1_init_0 d Q x0 S) : Mw hX1_init yX1_init (d + 1) [vA x0] S Q := Mw.ofJ (by decide) (Nat.le_of_ble_eq_true rfl) (JX1_init_0 _ S h)
theorem dX1_aim_0 : decode cX1_aim 0 = .ok (.iconst 0, 1) := by decide +kernel
theorem dX1_aim_1 : decode cX1_aim 1 = .ok (.istore_n 3, 1) := by decide +kernel
theorem dX1_aim_2 : decode cX1_aim 2 = .ok (.iload_n 3, 1) := by decide +kernel
theorem dX1_aim_3 : decode cX1_aim 3 = .ok (.aload_n 1, 1) := by decide +kernel
theorem dX1_aim_4 : decode cX1_aim 4 = .ok (.getfield 16, 3) := by decide +kernel
theorem dX1_aim_7 : decode cX1_aim 7 = .ok (.if_icmp .ge 22, 3) := by decide +kernel
theorem dX1_aim_10 : decode cX1_aim 10 = .ok (.aload_n 0, 1) := by decide +kernel
theorem dX1_aim_11 : decode cX1_aim 11 = .ok (.aload_n 1, 1) := by decide +kernel
theorem dX1_aim_12 : decode cX1_aim 12 = .ok (.aload_n 2, 1) := by decide +kernel
theorem dX1_aim_13 : decode cX1_aim 13 = .ok (.iload_n 3, 1) := by decide +kernel
theorem dX1_aim_14 : decode cX1_aim 14 = .ok (.aload_n 1, 1) := by decide +kernel
theorem dX1_aim_15 : decode cX1_aim 15 = .ok (.getfield 22, 3) := by decide +kernel
theorem dX1_aim_18 : decode cX1_aim 18 = .ok (.iload_n 3, 1) := by decide +kernel
theorem dX1_aim_19 : decode cX1_aim 19 = .ok (.iaload, 1) := by decide +kernel
theorem dX1_aim_20 : decode cX1_aim 20 = .ok (.invokevirtual 26, 3) := by decide +kernel
theorem dX1_aim_23 : decode cX1_aim 23 = .ok (.iinc 3 1, 3) := by decide +kernel
theorem dX1_aim_26 : decode cX1_aim 26 = .ok (.goto (-24), 3) := by decide +kernel
theorem dX1_aim_29 : decode cX1_aim 29 = .ok (.return_, 1) := by decide +kernel
def VX1_aim_2 (d : Nat) (Q : Out → MS → Prop) : Nat → Nat → Nat → Nat → Int → MS → Prop
  | 0, _, _, _, _, _ => False
  | n + 1, x0, x1, x2, x3, S => S.K x1 = 7 ∧ ((R32 x3 ∧ R32 (S.I x1 9)) ∧ (((S.I x1 9) ≤ x3) → Q (.inl none) S) ∧ (¬ ((S.I x1 9) ≤ x3) → S.K x1 = 7 ∧ ∃ b1, S.R x1 6 = some b1 ∧ ((S.K b1 = 13 ∧ 0 ≤ x3 ∧ x3 < S.N b1) ∧ (S.K x0 = 1 ∧ Mw hX1_hadRisen yX1_hadRisen d [vA x0, vA x1, vA x2, vI x3, vI (S.I b1 (x3).toNat)] S (oV (fun S2 => (VX1_aim_2 d Q n) x0 x1 x2 (x3 + 1) S2))))))
theorem JX1_aim_2 {d : Nat} {S0 : MS} {Q : Out → MS → Prop} : ∀ (n : Nat) (x0 : Nat) (x1 : Nat) (x2 : Nat) (x3 : Int) (S : MS), VX1_aim_2 d Q n x0 x1 x2 x3 S → Jw FinM RX1 cX1_aim 4 none [] yX1_aim (d + 1) S0 S 2 [(0, vA x0), (1, vA x1), (2, vA x2), (3, vI x3)] [] Q := by
  intro n
  induction n with
  | zero => intro x0 x1 x2 x3 S h; exact h.elim
  | succ n ih =>
    intro x0 x1 x2 x3 S h
    exact j_iload_n 3 dX1_aim_2 rfl (j_aload_n 1 dX1_aim_3 rfl (j_getI 7 9 f_RX1_16 dX1_aim_4 h (fun h => j_icmp_ge (tgt := 29) dX1_aim_7 (by decide) h (fun h => j_vret rfl dX1_aim_29 h) (fun h => j_aload_n 0 dX1_aim_10 rfl (j_aload_n 1 dX1_aim_11 rfl (j_aload_n 2 dX1_aim_12 rfl (j_iload_n 3 dX1_aim_13 rfl (j_aload_n 1 dX1_aim_14 rfl (j_getR 7 6 f_RX1_22 dX1_aim_15 h (fun b1 h => j_iload_n 3 dX1_aim_18 rfl (j_iald dX1_aim_19 h (fun h => j_callV (rest := []) 1 [vA x1, vA x2, vI x3, vI (S.I b1 (x3).toNat)] k_RX1_26 ⟨w_2_211, w_2_212⟩ ⟨_, _, rfl⟩ (by decide) rfl rfl (Nat.le_of_ble_eq_true rfl) dX1_aim_20 h (kV (fun S2 h => j_iinc 3 (lv2 := [(3, vI (x3 + 1)), (0, vA x0), (1, vA x1), (2, vA x2)]) dX1_aim_23 rfl (by decide) rfl (j_goto (tgt := 2) dX1_aim_26 (by decide) (j_sub [1, 2, 3, 0] rfl (ih _ _ _ _ _ h))))) (fun _ _ h => h.elim)))))))))))))
def VX1_aim_0 (d : Nat) (Q : Out → MS → Prop) (x0 : Nat) (x1 : Nat) (x2 : Nat) (S : MS) : Prop :=
  ∃ m, VX1_aim_2 d Q m x0 x1 x2 0 S
theorem JX1_aim_0 {d : Nat} {S0 : MS} {Q : Out → MS → Prop} (x0 : Nat) (x1 : Nat) (x2 : Nat) (S : MS) (h : VX1_aim_0 d Q x0 x1 x2 S) : Jw FinM RX1 cX1_aim 4 none [] yX1_aim (d + 1) S0 S 0 [(0, vA x0), (1, vA x1), (2, vA x2)] [] Q :=
  j_iconst dX1_aim_0 (j_istore_n (lv2 := [(3, vI 0), (0, vA x0), (1, vA x1), (2, vA x2)]) dX1_aim_1 (by decide) rfl (Exists.elim h (fun m h => j_sub [1, 2, 3, 0] rfl (JX1_aim_2 m _ _ _ _ _ h))))
theorem MX1_aim {d : Nat} {x0 : Nat} {x1 : Nat} {x2 : Nat} {S : MS} {Q : Out → MS → Prop} (h : VX1_aim_0 d Q x0 x1 x2 S) : Mw hX1_aim yX1_aim (d + 1) [vA x0, vA x1, vA x2] S Q := Mw.ofJ (by decide) (Nat.le_of_ble_eq_true rfl) (JX1_aim_0 _ _ _ S h)
theorem dX1_hadRisen_0 : decode cX1_hadRisen 0 = .ok (.aload_n 0, 1) := by decide +kernel
theorem dX1_hadRisen_1 : decode cX1_hadRisen 1 = .ok (.getfield 11, 3) := by decide +kernel
theorem dX1_hadRisen_4 : decode cX1_hadRisen 4 = .ok (.iload_n 3, 1) := by decide +kernel
theorem dX1_hadRisen_5 : decode cX1_hadRisen 5 = .ok (.aload_n 2, 1) := by decide +kernel
theorem dX1_hadRisen_6 : decode cX1_hadRisen 6 = .ok (.aload_n 1, 1) := by decide +kernel
theorem dX1_hadRisen_7 : decode cX1_hadRisen 7 = .ok (.iload_n 3, 1) := by decide +kernel
theorem dX1_hadRisen_8 : decode cX1_hadRisen 8 = .ok (.invokevirtual 30, 3) := by decide +kernel
theorem dX1_hadRisen_11 : decode cX1_hadRisen 11 = .ok (.invokevirtual 34, 3) := by decide +kernel
theorem dX1_hadRisen_14 : decode cX1_hadRisen 14 = .ok (.aload_n 1, 1) := by decide +kernel
theorem dX1_hadRisen_15 : decode cX1_hadRisen 15 = .ok (.getfield 40, 3) := by decide +kernel
theorem dX1_hadRisen_18 : decode cX1_hadRisen 18 = .ok (.iload_n 3, 1) := by decide +kernel
theorem dX1_hadRisen_19 : decode cX1_hadRisen 19 = .ok (.iaload, 1) := by decide +kernel
theorem dX1_hadRisen_20 : decode cX1_hadRisen 20 = .ok (.iload 4, 2) := by decide +kernel
theorem dX1_hadRisen_22 : decode cX1_hadRisen 22 = .ok (.invokevirtual 43, 3) := by decide +kernel
theorem dX1_hadRisen_25 : decode cX1_hadRisen 25 = .ok (.aastore, 1) := by decide +kernel
theorem dX1_hadRisen_26 : decode cX1_hadRisen 26 = .ok (.return_, 1) := by decide +kernel
def VX1_hadRisen_0 (d : Nat) (Q : Out → MS → Prop) (x0 : Nat) (x1 : Nat) (x2 : Nat) (x3 : Int) (x4 : Int) (S : MS) : Prop :=
  S.K x0 = 1 ∧ ∃ b1, S.R x0 0 = some b1 ∧ (S.K x1 = 7 ∧ Mw hX7_kindOfNote yX7_kindOfNote d [vA x1, vI x3] S (oI (fun r2 S2 => S2.K x2 = 0 ∧ Mw hX0_layings yX0_layings d [vA x2, vI r2] S2 (oA (fun r3 S3 => S3.K x1 = 7 ∧ ∃ b4, S3.R x1 5 = some b4 ∧ ((S3.K b4 = 13 ∧ 0 ≤ x3 ∧ x3 < S3.N b4) ∧ (S3.K r3 = 2 ∧ Mw hX2_rising yX2_rising d [vA r3, vI (S3.I b4 (x3).toNat), vI x4] S3 (oA (fun r5 S5 => (S5.K b1 = 20 ∧ S5.K r5 = 14 ∧ 0 ≤ x3 ∧ x3 < S5.N b1) ∧ (Q (.inl none) (S5.setR b1 (x3).toNat (some r5))))))))))))
theorem JX1_hadRisen_0 {d : Nat} {S0 : MS} {Q : Out → MS → Prop} (x0 : Nat) (x1 : Nat) (x2 : Nat) (x3 : Int) (x4 : Int) (S : MS) (h : VX1_hadRisen_0 d Q x0 x1 x2 x3 x4 S) : Jw FinM RX1 cX1_hadRisen 5 none [] yX1_hadRisen (d + 1) S0 S 0 [(0, vA x0), (1, vA x1), (2, vA x2), (3, vI x3), (4, vI x4)] [] Q :=
  j_aload_n 0 dX1_hadRisen_0 rfl (j_getR 1 0 f_RX1_11 dX1_hadRisen_1 h (fun b1 h => j_iload_n 3 dX1_hadRisen_4 rfl (j_aload_n 2 dX1_hadRisen_5 rfl (j_aload_n 1 dX1_hadRisen_6 rfl (j_iload_n 3 dX1_hadRisen_7 rfl (j_callV (rest := [vA x2, vI x3, vA b1]) 7 [vI x3] k_RX1_30 ⟨w_2_215, w_2_216⟩ ⟨_, _, rfl⟩ (by decide) rfl rfl (Nat.le_of_ble_eq_true rfl) dX1_hadRisen_8 h (kI (fun r2 S2 h => j_callV (rest := [vI x3, vA b1]) 0 [vI r2] k_RX1_34 ⟨w_2_219, w_2_220⟩ ⟨_, _, rfl⟩ (by decide) rfl rfl (Nat.le_of_ble_eq_true rfl) dX1_hadRisen_11 h (kA (fun r3 S3 h => j_aload_n 1 dX1_hadRisen_14 rfl (j_getR 7 5 f_RX1_40 dX1_hadRisen_15 h (fun b4 h => j_iload_n 3 dX1_hadRisen_18 rfl (j_iald dX1_hadRisen_19 h (fun h => j_iload 4 dX1_hadRisen_20 rfl (j_callV (rest := [vI x3, vA b1]) 2 [vI (S3.I b4 (x3).toNat), vI x4] k_RX1_43 ⟨w_2_225, w_2_226⟩ ⟨_, _, rfl⟩ (by decide) rfl rfl (Nat.le_of_ble_eq_true rfl) dX1_hadRisen_22 h (kA (fun r5 S5 h => j_aastA dX1_hadRisen_25 h (fun h => j_vret rfl dX1_hadRisen_26 h))) (fun _ _ h => h.elim)))))))) (fun _ _ h => h.elim))) (fun _ _ h => h.elim)))))))
theorem MX1_hadRisen {d : Nat} {x0 : Nat} {x1 : Nat} {x2 : Nat} {x3 : Int} {x4 : Int} {S : MS} {Q : Out → MS → Prop} (h : VX1_hadRisen_0 d Q x0 x1 x2 x3 x4 S) : Mw hX1_hadRisen yX1_hadRisen (d + 1) [vA x0, vA x1, vA x2, vI x3, vI x4] S Q := Mw.ofJ (by decide) (Nat.le_of_ble_eq_true rfl) (JX1_hadRisen_0 _ _ _ _ _ S h)
theorem dX1_fit_0 : decode cX1_fit 0 = .ok (.aload 4, 2) := by decide +kernel
theorem dX1_fit_2 : decode cX1_fit 2 = .ok (.invokevirtual 49, 3) := by decide +kernel
theorem dX1_fit_5 : decode cX1_fit 5 = .ok (.iconst 0, 1) := by decide +kernel
theorem dX1_fit_6 : decode cX1_fit 6 = .ok (.istore 5, 2) := by decide +kernel
theorem dX1_fit_8 : decode cX1_fit 8 = .ok (.iload 5, 2) := by decide +kernel
theorem dX1_fit_10 : decode cX1_fit 10 = .ok (.aload_n 2, 1) := by decide +kernel
theorem dX1_fit_11 : decode cX1_fit 11 = .ok (.getfield 54, 3) := by decide +kernel
theorem dX1_fit_14 : decode cX1_fit 14 = .ok (.if_icmp .ge 60, 3) := by decide +kernel
theorem dX1_fit_17 : decode cX1_fit 17 = .ok (.aload_n 2, 1) := by decide +kernel
theorem dX1_fit_18 : decode cX1_fit 18 = .ok (.getfield 57, 3) := by decide +kernel
theorem dX1_fit_21 : decode cX1_fit 21 = .ok (.iload 5, 2) := by decide +kernel
theorem dX1_fit_23 : decode cX1_fit 23 = .ok (.laload, 1) := by decide +kernel
theorem dX1_fit_24 : decode cX1_fit 24 = .ok (.lstore 6, 2) := by decide +kernel
theorem dX1_fit_26 : decode cX1_fit 26 = .ok (.iconst 0, 1) := by decide +kernel
theorem dX1_fit_27 : decode cX1_fit 27 = .ok (.istore 8, 2) := by decide +kernel
theorem dX1_fit_29 : decode cX1_fit 29 = .ok (.iload 8, 2) := by decide +kernel
theorem dX1_fit_31 : decode cX1_fit 31 = .ok (.aload_n 1, 1) := by decide +kernel
theorem dX1_fit_32 : decode cX1_fit 32 = .ok (.getfield 61, 3) := by decide +kernel
theorem dX1_fit_35 : decode cX1_fit 35 = .ok (.if_icmp .ge 24, 3) := by decide +kernel
theorem dX1_fit_38 : decode cX1_fit 38 = .ok (.lload 6, 2) := by decide +kernel
theorem dX1_fit_40 : decode cX1_fit 40 = .ok (.aload_n 0, 1) := by decide +kernel
theorem dX1_fit_41 : decode cX1_fit 41 = .ok (.aload_n 1, 1) := by decide +kernel
theorem dX1_fit_42 : decode cX1_fit 42 = .ok (.iload 8, 2) := by decide +kernel
theorem dX1_fit_44 : decode cX1_fit 44 = .ok (.iload_n 3, 1) := by decide +kernel
theorem dX1_fit_45 : decode cX1_fit 45 = .ok (.iload 5, 2) := by decide +kernel
theorem dX1_fit_47 : decode cX1_fit 47 = .ok (.invokevirtual 64, 3) := by decide +kernel
theorem dX1_fit_50 : decode cX1_fit 50 = .ok (.land, 1) := by decide +kernel
theorem dX1_fit_51 : decode cX1_fit 51 = .ok (.lstore 6, 2) := by decide +kernel
theorem dX1_fit_53 : decode cX1_fit 53 = .ok (.iinc 8 1, 3) := by decide +kernel
theorem dX1_fit_56 : decode cX1_fit 56 = .ok (.goto (-27), 3) := by decide +kernel
theorem dX1_fit_59 : decode cX1_fit 59 = .ok (.aload 4, 2) := by decide +kernel
theorem dX1_fit_61 : decode cX1_fit 61 = .ok (.iload 5, 2) := by decide +kernel
theorem dX1_fit_63 : decode cX1_fit 63 = .ok (.lload 6, 2) := by decide +kernel
theorem dX1_fit_65 : decode cX1_fit 65 = .ok (.invokevirtual 68, 3) := by decide +kernel
theorem dX1_fit_68 : decode cX1_fit 68 = .ok (.iinc 5 1, 3) := by decide +kernel
theorem dX1_fit_71 : decode cX1_fit 71 = .ok (.goto (-63), 3) := by decide +kernel
theorem dX1_fit_74 : decode cX1_fit 74 = .ok (.return_, 1) := by decide +kernel
def VX1_fit_29 (d : Nat) (c8 : Nat → Nat → Nat → Int → Nat → Int → MS → Prop) (Q : Out → MS → Prop) : Nat → Nat → Nat → Nat → Int → Nat → Int → BitVec 64 → Int → MS → Prop
  | 0, _, _, _, _, _, _, _, _, _ => False
  | n + 1, x0, x1, x2, x3, x4, x5, x6, x8, S => S.K x1 = 7 ∧ ((R32 x8 ∧ R32 (S.I x1 8)) ∧ (((S.I x1 8) ≤ x8) → S.K x4 = 5 ∧ Mw hX5_add yX5_add d [vA x4, vI x5, vL x6] S (oV (fun S1 => c8 x0 x1 x2 x3 x4 (x5 + 1) S1))) ∧ (¬ ((S.I x1 8) ≤ x8) → S.K x0 = 1 ∧ Mw hX1_borne yX1_borne d [vA x0, vA x1, vI x8, vI x3, vI x5] S (oL (fun r2 S2 => (VX1_fit_29 d c8 Q n) x0 x1 x2 x3 x4 x5 (x6 &&& r2) (x8 + 1) S2))))
theorem JX1_fit_29 {d : Nat} {c8 : Nat → Nat → Nat → Int → Nat → Int → MS → Prop} {S0 : MS} {Q : Out → MS → Prop} (hc8 : ∀ (x0 : Nat) (x1 : Nat) (x2 : Nat) (x3 : Int) (x4 : Nat) (x5 : Int) (S : MS), c8 x0 x1 x2 x3 x4 x5 S → Jw FinM RX1 cX1_fit 9 none [] yX1_fit (d + 1) S0 S 8 [(0, vA x0), (1, vA x1), (2, vA x2), (3, vI x3), (4, vA x4), (5, vI x5)] [] Q) : ∀ (n : Nat) (x0 : Nat) (x1 : Nat) (x2 : Nat) (x3 : Int) (x4 : Nat) (x5 : Int) (x6 : BitVec 64) (x8 : Int) (S : MS), VX1_fit_29 d c8 Q n x0 x1 x2 x3 x4 x5 x6 x8 S → Jw FinM RX1 cX1_fit 9 none [] yX1_fit (d + 1) S0 S 29 [(0, vA x0), (1, vA x1), (2, vA x2), (3, vI x3), (4, vA x4), (5, vI x5), (6, vL x6), (8, vI x8)] [] Q := by
  intro n
  induction n with
  | zero => intro x0 x1 x2 x3 x4 x5 x6 x8 S h; exact h.elim
  | succ n ih =>
    intro x0 x1 x2 x3 x4 x5 x6 x8 S h
    exact j_iload 7 dX1_fit_29 rfl (j_aload_n 1 dX1_fit_31 rfl (j_getI 7 8 f_RX1_61 dX1_fit_32 h (fun h => j_icmp_ge (tgt := 59) dX1_fit_35 (by decide) h (fun h => j_aload 4 dX1_fit_59 rfl (j_iload 5 dX1_fit_61 rfl (j_lload 6 dX1_fit_63 rfl (j_callV (rest := []) 5 [vI x5, vL x6] k_RX1_68 ⟨w_3_10, w_3_11⟩ ⟨_, _, rfl⟩ (by decide) rfl rfl (Nat.le_of_ble_eq_true rfl) dX1_fit_65 h (kV (fun S1 h => j_iinc 5 (lv2 := [(5, vI (x5 + 1)), (0, vA x0), (1, vA x1), (2, vA x2), (3, vI x3), (4, vA x4), (6, vL x6), (8, vI x8)]) dX1_fit_68 rfl (by decide) rfl (j_goto (tgt := 8) dX1_fit_71 (by decide) (j_sub [1, 2, 3, 4, 5, 0] rfl (hc8 _ _ _ _ _ _ _ h))))) (fun _ _ h => h.elim))))) (fun h => j_lload 6 dX1_fit_38 rfl (j_aload_n 0 dX1_fit_40 rfl (j_aload_n 1 dX1_fit_41 rfl (j_iload 7 dX1_fit_42 rfl (j_iload_n 3 dX1_fit_44 rfl (j_iload 5 dX1_fit_45 rfl (j_callV (rest := [vL x6]) 1 [vA x1, vI x8, vI x3, vI x5] k_RX1_64 ⟨w_3_6, p_1_7⟩ ⟨_, _, rfl⟩ (by decide) rfl rfl (Nat.le_of_ble_eq_true rfl) dX1_fit_47 h (kL (fun r2 S2 h => j_land dX1_fit_50 (j_lstore (lv2 := [(6, vL (x6 &&& r2)), (0, vA x0), (1, vA x1), (2, vA x2), (3, vI x3), (4, vA x4), (5, vI x5), (8, vI x8)]) dX1_fit_51 (by decide) rfl (j_iinc 7 (lv2 := [(8, vI (x8 + 1)), (6, vL (x6 &&& r2)), (0, vA x0), (1, vA x1), (2, vA x2), (3, vI x3), (4, vA x4), (5, vI x5)]) dX1_fit_53 rfl (by decide) rfl (j_goto (tgt := 29) dX1_fit_56 (by decide) (j_sub [2, 3, 4, 5, 6, 7, 1, 0] rfl (ih _ _ _ _ _ _ _ _ _ h))))))) (fun _ _ h => h.elim)))))))))))
def VX1_fit_8 (d : Nat) (Q : Out → MS → Prop) : Nat → Nat → Nat → Nat → Int → Nat → Int → MS → Prop
  | 0, _, _, _, _, _, _, _ => False
  | n + 1, x0, x1, x2, x3, x4, x5, S => S.K x2 = 0 ∧ ((R32 x5 ∧ R32 (S.I x2 2)) ∧ (((S.I x2 2) ≤ x5) → Q (.inl none) S) ∧ (¬ ((S.I x2 2) ≤ x5) → S.K x2 = 0 ∧ ∃ b1, S.R x2 3 = some b1 ∧ ((S.K b1 = 14 ∧ 0 ≤ x5 ∧ x5 < S.N b1) ∧ (∃ m, VX1_fit_29 d (VX1_fit_8 d Q n) Q m x0 x1 x2 x3 x4 x5 (S.J b1 (x5).toNat) 0 S))))
theorem JX1_fit_8 {d : Nat} {S0 : MS} {Q : Out → MS → Prop} : ∀ (n : Nat) (x0 : Nat) (x1 : Nat) (x2 : Nat) (x3 : Int) (x4 : Nat) (x5 : Int) (S : MS), VX1_fit_8 d Q n x0 x1 x2 x3 x4 x5 S → Jw FinM RX1 cX1_fit 9 none [] yX1_fit (d + 1) S0 S 8 [(0, vA x0), (1, vA x1), (2, vA x2), (3, vI x3), (4, vA x4), (5, vI x5)] [] Q := by
  intro n
  induction n with
  | zero => intro x0 x1 x2 x3 x4 x5 S h; exact h.elim
  | succ n ih =>
    intro x0 x1 x2 x3 x4 x5 S h
    exact j_iload 5 dX1_fit_8 rfl (j_aload_n 2 dX1_fit_10 rfl (j_getI 0 2 f_RX1_54 dX1_fit_11 h (fun h => j_icmp_ge (tgt := 74) dX1_fit_14 (by decide) h (fun h => j_vret rfl dX1_fit_74 h) (fun h => j_aload_n 2 dX1_fit_17 rfl (j_getR 0 3 f_RX1_57 dX1_fit_18 h (fun b1 h => j_iload 5 dX1_fit_21 rfl (j_lald dX1_fit_23 h (fun h => j_lstore (lv2 := [(6, vL (S.J b1 (x5).toNat)), (0, vA x0), (1, vA x1), (2, vA x2), (3, vI x3), (4, vA x4), (5, vI x5)]) dX1_fit_24 (by decide) rfl (j_iconst dX1_fit_26 (j_istore (lv2 := [(8, vI 0), (6, vL (S.J b1 (x5).toNat)), (0, vA x0), (1, vA x1), (2, vA x2), (3, vI x3), (4, vA x4), (5, vI x5)]) dX1_fit_27 (by decide) rfl (Exists.elim h (fun m h => j_sub [2, 3, 4, 5, 6, 7, 1, 0] rfl (JX1_fit_29 ih m _ _ _ _ _ _ _ _ _ h)))))))))))))
def VX1_fit_0 (d : Nat) (Q : Out → MS → Prop) (x0 : Nat) (x1 : Nat) (x2 : Nat) (x3 : Int) (x4 : Nat) (S : MS) : Prop :=
  S.K x4 = 5 ∧ Mw hX5_clear yX5_clear d [vA x4] S (oV (fun S1 => ∃ m, VX1_fit_8 d Q m x0 x1 x2 x3 x4 0 S1))
theorem JX1_fit_0 {d : Nat} {S0 : MS} {Q : Out → MS → Prop} (x0 : Nat) (x1 : Nat) (x2 : Nat) (x3 : Int) (x4 : Nat) (S : MS) (h : VX1_fit_0 d Q x0 x1 x2 x3 x4 S) : Jw FinM RX1 cX1_fit 9 none [] yX1_fit (d + 1) S0 S 0 [(0, vA x0), (1, vA x1), (2, vA x2), (3, vI x3), (4, vA x4)] [] Q :=
  j_aload 4 dX1_fit_0 rfl (j_callV (rest := []) 5 [] k_RX1_49 ⟨w_3_1, w_3_2⟩ ⟨_, _, rfl⟩ (by decide) rfl rfl (Nat.le_of_ble_eq_true rfl) dX1_fit_2 h (kV (fun S1 h => j_iconst dX1_fit_5 (j_istore (lv2 := [(5, vI 0), (0, vA x0), (1, vA x1), (2, vA x2), (3, vI x3), (4, vA x4)]) dX1_fit_6 (by decide) rfl (Exists.elim h (fun m h => j_sub [1, 2, 3, 4, 5, 0] rfl (JX1_fit_8 m _ _ _ _ _ _ _ h)))))) (fun _ _ h => h.elim))
theorem MX1_fit {d : Nat} {x0 : Nat} {x1 : Nat} {x2 : Nat} {x3 : Int} {x4 : Nat} {S : MS} {Q : Out → MS → Prop} (h : VX1_fit_0 d Q x0 x1 x2 x3 x4 S) : Mw hX1_fit yX1_fit (d + 1) [vA x0, vA x1, vA x2, vI x3, vA x4] S Q := Mw.ofJ (by decide) (Nat.le_of_ble_eq_true rfl) (JX1_fit_0 _ _ _ _ _ S h)
theorem dX1_borne_0 : decode cX1_borne 0 = .ok (.lconst 0, 1) := by decide +kernel
theorem dX1_borne_1 : decode cX1_borne 1 = .ok (.lstore 5, 2) := by decide +kernel
theorem dX1_borne_3 : decode cX1_borne 3 = .ok (.lconst 0, 1) := by decide +kernel
theorem dX1_borne_4 : decode cX1_borne 4 = .ok (.lstore 7, 2) := by decide +kernel
theorem dX1_borne_6 : decode cX1_borne 6 = .ok (.lconst 0, 1) := by decide +kernel
theorem dX1_borne_7 : decode cX1_borne 7 = .ok (.lstore 9, 2) := by decide +kernel
theorem dX1_borne_9 : decode cX1_borne 9 = .ok (.lconst 0, 1) := by decide +kernel
theorem dX1_borne_10 : decode cX1_borne 10 = .ok (.lstore 11, 2) := by decide +kernel
theorem dX1_borne_12 : decode cX1_borne 12 = .ok (.iconst 0, 1) := by decide +kernel
theorem dX1_borne_13 : decode cX1_borne 13 = .ok (.istore 13, 2) := by decide +kernel
theorem dX1_borne_15 : decode cX1_borne 15 = .ok (.iload 13, 2) := by decide +kernel
theorem dX1_borne_17 : decode cX1_borne 17 = .ok (.aload_n 1, 1) := by decide +kernel
theorem dX1_borne_18 : decode cX1_borne 18 = .ok (.getfield 16, 3) := by decide +kernel
theorem dX1_borne_21 : decode cX1_borne 21 = .ok (.if_icmp .ge 92, 3) := by decide +kernel
theorem dX1_borne_24 : decode cX1_borne 24 = .ok (.aload_n 1, 1) := by decide +kernel
theorem dX1_borne_25 : decode cX1_borne 25 = .ok (.getfield 72, 3) := by decide +kernel
theorem dX1_borne_28 : decode cX1_borne 28 = .ok (.iload 13, 2) := by decide +kernel
theorem dX1_borne_30 : decode cX1_borne 30 = .ok (.iaload, 1) := by decide +kernel
theorem dX1_borne_31 : decode cX1_borne 31 = .ok (.iload_n 2, 1) := by decide +kernel
theorem dX1_borne_32 : decode cX1_borne 32 = .ok (.if_icmp .ne 75, 3) := by decide +kernel
theorem dX1_borne_35 : decode cX1_borne 35 = .ok (.iload 13, 2) := by decide +kernel
theorem dX1_borne_37 : decode cX1_borne 37 = .ok (.iload_n 3, 1) := by decide +kernel
theorem dX1_borne_38 : decode cX1_borne 38 = .ok (.if_icmp .eq 69, 3) := by decide +kernel
theorem dX1_borne_41 : decode cX1_borne 41 = .ok (.iload 4, 2) := by decide +kernel
theorem dX1_borne_43 : decode cX1_borne 43 = .ok (.aload_n 0, 1) := by decide +kernel
theorem dX1_borne_44 : decode cX1_borne 44 = .ok (.getfield 11, 3) := by decide +kernel
theorem dX1_borne_47 : decode cX1_borne 47 = .ok (.iload 13, 2) := by decide +kernel
theorem dX1_borne_49 : decode cX1_borne 49 = .ok (.aaload, 1) := by decide +kernel
theorem dX1_borne_50 : decode cX1_borne 50 = .ok (.arraylength, 1) := by decide +kernel
theorem dX1_borne_51 : decode cX1_borne 51 = .ok (.if_icmp .ge 56, 3) := by decide +kernel
theorem dX1_borne_54 : decode cX1_borne 54 = .ok (.aload_n 0, 1) := by decide +kernel
theorem dX1_borne_55 : decode cX1_borne 55 = .ok (.getfield 11, 3) := by decide +kernel
theorem dX1_borne_58 : decode cX1_borne 58 = .ok (.iload 13, 2) := by decide +kernel
theorem dX1_borne_60 : decode cX1_borne 60 = .ok (.aaload, 1) := by decide +kernel
theorem dX1_borne_61 : decode cX1_borne 61 = .ok (.iload 4, 2) := by decide +kernel
theorem dX1_borne_63 : decode cX1_borne 63 = .ok (.laload, 1) := by decide +kernel
theorem dX1_borne_64 : decode cX1_borne 64 = .ok (.ldc2_w 75, 3) := by decide +kernel
theorem dX1_borne_67 : decode cX1_borne 67 = .ok (.lxor, 1) := by decide +kernel
theorem dX1_borne_68 : decode cX1_borne 68 = .ok (.lstore 14, 2) := by decide +kernel
theorem dX1_borne_70 : decode cX1_borne 70 = .ok (.lload 11, 2) := by decide +kernel
theorem dX1_borne_72 : decode cX1_borne 72 = .ok (.lload 9, 2) := by decide +kernel
theorem dX1_borne_74 : decode cX1_borne 74 = .ok (.lload 14, 2) := by decide +kernel
theorem dX1_borne_76 : decode cX1_borne 76 = .ok (.land, 1) := by decide +kernel
theorem dX1_borne_77 : decode cX1_borne 77 = .ok (.lor, 1) := by decide +kernel
theorem dX1_borne_78 : decode cX1_borne 78 = .ok (.lstore 11, 2) := by decide +kernel
theorem dX1_borne_80 : decode cX1_borne 80 = .ok (.lload 9, 2) := by decide +kernel
theorem dX1_borne_82 : decode cX1_borne 82 = .ok (.lload 7, 2) := by decide +kernel
theorem dX1_borne_84 : decode cX1_borne 84 = .ok (.lload 14, 2) := by decide +kernel
theorem dX1_borne_86 : decode cX1_borne 86 = .ok (.land, 1) := by decide +kernel
theorem dX1_borne_87 : decode cX1_borne 87 = .ok (.lor, 1) := by decide +kernel
theorem dX1_borne_88 : decode cX1_borne 88 = .ok (.lstore 9, 2) := by decide +kernel
theorem dX1_borne_90 : decode cX1_borne 90 = .ok (.lload 7, 2) := by decide +kernel
theorem dX1_borne_92 : decode cX1_borne 92 = .ok (.lload 5, 2) := by decide +kernel
theorem dX1_borne_94 : decode cX1_borne 94 = .ok (.lload 14, 2) := by decide +kernel
theorem dX1_borne_96 : decode cX1_borne 96 = .ok (.land, 1) := by decide +kernel
theorem dX1_borne_97 : decode cX1_borne 97 = .ok (.lor, 1) := by decide +kernel
theorem dX1_borne_98 : decode cX1_borne 98 = .ok (.lstore 7, 2) := by decide +kernel
theorem dX1_borne_100 : decode cX1_borne 100 = .ok (.lload 5, 2) := by decide +kernel
theorem dX1_borne_102 : decode cX1_borne 102 = .ok (.lload 14, 2) := by decide +kernel
theorem dX1_borne_104 : decode cX1_borne 104 = .ok (.lor, 1) := by decide +kernel
theorem dX1_borne_105 : decode cX1_borne 105 = .ok (.lstore 5, 2) := by decide +kernel
theorem dX1_borne_107 : decode cX1_borne 107 = .ok (.iinc 13 1, 3) := by decide +kernel
theorem dX1_borne_110 : decode cX1_borne 110 = .ok (.goto (-95), 3) := by decide +kernel
theorem dX1_borne_113 : decode cX1_borne 113 = .ok (.aload_n 1, 1) := by decide +kernel
theorem dX1_borne_114 : decode cX1_borne 114 = .ok (.getfield 77, 3) := by decide +kernel
theorem dX1_borne_117 : decode cX1_borne 117 = .ok (.iload_n 2, 1) := by decide +kernel
theorem dX1_borne_118 : decode cX1_borne 118 = .ok (.iaload, 1) := by decide +kernel
theorem dX1_borne_119 : decode cX1_borne 119 = .ok (.tableswitch 46 0 2 #[25, 32, 39], 25) := by decide +kernel
theorem dX1_borne_144 : decode cX1_borne 144 = .ok (.lload 5, 2) := by decide +kernel
theorem dX1_borne_146 : decode cX1_borne 146 = .ok (.ldc2_w 75, 3) := by decide +kernel
theorem dX1_borne_149 : decode cX1_borne 149 = .ok (.lxor, 1) := by decide +kernel
theorem dX1_borne_150 : decode cX1_borne 150 = .ok (.lreturn, 1) := by decide +kernel
theorem dX1_borne_151 : decode cX1_borne 151 = .ok (.lload 7, 2) := by decide +kernel
theorem dX1_borne_153 : decode cX1_borne 153 = .ok (.ldc2_w 75, 3) := by decide +kernel
theorem dX1_borne_156 : decode cX1_borne 156 = .ok (.lxor, 1) := by decide +kernel
theorem dX1_borne_157 : decode cX1_borne 157 = .ok (.lreturn, 1) := by decide +kernel
theorem dX1_borne_158 : decode cX1_borne 158 = .ok (.lload 9, 2) := by decide +kernel
theorem dX1_borne_160 : decode cX1_borne 160 = .ok (.ldc2_w 75, 3) := by decide +kernel
theorem dX1_borne_163 : decode cX1_borne 163 = .ok (.lxor, 1) := by decide +kernel
theorem dX1_borne_164 : decode cX1_borne 164 = .ok (.lreturn, 1) := by decide +kernel
theorem dX1_borne_165 : decode cX1_borne 165 = .ok (.lload 11, 2) := by decide +kernel
theorem dX1_borne_167 : decode cX1_borne 167 = .ok (.ldc2_w 75, 3) := by decide +kernel
theorem dX1_borne_170 : decode cX1_borne 170 = .ok (.lxor, 1) := by decide +kernel
theorem dX1_borne_171 : decode cX1_borne 171 = .ok (.lreturn, 1) := by decide +kernel
def VX1_borne_107 (d : Nat) (c15 : Nat → Nat → Int → Int → Int → BitVec 64 → BitVec 64 → BitVec 64 → BitVec 64 → Int → MS → Prop) (Q : Out → MS → Prop) (x0 : Nat) (x1 : Nat) (x2 : Int) (x3 : Int) (x4 : Int) (x5 : BitVec 64) (x7 : BitVec 64) (x9 : BitVec 64) (x11 : BitVec 64) (x13 : Int) (S : MS) : Prop :=
  c15 x0 x1 x2 x3 x4 x5 x7 x9 x11 (x13 + 1) S
theorem JX1_borne_107 {d : Nat} {c15 : Nat → Nat → Int → Int → Int → BitVec 64 → BitVec 64 → BitVec 64 → BitVec 64 → Int → MS → Prop} {S0 : MS} {Q : Out → MS → Prop} (hc15 : ∀ (x0 : Nat) (x1 : Nat) (x2 : Int) (x3 : Int) (x4 : Int) (x5 : BitVec 64) (x7 : BitVec 64) (x9 : BitVec 64) (x11 : BitVec 64) (x13 : Int) (S : MS), c15 x0 x1 x2 x3 x4 x5 x7 x9 x11 x13 S → Jw FinM RX1 cX1_borne 16 (some .long) [] yX1_borne (d + 1) S0 S 15 [(0, vA x0), (1, vA x1), (2, vI x2), (3, vI x3), (4, vI x4), (5, vL x5), (7, vL x7), (9, vL x9), (11, vL x11), (13, vI x13)] [] Q) (x0 : Nat) (x1 : Nat) (x2 : Int) (x3 : Int) (x4 : Int) (x5 : BitVec 64) (x7 : BitVec 64) (x9 : BitVec 64) (x11 : BitVec 64) (x13 : Int) (S : MS) (h : VX1_borne_107 d c15 Q x0 x1 x2 x3 x4 x5 x7 x9 x11 x13 S) : Jw FinM RX1 cX1_borne 16 (some .long) [] yX1_borne (d + 1) S0 S 107 [(0, vA x0), (1, vA x1), (2, vI x2), (3, vI x3), (4, vI x4), (5, vL x5), (7, vL x7), (9, vL x9), (11, vL x11), (13, vI x13)] [] Q :=
  j_iinc 9 (lv2 := [(13, vI (x13 + 1)), (0, vA x0), (1, vA x1), (2, vI x2), (3, vI x3), (4, vI x4), (5, vL x5), (7, vL x7), (9, vL x9), (11, vL x11)]) dX1_borne_107 rfl (by decide) rfl (j_goto (tgt := 15) dX1_borne_110 (by decide) (j_sub [1, 2, 3, 4, 5, 6, 7, 8, 9, 0] rfl (hc15 _ _ _ _ _ _ _ _ _ _ _ h)))
def VX1_borne_15 (d : Nat) (Q : Out → MS → Prop) : Nat → Nat → Nat → Int → Int → Int → BitVec 64 → BitVec 64 → BitVec 64 → BitVec 64 → Int → MS → Prop
  | 0, _, _, _, _, _, _, _, _, _, _, _ => False
  | n + 1, x0, x1, x2, x3, x4, x5, x7, x9, x11, x13, S => S.K x1 = 7 ∧ ((R32 x13 ∧ R32 (S.I x1 9)) ∧ (((S.I x1 9) ≤ x13) → S.K x1 = 7 ∧ ∃ b1, S.R x1 3 = some b1 ∧ ((S.K b1 = 13 ∧ 0 ≤ x2 ∧ x2 < S.N b1) ∧ (R32 (S.I b1 (x2).toNat) ∧ (((S.I b1 (x2).toNat) = 0 → Q (.inl (some (vL (x5 ^^^ (18446744073709551615#64))))) S) ∧ (((S.I b1 (x2).toNat) = 1 → Q (.inl (some (vL (x7 ^^^ (18446744073709551615#64))))) S) ∧ (((S.I b1 (x2).toNat) = 2 → Q (.inl (some (vL (x9 ^^^ (18446744073709551615#64))))) S) ∧ (((S.I b1 (x2).toNat) < 0 ∨ 2 < (S.I b1 (x2).toNat)) → Q (.inl (some (vL (x11 ^^^ (18446744073709551615#64))))) S))))))) ∧ (¬ ((S.I x1 9) ≤ x13) → S.K x1 = 7 ∧ ∃ b2, S.R x1 4 = some b2 ∧ ((S.K b2 = 13 ∧ 0 ≤ x13 ∧ x13 < S.N b2) ∧ ((R32 (S.I b2 (x13).toNat) ∧ R32 x2) ∧ (¬ ((S.I b2 (x13).toNat) = x2) → VX1_borne_107 d (VX1_borne_15 d Q n) Q x0 x1 x2 x3 x4 x5 x7 x9 x11 x13 S) ∧ (((S.I b2 (x13).toNat) = x2) → (R32 x13 ∧ R32 x3) ∧ ((x13 = x3) → VX1_borne_107 d (VX1_borne_15 d Q n) Q x0 x1 x2 x3 x4 x5 x7 x9 x11 x13 S) ∧ (¬ (x13 = x3) → S.K x0 = 1 ∧ ∃ b3, S.R x0 0 = some b3 ∧ ((S.K b3 = 20 ∧ (17 ≤ 20 ∧ 20 < 21) ∧ 0 ≤ x13 ∧ x13 < S.N b3) ∧ ∃ b4, S.R b3 (x13).toNat = some b4 ∧ ((12 ≤ S.K b4 ∧ S.K b4 < 21) ∧ ((R32 x4 ∧ R32 ((S.N b4 : Int))) ∧ ((((S.N b4 : Int)) ≤ x4) → VX1_borne_107 d (VX1_borne_15 d Q n) Q x0 x1 x2 x3 x4 x5 x7 x9 x11 x13 S) ∧ (¬ (((S.N b4 : Int)) ≤ x4) → S.K x0 = 1 ∧ ∃ b5, S.R x0 0 = some b5 ∧ ((S.K b5 = 20 ∧ (17 ≤ 20 ∧ 20 < 21) ∧ 0 ≤ x13 ∧ x13 < S.N b5) ∧ ∃ b6, S.R b5 (x13).toNat = some b6 ∧ ((S.K b6 = 14 ∧ 0 ≤ x4 ∧ x4 < S.N b6) ∧ (VX1_borne_107 d (VX1_borne_15 d Q n) Q x0 x1 x2 x3 x4 (x5 ||| ((S.J b6 (x4).toNat) ^^^ (18446744073709551615#64))) (x7 ||| (x5 &&& ((S.J b6 (x4).toNat) ^^^ (18446744073709551615#64)))) (x9 ||| (x7 &&& ((S.J b6 (x4).toNat) ^^^ (18446744073709551615#64)))) (x11 ||| (x9 &&& ((S.J b6 (x4).toNat) ^^^ (18446744073709551615#64)))) x13 S)))))))))))))
theorem JX1_borne_15 {d : Nat} {S0 : MS} {Q : Out → MS → Prop} : ∀ (n : Nat) (x0 : Nat) (x1 : Nat) (x2 : Int) (x3 : Int) (x4 : Int) (x5 : BitVec 64) (x7 : BitVec 64) (x9 : BitVec 64) (x11 : BitVec 64) (x13 : Int) (S : MS), VX1_borne_15 d Q n x0 x1 x2 x3 x4 x5 x7 x9 x11 x13 S → Jw FinM RX1 cX1_borne 16 (some .long) [] yX1_borne (d + 1) S0 S 15 [(0, vA x0), (1, vA x1), (2, vI x2), (3, vI x3), (4, vI x4), (5, vL x5), (7, vL x7), (9, vL x9), (11, vL x11), (13, vI x13)] [] Q := by
  intro n
  induction n with
  | zero => intro x0 x1 x2 x3 x4 x5 x7 x9 x11 x13 S h; exact h.elim
  | succ n ih =>
    intro x0 x1 x2 x3 x4 x5 x7 x9 x11 x13 S h
    exact j_iload 9 dX1_borne_15 rfl (j_aload_n 1 dX1_borne_17 rfl (j_getI 7 9 f_RX1_16 dX1_borne_18 h (fun h => j_icmp_ge (tgt := 113) dX1_borne_21 (by decide) h (fun h => j_aload_n 1 dX1_borne_113 rfl (j_getR 7 3 f_RX1_77 dX1_borne_114 h (fun b1 h => j_iload_n 2 dX1_borne_117 rfl (j_iald dX1_borne_118 h (fun h => (have hr := h.1; have h := h.2; j_tswC (cv := 0) (tgt := 144) dX1_borne_119 hr (by decide) (by decide) rfl (by decide) h (fun h => j_lload 5 dX1_borne_144 rfl (j_ldc2 dX1_borne_146 w_3_8 rfl (j_lxor dX1_borne_149 (j_lret rfl dX1_borne_150 h)))) (fun hne0 h => j_tswC (cv := 1) (tgt := 151) dX1_borne_119 hr (by decide) (by decide) rfl (by decide) h (fun h => j_lload 6 dX1_borne_151 rfl (j_ldc2 dX1_borne_153 w_3_8 rfl (j_lxor dX1_borne_156 (j_lret rfl dX1_borne_157 h)))) (fun hne1 h => j_tswC (cv := 2) (tgt := 158) dX1_borne_119 hr (by decide) (by decide) rfl (by decide) h (fun h => j_lload 7 dX1_borne_158 rfl (j_ldc2 dX1_borne_160 w_3_8 rfl (j_lxor dX1_borne_163 (j_lret rfl dX1_borne_164 h)))) (fun hne2 h => j_tswD (tgt := 165) dX1_borne_119 hr (tsw_2 hne0 hne1 hne2) (by decide) h (fun h => j_lload 8 dX1_borne_165 rfl (j_ldc2 dX1_borne_167 w_3_8 rfl (j_lxor dX1_borne_170 (j_lret rfl dX1_borne_171 h))))))))))))) (fun h => j_aload_n 1 dX1_borne_24 rfl (j_getR 7 4 f_RX1_72 dX1_borne_25 h (fun b2 h => j_iload 9 dX1_borne_28 rfl (j_iald dX1_borne_30 h (fun h => j_iload_n 2 dX1_borne_31 rfl (j_icmp_ne (tgt := 107) dX1_borne_32 (by decide) h (fun h => JX1_borne_107 ih _ _ _ _ _ _ _ _ _ _ _ h) (fun h => j_iload 9 dX1_borne_35 rfl (j_iload_n 3 dX1_borne_37 rfl (j_icmp_eq (tgt := 107) dX1_borne_38 (by decide) h (fun h => JX1_borne_107 ih _ _ _ _ _ _ _ _ _ _ _ h) (fun h => j_iload 4 dX1_borne_41 rfl (j_aload_n 0 dX1_borne_43 rfl (j_getR 1 0 f_RX1_11 dX1_borne_44 h (fun b3 h => j_iload 9 dX1_borne_47 rfl (j_aald 20 dX1_borne_49 h (fun b4 h => j_alen dX1_borne_50 h (fun h => j_icmp_ge (tgt := 107) dX1_borne_51 (by decide) h (fun h => JX1_borne_107 ih _ _ _ _ _ _ _ _ _ _ _ h) (fun h => j_aload_n 0 dX1_borne_54 rfl (j_getR 1 0 f_RX1_11 dX1_borne_55 h (fun b5 h => j_iload 9 dX1_borne_58 rfl (j_aald 20 dX1_borne_60 h (fun b6 h => j_iload 4 dX1_borne_61 rfl (j_lald dX1_borne_63 h (fun h => j_ldc2 dX1_borne_64 w_3_8 rfl (j_lxor dX1_borne_67 (j_lstore (lv2 := [(14, vL ((S.J b6 (x4).toNat) ^^^ (18446744073709551615#64))), (0, vA x0), (1, vA x1), (2, vI x2), (3, vI x3), (4, vI x4), (5, vL x5), (7, vL x7), (9, vL x9), (11, vL x11), (13, vI x13)]) dX1_borne_68 (by decide) rfl (j_lload 9 dX1_borne_70 rfl (j_lload 8 dX1_borne_72 rfl (j_lload 0 dX1_borne_74 rfl (j_land dX1_borne_76 (j_lor dX1_borne_77 (j_lstore (lv2 := [(11, vL (x11 ||| (x9 &&& ((S.J b6 (x4).toNat) ^^^ (18446744073709551615#64))))), (14, vL ((S.J b6 (x4).toNat) ^^^ (18446744073709551615#64))), (0, vA x0), (1, vA x1), (2, vI x2), (3, vI x3), (4, vI x4), (5, vL x5), (7, vL x7), (9, vL x9), (13, vI x13)]) dX1_borne_78 (by decide) rfl (j_lload 9 dX1_borne_80 rfl (j_lload 8 dX1_borne_82 rfl (j_lload 1 dX1_borne_84 rfl (j_land dX1_borne_86 (j_lor dX1_borne_87 (j_lstore (lv2 := [(9, vL (x9 ||| (x7 &&& ((S.J b6 (x4).toNat) ^^^ (18446744073709551615#64))))), (11, vL (x11 ||| (x9 &&& ((S.J b6 (x4).toNat) ^^^ (18446744073709551615#64))))), (14, vL ((S.J b6 (x4).toNat) ^^^ (18446744073709551615#64))), (0, vA x0), (1, vA x1), (2, vI x2), (3, vI x3), (4, vI x4), (5, vL x5), (7, vL x7), (13, vI x13)]) dX1_borne_88 (by decide) rfl (j_lload 9 dX1_borne_90 rfl (j_lload 8 dX1_borne_92 rfl (j_lload 2 dX1_borne_94 rfl (j_land dX1_borne_96 (j_lor dX1_borne_97 (j_lstore (lv2 := [(7, vL (x7 ||| (x5 &&& ((S.J b6 (x4).toNat) ^^^ (18446744073709551615#64))))), (9, vL (x9 ||| (x7 &&& ((S.J b6 (x4).toNat) ^^^ (18446744073709551615#64))))), (11, vL (x11 ||| (x9 &&& ((S.J b6 (x4).toNat) ^^^ (18446744073709551615#64))))), (14, vL ((S.J b6 (x4).toNat) ^^^ (18446744073709551615#64))), (0, vA x0), (1, vA x1), (2, vI x2), (3, vI x3), (4, vI x4), (5, vL x5), (13, vI x13)]) dX1_borne_98 (by decide) rfl (j_lload 9 dX1_borne_100 rfl (j_lload 3 dX1_borne_102 rfl (j_lor dX1_borne_104 (j_lstore (lv2 := [(5, vL (x5 ||| ((S.J b6 (x4).toNat) ^^^ (18446744073709551615#64)))), (7, vL (x7 ||| (x5 &&& ((S.J b6 (x4).toNat) ^^^ (18446744073709551615#64))))), (9, vL (x9 ||| (x7 &&& ((S.J b6 (x4).toNat) ^^^ (18446744073709551615#64))))), (11, vL (x11 ||| (x9 &&& ((S.J b6 (x4).toNat) ^^^ (18446744073709551615#64))))), (14, vL ((S.J b6 (x4).toNat) ^^^ (18446744073709551615#64))), (0, vA x0), (1, vA x1), (2, vI x2), (3, vI x3), (4, vI x4), (13, vI x13)]) dX1_borne_105 (by decide) rfl (j_sub [5, 6, 7, 8, 9, 0, 1, 2, 3, 10] rfl (JX1_borne_107 ih _ _ _ _ _ _ _ _ _ _ _ h))))))))))))))))))))))))))))))))))))))))))))))))))))
def VX1_borne_0 (d : Nat) (Q : Out → MS → Prop) (x0 : Nat) (x1 : Nat) (x2 : Int) (x3 : Int) (x4 : Int) (S : MS) : Prop :=
  ∃ m, VX1_borne_15 d Q m x0 x1 x2 x3 x4 (0#64) (0#64) (0#64) (0#64) 0 S
theorem JX1_borne_0 {d : Nat} {S0 : MS} {Q : Out → MS → Prop} (x0 : Nat) (x1 : Nat) (x2 : Int) (x3 : Int) (x4 : Int) (S : MS) (h : VX1_borne_0 d Q x0 x1 x2 x3 x4 S) : Jw FinM RX1 cX1_borne 16 (some .long) [] yX1_borne (d + 1) S0 S 0 [(0, vA x0), (1, vA x1), (2, vI x2), (3, vI x3), (4, vI x4)] [] Q :=
  j_lconst dX1_borne_0 rfl (j_lstore (lv2 := [(5, vL (0#64)), (0, vA x0), (1, vA x1), (2, vI x2), (3, vI x3), (4, vI x4)]) dX1_borne_1 (by decide) rfl (j_lconst dX1_borne_3 rfl (j_lstore (lv2 := [(7, vL (0#64)), (5, vL (0#64)), (0, vA x0), (1, vA x1), (2, vI x2), (3, vI x3), (4, vI x4)]) dX1_borne_4 (by decide) rfl (j_lconst dX1_borne_6 rfl (j_lstore (lv2 := [(9, vL (0#64)), (7, vL (0#64)), (5, vL (0#64)), (0, vA x0), (1, vA x1), (2, vI x2), (3, vI x3), (4, vI x4)]) dX1_borne_7 (by decide) rfl (j_lconst dX1_borne_9 rfl (j_lstore (lv2 := [(11, vL (0#64)), (9, vL (0#64)), (7, vL (0#64)), (5, vL (0#64)), (0, vA x0), (1, vA x1), (2, vI x2), (3, vI x3), (4, vI x4)]) dX1_borne_10 (by decide) rfl (j_iconst dX1_borne_12 (j_istore (lv2 := [(13, vI 0), (11, vL (0#64)), (9, vL (0#64)), (7, vL (0#64)), (5, vL (0#64)), (0, vA x0), (1, vA x1), (2, vI x2), (3, vI x3), (4, vI x4)]) dX1_borne_13 (by decide) rfl (Exists.elim h (fun m h => j_sub [5, 6, 7, 8, 9, 4, 3, 2, 1, 0] rfl (JX1_borne_15 m _ _ _ _ _ _ _ _ _ _ _ h))))))))))))
theorem MX1_borne {d : Nat} {x0 : Nat} {x1 : Nat} {x2 : Int} {x3 : Int} {x4 : Int} {S : MS} {Q : Out → MS → Prop} (h : VX1_borne_0 d Q x0 x1 x2 x3 x4 S) : Mw hX1_borne yX1_borne (d + 1) [vA x0, vA x1, vI x2, vI x3, vI x4] S Q := Mw.ofJ (by decide) (Nat.le_of_ble_eq_true rfl) (JX1_borne_0 _ _ _ _ _ S h)
theorem dX1_quarrelling_0 : decode cX1_quarrelling 0 = .ok (.iconst 0, 1) := by decide +kernel
theorem dX1_quarrelling_1 : decode cX1_quarrelling 1 = .ok (.istore_n 2, 1) := by decide +kernel
theorem dX1_quarrelling_2 : decode cX1_quarrelling 2 = .ok (.iconst 0, 1) := by decide +kernel
theorem dX1_quarrelling_3 : decode cX1_quarrelling 3 = .ok (.istore_n 3, 1) := by decide +kernel
theorem dX1_quarrelling_4 : decode cX1_quarrelling 4 = .ok (.iload_n 3, 1) := by decide +kernel
theorem dX1_quarrelling_5 : decode cX1_quarrelling 5 = .ok (.aload_n 1, 1) := by decide +kernel
theorem dX1_quarrelling_6 : decode cX1_quarrelling 6 = .ok (.getfield 16, 3) := by decide +kernel
theorem dX1_quarrelling_9 : decode cX1_quarrelling 9 = .ok (.if_icmp .ge 56, 3) := by decide +kernel
theorem dX1_quarrelling_12 : decode cX1_quarrelling 12 = .ok (.iload_n 3, 1) := by decide +kernel
theorem dX1_quarrelling_13 : decode cX1_quarrelling 13 = .ok (.iconst 1, 1) := by decide +kernel
theorem dX1_quarrelling_14 : decode cX1_quarrelling 14 = .ok (.iadd, 1) := by decide +kernel
theorem dX1_quarrelling_15 : decode cX1_quarrelling 15 = .ok (.istore 4, 2) := by decide +kernel
theorem dX1_quarrelling_17 : decode cX1_quarrelling 17 = .ok (.iload 4, 2) := by decide +kernel
theorem dX1_quarrelling_19 : decode cX1_quarrelling 19 = .ok (.aload_n 1, 1) := by decide +kernel
theorem dX1_quarrelling_20 : decode cX1_quarrelling 20 = .ok (.getfield 16, 3) := by decide +kernel
theorem dX1_quarrelling_23 : decode cX1_quarrelling 23 = .ok (.if_icmp .ge 36, 3) := by decide +kernel
theorem dX1_quarrelling_26 : decode cX1_quarrelling 26 = .ok (.iload_n 2, 1) := by decide +kernel
theorem dX1_quarrelling_27 : decode cX1_quarrelling 27 = .ok (.aload_n 0, 1) := by decide +kernel
theorem dX1_quarrelling_28 : decode cX1_quarrelling 28 = .ok (.getfield 11, 3) := by decide +kernel
theorem dX1_quarrelling_31 : decode cX1_quarrelling 31 = .ok (.iload_n 3, 1) := by decide +kernel
theorem dX1_quarrelling_32 : decode cX1_quarrelling 32 = .ok (.aaload, 1) := by decide +kernel
theorem dX1_quarrelling_33 : decode cX1_quarrelling 33 = .ok (.aload_n 0, 1) := by decide +kernel
theorem dX1_quarrelling_34 : decode cX1_quarrelling 34 = .ok (.getfield 11, 3) := by decide +kernel
theorem dX1_quarrelling_37 : decode cX1_quarrelling 37 = .ok (.iload 4, 2) := by decide +kernel
theorem dX1_quarrelling_39 : decode cX1_quarrelling 39 = .ok (.aaload, 1) := by decide +kernel
theorem dX1_quarrelling_40 : decode cX1_quarrelling 40 = .ok (.invokestatic 80, 3) := by decide +kernel
theorem dX1_quarrelling_43 : decode cX1_quarrelling 43 = .ok (.ifCond .eq 7, 3) := by decide +kernel
theorem dX1_quarrelling_46 : decode cX1_quarrelling 46 = .ok (.iconst 0, 1) := by decide +kernel
theorem dX1_quarrelling_47 : decode cX1_quarrelling 47 = .ok (.goto 4, 3) := by decide +kernel
theorem dX1_quarrelling_50 : decode cX1_quarrelling 50 = .ok (.iconst 1, 1) := by decide +kernel
theorem dX1_quarrelling_51 : decode cX1_quarrelling 51 = .ok (.iadd, 1) := by decide +kernel
theorem dX1_quarrelling_52 : decode cX1_quarrelling 52 = .ok (.istore_n 2, 1) := by decide +kernel
theorem dX1_quarrelling_53 : decode cX1_quarrelling 53 = .ok (.iinc 4 1, 3) := by decide +kernel
theorem dX1_quarrelling_56 : decode cX1_quarrelling 56 = .ok (.goto (-39), 3) := by decide +kernel
theorem dX1_quarrelling_59 : decode cX1_quarrelling 59 = .ok (.iinc 3 1, 3) := by decide +kernel
theorem dX1_quarrelling_62 : decode cX1_quarrelling 62 = .ok (.goto (-58), 3) := by decide +kernel
theorem dX1_quarrelling_65 : decode cX1_quarrelling 65 = .ok (.iload_n 2, 1) := by decide +kernel
theorem dX1_quarrelling_66 : decode cX1_quarrelling 66 = .ok (.ireturn, 1) := by decide +kernel
def VX1_quarrelling_51 (d : Nat) (c4 : Nat → Nat → Int → Int → MS → Prop) (c17 : Nat → Nat → Int → Int → Int → MS → Prop) (Q : Out → MS → Prop) (x0 : Nat) (x1 : Nat) (x3 : Int) (x4 : Int) (t0 : Int) (t1 : Int) (S : MS) : Prop :=
  c17 x0 x1 (t1 + t0) x3 (x4 + 1) S
theorem JX1_quarrelling_51 {d : Nat} {c4 : Nat → Nat → Int → Int → MS → Prop} {c17 : Nat → Nat → Int → Int → Int → MS → Prop} {S0 : MS} {Q : Out → MS → Prop} (hc4 : ∀ (x0 : Nat) (x1 : Nat) (x2 : Int) (x3 : Int) (S : MS), c4 x0 x1 x2 x3 S → Jw FinM RX1 cX1_quarrelling 5 (some .int) [] yX1_quarrelling (d + 1) S0 S 4 [(0, vA x0), (1, vA x1), (2, vI x2), (3, vI x3)] [] Q) (hc17 : ∀ (x0 : Nat) (x1 : Nat) (x2 : Int) (x3 : Int) (x4 : Int) (S : MS), c17 x0 x1 x2 x3 x4 S → Jw FinM RX1 cX1_quarrelling 5 (some .int) [] yX1_quarrelling (d + 1) S0 S 17 [(0, vA x0), (1, vA x1), (2, vI x2), (3, vI x3), (4, vI x4)] [] Q) (x0 : Nat) (x1 : Nat) (x3 : Int) (x4 : Int) (t0 : Int) (t1 : Int) (S : MS) (h : VX1_quarrelling_51 d c4 c17 Q x0 x1 x3 x4 t0 t1 S) : Jw FinM RX1 cX1_quarrelling 5 (some .int) [] yX1_quarrelling (d + 1) S0 S 51 [(0, vA x0), (1, vA x1), (3, vI x3), (4, vI x4)] [vI t0, vI t1] Q :=
  j_iadd dX1_quarrelling_51 (j_istore_n (lv2 := [(2, vI (t1 + t0)), (0, vA x0), (1, vA x1), (3, vI x3), (4, vI x4)]) dX1_quarrelling_52 (by decide) rfl (j_iinc 4 (lv2 := [(4, vI (x4 + 1)), (2, vI (t1 + t0)), (0, vA x0), (1, vA x1), (3, vI x3)]) dX1_quarrelling_53 rfl (by decide) rfl (j_goto (tgt := 17) dX1_quarrelling_56 (by decide) (j_sub [2, 3, 1, 4, 0] rfl (hc17 _ _ _ _ _ _ h)))))
def VX1_quarrelling_17 (d : Nat) (c4 : Nat → Nat → Int → Int → MS → Prop) (Q : Out → MS → Prop) : Nat → Nat → Nat → Int → Int → Int → MS → Prop
  | 0, _, _, _, _, _, _ => False
  | n + 1, x0, x1, x2, x3, x4, S => S.K x1 = 7 ∧ ((R32 x4 ∧ R32 (S.I x1 9)) ∧ (((S.I x1 9) ≤ x4) → c4 x0 x1 x2 (x3 + 1) S) ∧ (¬ ((S.I x1 9) ≤ x4) → S.K x0 = 1 ∧ ∃ b1, S.R x0 0 = some b1 ∧ ((S.K b1 = 20 ∧ (17 ≤ 20 ∧ 20 < 21) ∧ 0 ≤ x3 ∧ x3 < S.N b1) ∧ ∃ b2, S.R b1 (x3).toNat = some b2 ∧ (S.K x0 = 1 ∧ ∃ b3, S.R x0 0 = some b3 ∧ ((S.K b3 = 20 ∧ (17 ≤ 20 ∧ 20 < 21) ∧ 0 ≤ x4 ∧ x4 < S.N b3) ∧ ∃ b4, S.R b3 (x4).toNat = some b4 ∧ (Mw hX1_agree yX1_agree d [vA b2, vA b4] S (oI (fun r5 S5 => R32 r5 ∧ ((r5 = 0) → VX1_quarrelling_51 d c4 (VX1_quarrelling_17 d c4 Q n) Q x0 x1 x3 x4 1 x2 S5) ∧ (¬ (r5 = 0) → VX1_quarrelling_51 d c4 (VX1_quarrelling_17 d c4 Q n) Q x0 x1 x3 x4 0 x2 S5)))))))))
theorem JX1_quarrelling_17 {d : Nat} {c4 : Nat → Nat → Int → Int → MS → Prop} {S0 : MS} {Q : Out → MS → Prop} (hc4 : ∀ (x0 : Nat) (x1 : Nat) (x2 : Int) (x3 : Int) (S : MS), c4 x0 x1 x2 x3 S → Jw FinM RX1 cX1_quarrelling 5 (some .int) [] yX1_quarrelling (d + 1) S0 S 4 [(0, vA x0), (1, vA x1), (2, vI x2), (3, vI x3)] [] Q) : ∀ (n : Nat) (x0 : Nat) (x1 : Nat) (x2 : Int) (x3 : Int) (x4 : Int) (S : MS), VX1_quarrelling_17 d c4 Q n x0 x1 x2 x3 x4 S → Jw FinM RX1 cX1_quarrelling 5 (some .int) [] yX1_quarrelling (d + 1) S0 S 17 [(0, vA x0), (1, vA x1), (2, vI x2), (3, vI x3), (4, vI x4)] [] Q := by
  intro n
  induction n with
  | zero => intro x0 x1 x2 x3 x4 S h; exact h.elim
  | succ n ih =>
    intro x0 x1 x2 x3 x4 S h
    exact j_iload 4 dX1_quarrelling_17 rfl (j_aload_n 1 dX1_quarrelling_19 rfl (j_getI 7 9 f_RX1_16 dX1_quarrelling_20 h (fun h => j_icmp_ge (tgt := 59) dX1_quarrelling_23 (by decide) h (fun h => j_iinc 3 (lv2 := [(3, vI (x3 + 1)), (0, vA x0), (1, vA x1), (2, vI x2), (4, vI x4)]) dX1_quarrelling_59 rfl (by decide) rfl (j_goto (tgt := 4) dX1_quarrelling_62 (by decide) (j_sub [1, 2, 3, 0] rfl (hc4 _ _ _ _ _ h)))) (fun h => j_iload_n 2 dX1_quarrelling_26 rfl (j_aload_n 0 dX1_quarrelling_27 rfl (j_getR 1 0 f_RX1_11 dX1_quarrelling_28 h (fun b1 h => j_iload_n 3 dX1_quarrelling_31 rfl (j_aald 20 dX1_quarrelling_32 h (fun b2 h => j_aload_n 0 dX1_quarrelling_33 rfl (j_getR 1 0 f_RX1_11 dX1_quarrelling_34 h (fun b3 h => j_iload 4 dX1_quarrelling_37 rfl (j_aald 20 dX1_quarrelling_39 h (fun b4 h => j_callS (rest := [vI x2]) [vA b2, vA b4] k_RX1_80 w_3_93 rfl rfl (Nat.le_of_ble_eq_true rfl) dX1_quarrelling_40 h (kI (fun r5 S5 h => j_if_eq (tgt := 50) dX1_quarrelling_43 (by decide) h (fun h => j_iconst dX1_quarrelling_50 (j_sub [0, 1, 3, 4] rfl (JX1_quarrelling_51 hc4 ih _ _ _ _ _ _ _ h))) (fun h => j_iconst dX1_quarrelling_46 (j_goto (tgt := 51) dX1_quarrelling_47 (by decide) (j_sub [0, 1, 3, 4] rfl (JX1_quarrelling_51 hc4 ih _ _ _ _ _ _ _ h)))))) (fun _ _ h => h.elim))))))))))))))
def VX1_quarrelling_4 (d : Nat) (Q : Out → MS → Prop) : Nat → Nat → Nat → Int → Int → MS → Prop
  | 0, _, _, _, _, _ => False
  | n + 1, x0, x1, x2, x3, S => S.K x1 = 7 ∧ ((R32 x3 ∧ R32 (S.I x1 9)) ∧ (((S.I x1 9) ≤ x3) → Q (.inl (some (vI x2))) S) ∧ (¬ ((S.I x1 9) ≤ x3) → ∃ m, VX1_quarrelling_17 d (VX1_quarrelling_4 d Q n) Q m x0 x1 x2 x3 (x3 + 1) S))
theorem JX1_quarrelling_4 {d : Nat} {S0 : MS} {Q : Out → MS → Prop} : ∀ (n : Nat) (x0 : Nat) (x1 : Nat) (x2 : Int) (x3 : Int) (S : MS), VX1_quarrelling_4 d Q n x0 x1 x2 x3 S → Jw FinM RX1 cX1_quarrelling 5 (some .int) [] yX1_quarrelling (d + 1) S0 S 4 [(0, vA x0), (1, vA x1), (2, vI x2), (3, vI x3)] [] Q := by
  intro n
  induction n with
  | zero => intro x0 x1 x2 x3 S h; exact h.elim
  | succ n ih =>
    intro x0 x1 x2 x3 S h
    exact j_iload_n 3 dX1_quarrelling_4 rfl (j_aload_n 1 dX1_quarrelling_5 rfl (j_getI 7 9 f_RX1_16 dX1_quarrelling_6 h (fun h => j_icmp_ge (tgt := 65) dX1_quarrelling_9 (by decide) h (fun h => j_iload_n 2 dX1_quarrelling_65 rfl (j_iret rfl dX1_quarrelling_66 h)) (fun h => j_iload_n 3 dX1_quarrelling_12 rfl (j_iconst dX1_quarrelling_13 (j_iadd dX1_quarrelling_14 (j_istore (lv2 := [(4, vI (x3 + 1)), (0, vA x0), (1, vA x1), (2, vI x2), (3, vI x3)]) dX1_quarrelling_15 (by decide) rfl (Exists.elim h (fun m h => j_sub [1, 2, 3, 4, 0] rfl (JX1_quarrelling_17 ih m _ _ _ _ _ _ h))))))))))
def VX1_quarrelling_0 (d : Nat) (Q : Out → MS → Prop) (x0 : Nat) (x1 : Nat) (S : MS) : Prop :=
  ∃ m, VX1_quarrelling_4 d Q m x0 x1 0 0 S
theorem JX1_quarrelling_0 {d : Nat} {S0 : MS} {Q : Out → MS → Prop} (x0 : Nat) (x1 : Nat) (S : MS) (h : VX1_quarrelling_0 d Q x0 x1 S) : Jw FinM RX1 cX1_quarrelling 5 (some .int) [] yX1_quarrelling (d + 1) S0 S 0 [(0, vA x0), (1, vA x1)] [] Q :=
  j_iconst dX1_quarrelling_0 (j_istore_n (lv2 := [(2, vI 0), (0, vA x0), (1, vA x1)]) dX1_quarrelling_1 (by decide) rfl (j_iconst dX1_quarrelling_2 (j_istore_n (lv2 := [(3, vI 0), (2, vI 0), (0, vA x0), (1, vA x1)]) dX1_quarrelling_3 (by decide) rfl (Exists.elim h (fun m h => j_sub [2, 3, 1, 0] rfl (JX1_quarrelling_4 m _ _ _ _ _ h))))))
theorem MX1_quarrelling {d : Nat} {x0 : Nat} {x1 : Nat} {S : MS} {Q : Out → MS → Prop} (h : VX1_quarrelling_0 d Q x0 x1 S) : Mw hX1_quarrelling yX1_quarrelling (d + 1) [vA x0, vA x1] S Q := Mw.ofJ (by decide) (Nat.le_of_ble_eq_true rfl) (JX1_quarrelling_0 _ _ S h)
theorem dX1_agree_0 : decode cX1_agree 0 = .ok (.iconst 0, 1) := by decide +kernel
theorem dX1_agree_1 : decode cX1_agree 1 = .ok (.istore_n 2, 1) := by decide +kernel
theorem dX1_agree_2 : decode cX1_agree 2 = .ok (.iload_n 2, 1) := by decide +kernel
theorem dX1_agree_3 : decode cX1_agree 3 = .ok (.aload_n 0, 1) := by decide +kernel
theorem dX1_agree_4 : decode cX1_agree 4 = .ok (.arraylength, 1) := by decide +kernel
theorem dX1_agree_5 : decode cX1_agree 5 = .ok (.if_icmp .ge 29, 3) := by decide +kernel
theorem dX1_agree_8 : decode cX1_agree 8 = .ok (.iload_n 2, 1) := by decide +kernel
theorem dX1_agree_9 : decode cX1_agree 9 = .ok (.aload_n 1, 1) := by decide +kernel
theorem dX1_agree_10 : decode cX1_agree 10 = .ok (.arraylength, 1) := by decide +kernel
theorem dX1_agree_11 : decode cX1_agree 11 = .ok (.if_icmp .ge 23, 3) := by decide +kernel
theorem dX1_agree_14 : decode cX1_agree 14 = .ok (.aload_n 0, 1) := by decide +kernel
theorem dX1_agree_15 : decode cX1_agree 15 = .ok (.iload_n 2, 1) := by decide +kernel
theorem dX1_agree_16 : decode cX1_agree 16 = .ok (.laload, 1) := by decide +kernel
theorem dX1_agree_17 : decode cX1_agree 17 = .ok (.aload_n 1, 1) := by decide +kernel
theorem dX1_agree_18 : decode cX1_agree 18 = .ok (.iload_n 2, 1) := by decide +kernel
theorem dX1_agree_19 : decode cX1_agree 19 = .ok (.laload, 1) := by decide +kernel
theorem dX1_agree_20 : decode cX1_agree 20 = .ok (.land, 1) := by decide +kernel
theorem dX1_agree_21 : decode cX1_agree 21 = .ok (.lconst 0, 1) := by decide +kernel
theorem dX1_agree_22 : decode cX1_agree 22 = .ok (.lcmp, 1) := by decide +kernel
theorem dX1_agree_23 : decode cX1_agree 23 = .ok (.ifCond .eq 5, 3) := by decide +kernel
theorem dX1_agree_26 : decode cX1_agree 26 = .ok (.iconst 1, 1) := by decide +kernel
theorem dX1_agree_27 : decode cX1_agree 27 = .ok (.ireturn, 1) := by decide +kernel
theorem dX1_agree_28 : decode cX1_agree 28 = .ok (.iinc 2 1, 3) := by decide +kernel
theorem dX1_agree_31 : decode cX1_agree 31 = .ok (.goto (-29), 3) := by decide +kernel
theorem dX1_agree_34 : decode cX1_agree 34 = .ok (.iconst 0, 1) := by decide +kernel
theorem dX1_agree_35 : decode cX1_agree 35 = .ok (.ireturn, 1) := by decide +kernel
def VX1_agree_2 (d : Nat) (Q : Out → MS → Prop) : Nat → Nat → Nat → Int → MS → Prop
  | 0, _, _, _, _ => False
  | n + 1, x0, x1, x2, S => (12 ≤ S.K x0 ∧ S.K x0 < 21) ∧ ((R32 x2 ∧ R32 ((S.N x0 : Int))) ∧ ((((S.N x0 : Int)) ≤ x2) → B01 0 ∧ Q (.inl (some (vI 0))) S) ∧ (¬ (((S.N x0 : Int)) ≤ x2) → (12 ≤ S.K x1 ∧ S.K x1 < 21) ∧ ((R32 x2 ∧ R32 ((S.N x1 : Int))) ∧ ((((S.N x1 : Int)) ≤ x2) → B01 0 ∧ Q (.inl (some (vI 0))) S) ∧ (¬ (((S.N x1 : Int)) ≤ x2) → (S.K x0 = 14 ∧ 0 ≤ x2 ∧ x2 < S.N x0) ∧ ((S.K x1 = 14 ∧ 0 ≤ x2 ∧ x2 < S.N x1) ∧ (R32 (lCmp ((S.J x0 (x2).toNat) &&& (S.J x1 (x2).toNat)) (0#64)) ∧ (((lCmp ((S.J x0 (x2).toNat) &&& (S.J x1 (x2).toNat)) (0#64)) = 0) → (VX1_agree_2 d Q n) x0 x1 (x2 + 1) S) ∧ (¬ ((lCmp ((S.J x0 (x2).toNat) &&& (S.J x1 (x2).toNat)) (0#64)) = 0) → B01 1 ∧ Q (.inl (some (vI 1))) S)))))))
theorem JX1_agree_2 {d : Nat} {S0 : MS} {Q : Out → MS → Prop} : ∀ (n : Nat) (x0 : Nat) (x1 : Nat) (x2 : Int) (S : MS), VX1_agree_2 d Q n x0 x1 x2 S → Jw FinM RX1 cX1_agree 3 (some .boolean) [] yX1_agree (d + 1) S0 S 2 [(0, vA x0), (1, vA x1), (2, vI x2)] [] Q := by
  intro n
  induction n with
  | zero => intro x0 x1 x2 S h; exact h.elim
  | succ n ih =>
    intro x0 x1 x2 S h
    exact j_iload_n 2 dX1_agree_2 rfl (j_aload_n 0 dX1_agree_3 rfl (j_alen dX1_agree_4 h (fun h => j_icmp_ge (tgt := 34) dX1_agree_5 (by decide) h (fun h => j_iconst dX1_agree_34 (j_zret rfl dX1_agree_35 h)) (fun h => j_iload_n 2 dX1_agree_8 rfl (j_aload_n 1 dX1_agree_9 rfl (j_alen dX1_agree_10 h (fun h => j_icmp_ge (tgt := 34) dX1_agree_11 (by decide) h (fun h => j_iconst dX1_agree_34 (j_zret rfl dX1_agree_35 h)) (fun h => j_aload_n 0 dX1_agree_14 rfl (j_iload_n 2 dX1_agree_15 rfl (j_lald dX1_agree_16 h (fun h => j_aload_n 1 dX1_agree_17 rfl (j_iload_n 2 dX1_agree_18 rfl (j_lald dX1_agree_19 h (fun h => j_land dX1_agree_20 (j_lconst dX1_agree_21 rfl (j_lcmp dX1_agree_22 (j_if_eq (tgt := 28) dX1_agree_23 (by decide) h (fun h => j_iinc 2 (lv2 := [(2, vI (x2 + 1)), (0, vA x0), (1, vA x1)]) dX1_agree_28 rfl (by decide) rfl (j_goto (tgt := 2) dX1_agree_31 (by decide) (j_sub [1, 2, 0] rfl (ih _ _ _ _ h)))) (fun h => j_iconst dX1_agree_26 (j_zret rfl dX1_agree_27 h)))))))))))))))))))
def VX1_agree_0 (d : Nat) (Q : Out → MS → Prop) (x0 : Nat) (x1 : Nat) (S : MS) : Prop :=
  ∃ m, VX1_agree_2 d Q m x0 x1 0 S
theorem JX1_agree_0 {d : Nat} {S0 : MS} {Q : Out → MS → Prop} (x0 : Nat) (x1 : Nat) (S : MS) (h : VX1_agree_0 d Q x0 x1 S) : Jw FinM RX1 cX1_agree 3 (some .boolean) [] yX1_agree (d + 1) S0 S 0 [(0, vA x0), (1, vA x1)] [] Q :=
  j_iconst dX1_agree_0 (j_istore_n (lv2 := [(2, vI 0), (0, vA x0), (1, vA x1)]) dX1_agree_1 (by decide) rfl (Exists.elim h (fun m h => j_sub [1, 2, 0] rfl (JX1_agree_2 m _ _ _ _ h))))
theorem MX1_agree {d : Nat} {x0 : Nat} {x1 : Nat} {S : MS} {Q : Out → MS → Prop} (h : VX1_agree_0 d Q x0 x1 S) : Mw hX1_agree yX1_agree (d + 1) [vA x0, vA x1] S Q := Mw.ofJ (by decide) (Nat.le_of_ble_eq_true rfl) (JX1_agree_0 _ _ S h)
theorem dX1_leastProof_0 : decode cX1_leastProof 0 = .ok (.aload_n 3, 1) := by decide +kernel
theorem dX1_leastProof_1 : decode cX1_leastProof 1 = .ok (.iconst 0, 1) := by decide +kernel
theorem dX1_leastProof_2 : decode cX1_leastProof 2 = .ok (.aaload, 1) := by decide +kernel
theorem dX1_leastProof_3 : decode cX1_leastProof 3 = .ok (.aload_n 2, 1) := by decide +kernel
theorem dX1_leastProof_4 : decode cX1_leastProof 4 = .ok (.getfield 57, 3) := by decide +kernel
theorem dX1_leastProof_7 : decode cX1_leastProof 7 = .ok (.invokevirtual 84, 3) := by decide +kernel
theorem dX1_leastProof_10 : decode cX1_leastProof 10 = .ok (.iconst 0, 1) := by decide +kernel
theorem dX1_leastProof_11 : decode cX1_leastProof 11 = .ok (.istore 4, 2) := by decide +kernel
theorem dX1_leastProof_13 : decode cX1_leastProof 13 = .ok (.iload 4, 2) := by decide +kernel
theorem dX1_leastProof_15 : decode cX1_leastProof 15 = .ok (.aload_n 1, 1) := by decide +kernel
theorem dX1_leastProof_16 : decode cX1_leastProof 16 = .ok (.getfield 16, 3) := by decide +kernel
theorem dX1_leastProof_19 : decode cX1_leastProof 19 = .ok (.if_icmp .ge 22, 3) := by decide +kernel
theorem dX1_leastProof_22 : decode cX1_leastProof 22 = .ok (.aload_n 3, 1) := by decide +kernel
theorem dX1_leastProof_23 : decode cX1_leastProof 23 = .ok (.iconst 0, 1) := by decide +kernel
theorem dX1_leastProof_24 : decode cX1_leastProof 24 = .ok (.aaload, 1) := by decide +kernel
theorem dX1_leastProof_25 : decode cX1_leastProof 25 = .ok (.aload_n 0, 1) := by decide +kernel
theorem dX1_leastProof_26 : decode cX1_leastProof 26 = .ok (.getfield 11, 3) := by decide +kernel
theorem dX1_leastProof_29 : decode cX1_leastProof 29 = .ok (.iload 4, 2) := by decide +kernel
theorem dX1_leastProof_31 : decode cX1_leastProof 31 = .ok (.aaload, 1) := by decide +kernel
theorem dX1_leastProof_32 : decode cX1_leastProof 32 = .ok (.invokevirtual 88, 3) := by decide +kernel
theorem dX1_leastProof_35 : decode cX1_leastProof 35 = .ok (.iinc 4 1, 3) := by decide +kernel
theorem dX1_leastProof_38 : decode cX1_leastProof 38 = .ok (.goto (-25), 3) := by decide +kernel
theorem dX1_leastProof_41 : decode cX1_leastProof 41 = .ok (.aload_n 3, 1) := by decide +kernel
theorem dX1_leastProof_42 : decode cX1_leastProof 42 = .ok (.iconst 0, 1) := by decide +kernel
theorem dX1_leastProof_43 : decode cX1_leastProof 43 = .ok (.aaload, 1) := by decide +kernel
theorem dX1_leastProof_44 : decode cX1_leastProof 44 = .ok (.getfield 91, 3) := by decide +kernel
theorem dX1_leastProof_47 : decode cX1_leastProof 47 = .ok (.ifCond .le 5, 3) := by decide +kernel
theorem dX1_leastProof_50 : decode cX1_leastProof 50 = .ok (.iconst 0, 1) := by decide +kernel
theorem dX1_leastProof_51 : decode cX1_leastProof 51 = .ok (.ireturn, 1) := by decide +kernel
theorem dX1_leastProof_52 : decode cX1_leastProof 52 = .ok (.aload_n 3, 1) := by decide +kernel
theorem dX1_leastProof_53 : decode cX1_leastProof 53 = .ok (.iconst 0, 1) := by decide +kernel
theorem dX1_leastProof_54 : decode cX1_leastProof 54 = .ok (.aaload, 1) := by decide +kernel
theorem dX1_leastProof_55 : decode cX1_leastProof 55 = .ok (.aload_n 2, 1) := by decide +kernel
theorem dX1_leastProof_56 : decode cX1_leastProof 56 = .ok (.getfield 57, 3) := by decide +kernel
theorem dX1_leastProof_59 : decode cX1_leastProof 59 = .ok (.invokevirtual 84, 3) := by decide +kernel
theorem dX1_leastProof_62 : decode cX1_leastProof 62 = .ok (.iconst 0, 1) := by decide +kernel
theorem dX1_leastProof_63 : decode cX1_leastProof 63 = .ok (.istore 4, 2) := by decide +kernel
theorem dX1_leastProof_65 : decode cX1_leastProof 65 = .ok (.iconst 1, 1) := by decide +kernel
theorem dX1_leastProof_66 : decode cX1_leastProof 66 = .ok (.istore 5, 2) := by decide +kernel
theorem dX1_leastProof_68 : decode cX1_leastProof 68 = .ok (.iload 5, 2) := by decide +kernel
theorem dX1_leastProof_70 : decode cX1_leastProof 70 = .ok (.aload_n 1, 1) := by decide +kernel
theorem dX1_leastProof_71 : decode cX1_leastProof 71 = .ok (.getfield 16, 3) := by decide +kernel
theorem dX1_leastProof_74 : decode cX1_leastProof 74 = .ok (.if_icmp .gt 29, 3) := by decide +kernel
theorem dX1_leastProof_77 : decode cX1_leastProof 77 = .ok (.iload 4, 2) := by decide +kernel
theorem dX1_leastProof_79 : decode cX1_leastProof 79 = .ok (.ifCond .ne 24, 3) := by decide +kernel
theorem dX1_leastProof_82 : decode cX1_leastProof 82 = .ok (.aload_n 0, 1) := by decide +kernel
theorem dX1_leastProof_83 : decode cX1_leastProof 83 = .ok (.aload_n 3, 1) := by decide +kernel
theorem dX1_leastProof_84 : decode cX1_leastProof 84 = .ok (.iconst 0, 1) := by decide +kernel
theorem dX1_leastProof_85 : decode cX1_leastProof 85 = .ok (.iconst 0, 1) := by decide +kernel
theorem dX1_leastProof_86 : decode cX1_leastProof 86 = .ok (.iload 5, 2) := by decide +kernel
theorem dX1_leastProof_88 : decode cX1_leastProof 88 = .ok (.aload_n 1, 1) := by decide +kernel
theorem dX1_leastProof_89 : decode cX1_leastProof 89 = .ok (.getfield 16, 3) := by decide +kernel
theorem dX1_leastProof_92 : decode cX1_leastProof 92 = .ok (.invokevirtual 94, 3) := by decide +kernel
theorem dX1_leastProof_95 : decode cX1_leastProof 95 = .ok (.istore 4, 2) := by decide +kernel
theorem dX1_leastProof_97 : decode cX1_leastProof 97 = .ok (.iinc 5 1, 3) := by decide +kernel
theorem dX1_leastProof_100 : decode cX1_leastProof 100 = .ok (.goto (-32), 3) := by decide +kernel
theorem dX1_leastProof_103 : decode cX1_leastProof 103 = .ok (.iload 4, 2) := by decide +kernel
theorem dX1_leastProof_105 : decode cX1_leastProof 105 = .ok (.ireturn, 1) := by decide +kernel
def VX1_leastProof_103 (d : Nat) (Q : Out → MS → Prop) (x4 : Int) (S : MS) : Prop :=
  Q (.inl (some (vI x4))) S
theorem JX1_leastProof_103 {d : Nat} {S0 : MS} {Q : Out → MS → Prop} (x4 : Int) (S : MS) (h : VX1_leastProof_103 d Q x4 S) : Jw FinM RX1 cX1_leastProof 6 (some .int) [] yX1_leastProof (d + 1) S0 S 103 [(4, vI x4)] [] Q :=
  j_iload 0 dX1_leastProof_103 rfl (j_iret rfl dX1_leastProof_105 h)
def VX1_leastProof_68 (d : Nat) (Q : Out → MS → Prop) : Nat → Nat → Nat → Nat → Int → Int → MS → Prop
  | 0, _, _, _, _, _, _ => False
  | n + 1, x0, x1, x3, x4, x5, S => S.K x1 = 7 ∧ ((R32 x5 ∧ R32 (S.I x1 9)) ∧ (((S.I x1 9) < x5) → VX1_leastProof_103 d Q x4 S) ∧ (¬ ((S.I x1 9) < x5) → R32 x4 ∧ (¬ (x4 = 0) → VX1_leastProof_103 d Q x4 S) ∧ ((x4 = 0) → S.K x1 = 7 ∧ (S.K x0 = 1 ∧ Mw hX1_proofOf yX1_proofOf d [vA x0, vA x3, vI 0, vI 0, vI x5, vI (S.I x1 9)] S (oI (fun r1 S1 => (VX1_leastProof_68 d Q n) x0 x1 x3 r1 (x5 + 1) S1))))))
theorem JX1_leastProof_68 {d : Nat} {S0 : MS} {Q : Out → MS → Prop} : ∀ (n : Nat) (x0 : Nat) (x1 : Nat) (x3 : Nat) (x4 : Int) (x5 : Int) (S : MS), VX1_leastProof_68 d Q n x0 x1 x3 x4 x5 S → Jw FinM RX1 cX1_leastProof 6 (some .int) [] yX1_leastProof (d + 1) S0 S 68 [(0, vA x0), (1, vA x1), (3, vA x3), (4, vI x4), (5, vI x5)] [] Q := by
  intro n
  induction n with
  | zero => intro x0 x1 x3 x4 x5 S h; exact h.elim
  | succ n ih =>
    intro x0 x1 x3 x4 x5 S h
    exact j_iload 4 dX1_leastProof_68 rfl (j_aload_n 1 dX1_leastProof_70 rfl (j_getI 7 9 f_RX1_16 dX1_leastProof_71 h (fun h => j_icmp_gt (tgt := 103) dX1_leastProof_74 (by decide) h (fun h => j_sub [3] rfl (JX1_leastProof_103 _ _ h)) (fun h => j_iload 3 dX1_leastProof_77 rfl (j_if_ne (tgt := 103) dX1_leastProof_79 (by decide) h (fun h => j_sub [3] rfl (JX1_leastProof_103 _ _ h)) (fun h => j_aload_n 0 dX1_leastProof_82 rfl (j_aload_n 2 dX1_leastProof_83 rfl (j_iconst dX1_leastProof_84 (j_iconst dX1_leastProof_85 (j_iload 4 dX1_leastProof_86 rfl (j_aload_n 1 dX1_leastProof_88 rfl (j_getI 7 9 f_RX1_16 dX1_leastProof_89 h (fun h => j_callV (rest := []) 1 [vA x3, vI 0, vI 0, vI x5, vI (S.I x1 9)] k_RX1_94 ⟨w_3_115, p_1_9⟩ ⟨_, _, rfl⟩ (by decide) rfl rfl (Nat.le_of_ble_eq_true rfl) dX1_leastProof_92 h (kI (fun r1 S1 h => j_istore (lv2 := [(4, vI r1), (0, vA x0), (1, vA x1), (3, vA x3), (5, vI x5)]) dX1_leastProof_95 (by decide) rfl (j_iinc 4 (lv2 := [(5, vI (x5 + 1)), (4, vI r1), (0, vA x0), (1, vA x1), (3, vA x3)]) dX1_leastProof_97 rfl (by decide) rfl (j_goto (tgt := 68) dX1_leastProof_100 (by decide) (j_sub [2, 3, 4, 1, 0] rfl (ih _ _ _ _ _ _ h)))))) (fun _ _ h => h.elim))))))))))))))
def VX1_leastProof_13 (d : Nat) (Q : Out → MS → Prop) : Nat → Nat → Nat → Nat → Nat → Int → MS → Prop
  | 0, _, _, _, _, _, _ => False
  | n + 1, x0, x1, x2, x3, x4, S => S.K x1 = 7 ∧ ((R32 x4 ∧ R32 (S.I x1 9)) ∧ (((S.I x1 9) ≤ x4) → (S.K x3 = 19 ∧ (17 ≤ 19 ∧ 19 < 21) ∧ 0 ≤ (0 : Int) ∧ (0 : Int) < S.N x3) ∧ ∃ b1, S.R x3 ((0 : Int)).toNat = some b1 ∧ (S.K b1 = 5 ∧ (R32 (S.I b1 0) ∧ (((S.I b1 0) ≤ 0) → (S.K x3 = 19 ∧ (17 ≤ 19 ∧ 19 < 21) ∧ 0 ≤ (0 : Int) ∧ (0 : Int) < S.N x3) ∧ ∃ b2, S.R x3 ((0 : Int)).toNat = some b2 ∧ (S.K x2 = 0 ∧ ∃ b3, S.R x2 3 = some b3 ∧ (S.K b2 = 5 ∧ Mw hX5_copyAll yX5_copyAll d [vA b2, vA b3] S (oV (fun S4 => ∃ m, VX1_leastProof_68 d Q m x0 x1 x3 0 1 S4))))) ∧ (¬ ((S.I b1 0) ≤ 0) → Q (.inl (some (vI 0))) S)))) ∧ (¬ ((S.I x1 9) ≤ x4) → (S.K x3 = 19 ∧ (17 ≤ 19 ∧ 19 < 21) ∧ 0 ≤ (0 : Int) ∧ (0 : Int) < S.N x3) ∧ ∃ b5, S.R x3 ((0 : Int)).toNat = some b5 ∧ (S.K x0 = 1 ∧ ∃ b6, S.R x0 0 = some b6 ∧ ((S.K b6 = 20 ∧ (17 ≤ 20 ∧ 20 < 21) ∧ 0 ≤ x4 ∧ x4 < S.N b6) ∧ ∃ b7, S.R b6 (x4).toNat = some b7 ∧ (S.K b5 = 5 ∧ Mw hX5_narrow yX5_narrow d [vA b5, vA b7] S (oV (fun S8 => (VX1_leastProof_13 d Q n) x0 x1 x2 x3 (x4 + 1) S8)))))))
theorem JX1_leastProof_13 {d : Nat} {S0 : MS} {Q : Out → MS → Prop} : ∀ (n : Nat) (x0 : Nat) (x1 : Nat) (x2 : Nat) (x3 : Nat) (x4 : Int) (S : MS), VX1_leastProof_13 d Q n x0 x1 x2 x3 x4 S → Jw FinM RX1 cX1_leastProof 6 (some .int) [] yX1_leastProof (d + 1) S0 S 13 [(0, vA x0), (1, vA x1), (2, vA x2), (3, vA x3), (4, vI x4)] [] Q := by
  intro n
  induction n with
  | zero => intro x0 x1 x2 x3 x4 S h; exact h.elim
  | succ n ih =>
    intro x0 x1 x2 x3 x4 S h
    exact j_iload 4 dX1_leastProof_13 rfl (j_aload_n 1 dX1_leastProof_15 rfl (j_getI 7 9 f_RX1_16 dX1_leastProof_16 h (fun h => j_icmp_ge (tgt := 41) dX1_leastProof_19 (by decide) h (fun h => j_aload_n 3 dX1_leastProof_41 rfl (j_iconst dX1_leastProof_42 (j_aald 19 dX1_leastProof_43 h (fun b1 h => j_getI 5 0 f_RX1_91 dX1_leastProof_44 h (fun h => j_if_le (tgt := 52) dX1_leastProof_47 (by decide) h (fun h => j_aload_n 3 dX1_leastProof_52 rfl (j_iconst dX1_leastProof_53 (j_aald 19 dX1_leastProof_54 h (fun b2 h => j_aload_n 2 dX1_leastProof_55 rfl (j_getR 0 3 f_RX1_57 dX1_leastProof_56 h (fun b3 h => j_callV (rest := []) 5 [vA b3] k_RX1_84 ⟨w_3_104, w_3_105⟩ ⟨_, _, rfl⟩ (by decide) rfl rfl (Nat.le_of_ble_eq_true rfl) dX1_leastProof_59 h (kV (fun S4 h => j_iconst dX1_leastProof_62 (j_istore (lv2 := [(4, vI 0), (0, vA x0), (1, vA x1), (2, vA x2), (3, vA x3)]) dX1_leastProof_63 (by decide) rfl (j_iconst dX1_leastProof_65 (j_istore (lv2 := [(5, vI 1), (4, vI 0), (0, vA x0), (1, vA x1), (2, vA x2), (3, vA x3)]) dX1_leastProof_66 (by decide) rfl (Exists.elim h (fun m h => j_sub [2, 3, 5, 1, 0] rfl (JX1_leastProof_68 m _ _ _ _ _ _ h)))))))) (fun _ _ h => h.elim))))))) (fun h => j_iconst dX1_leastProof_50 (j_iret rfl dX1_leastProof_51 h))))))) (fun h => j_aload_n 3 dX1_leastProof_22 rfl (j_iconst dX1_leastProof_23 (j_aald 19 dX1_leastProof_24 h (fun b5 h => j_aload_n 0 dX1_leastProof_25 rfl (j_getR 1 0 f_RX1_11 dX1_leastProof_26 h (fun b6 h => j_iload 4 dX1_leastProof_29 rfl (j_aald 20 dX1_leastProof_31 h (fun b7 h => j_callV (rest := []) 5 [vA b7] k_RX1_88 ⟨w_3_110, w_3_111⟩ ⟨_, _, rfl⟩ (by decide) rfl rfl (Nat.le_of_ble_eq_true rfl) dX1_leastProof_32 h (kV (fun S8 h => j_iinc 4 (lv2 := [(4, vI (x4 + 1)), (0, vA x0), (1, vA x1), (2, vA x2), (3, vA x3)]) dX1_leastProof_35 rfl (by decide) rfl (j_goto (tgt := 13) dX1_leastProof_38 (by decide) (j_sub [1, 2, 3, 4, 0] rfl (ih _ _ _ _ _ _ h))))) (fun _ _ h => h.elim))))))))))))
def VX1_leastProof_0 (d : Nat) (Q : Out → MS → Prop) (x0 : Nat) (x1 : Nat) (x2 : Nat) (x3 : Nat) (S : MS) : Prop :=
  (S.K x3 = 19 ∧ (17 ≤ 19 ∧ 19 < 21) ∧ 0 ≤ (0 : Int) ∧ (0 : Int) < S.N x3) ∧ ∃ b1, S.R x3 ((0 : Int)).toNat = some b1 ∧ (S.K x2 = 0 ∧ ∃ b2, S.R x2 3 = some b2 ∧ (S.K b1 = 5 ∧ Mw hX5_copyAll yX5_copyAll d [vA b1, vA b2] S (oV (fun S3 => ∃ m, VX1_leastProof_13 d Q m x0 x1 x2 x3 0 S3))))
theorem JX1_leastProof_0 {d : Nat} {S0 : MS} {Q : Out → MS → Prop} (x0 : Nat) (x1 : Nat) (x2 : Nat) (x3 : Nat) (S : MS) (h : VX1_leastProof_0 d Q x0 x1 x2 x3 S) : Jw FinM RX1 cX1_leastProof 6 (some .int) [] yX1_leastProof (d + 1) S0 S 0 [(0, vA x0), (1, vA x1), (2, vA x2), (3, vA x3)] [] Q :=
  j_aload_n 3 dX1_leastProof_0 rfl (j_iconst dX1_leastProof_1 (j_aald 19 dX1_leastProof_2 h (fun b1 h => j_aload_n 2 dX1_leastProof_3 rfl (j_getR 0 3 f_RX1_57 dX1_leastProof_4 h (fun b2 h => j_callV (rest := []) 5 [vA b2] k_RX1_84 ⟨w_3_104, w_3_105⟩ ⟨_, _, rfl⟩ (by decide) rfl rfl (Nat.le_of_ble_eq_true rfl) dX1_leastProof_7 h (kV (fun S3 h => j_iconst dX1_leastProof_10 (j_istore (lv2 := [(4, vI 0), (0, vA x0), (1, vA x1), (2, vA x2), (3, vA x3)]) dX1_leastProof_11 (by decide) rfl (Exists.elim h (fun m h => j_sub [1, 2, 3, 4, 0] rfl (JX1_leastProof_13 m _ _ _ _ _ _ h)))))) (fun _ _ h => h.elim))))))
theorem MX1_leastProof {d : Nat} {x0 : Nat} {x1 : Nat} {x2 : Nat} {x3 : Nat} {S : MS} {Q : Out → MS → Prop} (h : VX1_leastProof_0 d Q x0 x1 x2 x3 S) : Mw hX1_leastProof yX1_leastProof (d + 1) [vA x0, vA x1, vA x2, vA x3] S Q := Mw.ofJ (by decide) (Nat.le_of_ble_eq_true rfl) (JX1_leastProof_0 _ _ _ _ S h)
theorem dX1_proofOf_0 : decode cX1_proofOf 0 = .ok (.aload_n 1, 1) := by decide +kernel
theorem dX1_proofOf_1 : decode cX1_proofOf 1 = .ok (.iload_n 2, 1) := by decide +kernel
theorem dX1_proofOf_2 : decode cX1_proofOf 2 = .ok (.aaload, 1) := by decide +kernel
theorem dX1_proofOf_3 : decode cX1_proofOf 3 = .ok (.astore 6, 2) := by decide +kernel
theorem dX1_proofOf_5 : decode cX1_proofOf 5 = .ok (.iload_n 3, 1) := by decide +kernel
theorem dX1_proofOf_6 : decode cX1_proofOf 6 = .ok (.istore 7, 2) := by decide +kernel
theorem dX1_proofOf_8 : decode cX1_proofOf 8 = .ok (.iload 7, 2) := by decide +kernel
theorem dX1_proofOf_10 : decode cX1_proofOf 10 = .ok (.iload 5, 2) := by decide +kernel
theorem dX1_proofOf_12 : decode cX1_proofOf 12 = .ok (.iload 4, 2) := by decide +kernel
theorem dX1_proofOf_14 : decode cX1_proofOf 14 = .ok (.isub, 1) := by decide +kernel
theorem dX1_proofOf_15 : decode cX1_proofOf 15 = .ok (.if_icmp .gt 125, 3) := by decide +kernel
theorem dX1_proofOf_18 : decode cX1_proofOf 18 = .ok (.iload 4, 2) := by decide +kernel
theorem dX1_proofOf_20 : decode cX1_proofOf 20 = .ok (.iconst 1, 1) := by decide +kernel
theorem dX1_proofOf_21 : decode cX1_proofOf 21 = .ok (.if_icmp .ne 23, 3) := by decide +kernel
theorem dX1_proofOf_24 : decode cX1_proofOf 24 = .ok (.aload 6, 2) := by decide +kernel
theorem dX1_proofOf_26 : decode cX1_proofOf 26 = .ok (.aload_n 0, 1) := by decide +kernel
theorem dX1_proofOf_27 : decode cX1_proofOf 27 = .ok (.getfield 11, 3) := by decide +kernel
theorem dX1_proofOf_30 : decode cX1_proofOf 30 = .ok (.iload 7, 2) := by decide +kernel
theorem dX1_proofOf_32 : decode cX1_proofOf 32 = .ok (.aaload, 1) := by decide +kernel
theorem dX1_proofOf_33 : decode cX1_proofOf 33 = .ok (.invokevirtual 98, 3) := by decide +kernel
theorem dX1_proofOf_36 : decode cX1_proofOf 36 = .ok (.ifCond .ne 98, 3) := by decide +kernel
theorem dX1_proofOf_39 : decode cX1_proofOf 39 = .ok (.iconst 1, 1) := by decide +kernel
theorem dX1_proofOf_40 : decode cX1_proofOf 40 = .ok (.iload 7, 2) := by decide +kernel
theorem dX1_proofOf_42 : decode cX1_proofOf 42 = .ok (.ishl, 1) := by decide +kernel
theorem dX1_proofOf_43 : decode cX1_proofOf 43 = .ok (.ireturn, 1) := by decide +kernel
theorem dX1_proofOf_44 : decode cX1_proofOf 44 = .ok (.iload_n 2, 1) := by decide +kernel
theorem dX1_proofOf_45 : decode cX1_proofOf 45 = .ok (.iconst 1, 1) := by decide +kernel
theorem dX1_proofOf_46 : decode cX1_proofOf 46 = .ok (.iadd, 1) := by decide +kernel
theorem dX1_proofOf_47 : decode cX1_proofOf 47 = .ok (.aload_n 1, 1) := by decide +kernel
theorem dX1_proofOf_48 : decode cX1_proofOf 48 = .ok (.arraylength, 1) := by decide +kernel
theorem dX1_proofOf_49 : decode cX1_proofOf 49 = .ok (.if_icmp .ge 85, 3) := by decide +kernel
theorem dX1_proofOf_52 : decode cX1_proofOf 52 = .ok (.aload_n 1, 1) := by decide +kernel
theorem dX1_proofOf_53 : decode cX1_proofOf 53 = .ok (.iload_n 2, 1) := by decide +kernel
theorem dX1_proofOf_54 : decode cX1_proofOf 54 = .ok (.iconst 1, 1) := by decide +kernel
theorem dX1_proofOf_55 : decode cX1_proofOf 55 = .ok (.iadd, 1) := by decide +kernel
theorem dX1_proofOf_56 : decode cX1_proofOf 56 = .ok (.aaload, 1) := by decide +kernel
theorem dX1_proofOf_57 : decode cX1_proofOf 57 = .ok (.aload 6, 2) := by decide +kernel
theorem dX1_proofOf_59 : decode cX1_proofOf 59 = .ok (.aload_n 0, 1) := by decide +kernel
theorem dX1_proofOf_60 : decode cX1_proofOf 60 = .ok (.getfield 11, 3) := by decide +kernel
theorem dX1_proofOf_63 : decode cX1_proofOf 63 = .ok (.iload 7, 2) := by decide +kernel
theorem dX1_proofOf_65 : decode cX1_proofOf 65 = .ok (.aaload, 1) := by decide +kernel
theorem dX1_proofOf_66 : decode cX1_proofOf 66 = .ok (.invokevirtual 102, 3) := by decide +kernel
theorem dX1_proofOf_69 : decode cX1_proofOf 69 = .ok (.aload_n 1, 1) := by decide +kernel
theorem dX1_proofOf_70 : decode cX1_proofOf 70 = .ok (.iload_n 2, 1) := by decide +kernel
theorem dX1_proofOf_71 : decode cX1_proofOf 71 = .ok (.iconst 1, 1) := by decide +kernel
theorem dX1_proofOf_72 : decode cX1_proofOf 72 = .ok (.iadd, 1) := by decide +kernel
theorem dX1_proofOf_73 : decode cX1_proofOf 73 = .ok (.aaload, 1) := by decide +kernel
theorem dX1_proofOf_74 : decode cX1_proofOf 74 = .ok (.getfield 91, 3) := by decide +kernel
theorem dX1_proofOf_77 : decode cX1_proofOf 77 = .ok (.aload 6, 2) := by decide +kernel
theorem dX1_proofOf_79 : decode cX1_proofOf 79 = .ok (.getfield 91, 3) := by decide +kernel
theorem dX1_proofOf_82 : decode cX1_proofOf 82 = .ok (.if_icmp .ge 7, 3) := by decide +kernel
theorem dX1_proofOf_85 : decode cX1_proofOf 85 = .ok (.iconst 1, 1) := by decide +kernel
theorem dX1_proofOf_86 : decode cX1_proofOf 86 = .ok (.goto 4, 3) := by decide +kernel
theorem dX1_proofOf_89 : decode cX1_proofOf 89 = .ok (.iconst 0, 1) := by decide +kernel
theorem dX1_proofOf_90 : decode cX1_proofOf 90 = .ok (.istore 8, 2) := by decide +kernel
theorem dX1_proofOf_92 : decode cX1_proofOf 92 = .ok (.iload 8, 2) := by decide +kernel
theorem dX1_proofOf_94 : decode cX1_proofOf 94 = .ok (.ifCond .eq 24, 3) := by decide +kernel
theorem dX1_proofOf_97 : decode cX1_proofOf 97 = .ok (.aload_n 0, 1) := by decide +kernel
theorem dX1_proofOf_98 : decode cX1_proofOf 98 = .ok (.aload_n 1, 1) := by decide +kernel
theorem dX1_proofOf_99 : decode cX1_proofOf 99 = .ok (.iload_n 2, 1) := by decide +kernel
theorem dX1_proofOf_100 : decode cX1_proofOf 100 = .ok (.iconst 1, 1) := by decide +kernel
theorem dX1_proofOf_101 : decode cX1_proofOf 101 = .ok (.iadd, 1) := by decide +kernel
theorem dX1_proofOf_102 : decode cX1_proofOf 102 = .ok (.iload 7, 2) := by decide +kernel
theorem dX1_proofOf_104 : decode cX1_proofOf 104 = .ok (.iconst 1, 1) := by decide +kernel
theorem dX1_proofOf_105 : decode cX1_proofOf 105 = .ok (.iadd, 1) := by decide +kernel
theorem dX1_proofOf_106 : decode cX1_proofOf 106 = .ok (.iload 4, 2) := by decide +kernel
theorem dX1_proofOf_108 : decode cX1_proofOf 108 = .ok (.iconst 1, 1) := by decide +kernel
theorem dX1_proofOf_109 : decode cX1_proofOf 109 = .ok (.isub, 1) := by decide +kernel
theorem dX1_proofOf_110 : decode cX1_proofOf 110 = .ok (.iload 5, 2) := by decide +kernel
theorem dX1_proofOf_112 : decode cX1_proofOf 112 = .ok (.invokevirtual 94, 3) := by decide +kernel
theorem dX1_proofOf_115 : decode cX1_proofOf 115 = .ok (.goto 4, 3) := by decide +kernel
theorem dX1_proofOf_118 : decode cX1_proofOf 118 = .ok (.iconst 0, 1) := by decide +kernel
theorem dX1_proofOf_119 : decode cX1_proofOf 119 = .ok (.istore 9, 2) := by decide +kernel
theorem dX1_proofOf_121 : decode cX1_proofOf 121 = .ok (.iload 9, 2) := by decide +kernel
theorem dX1_proofOf_123 : decode cX1_proofOf 123 = .ok (.ifCond .eq 11, 3) := by decide +kernel
theorem dX1_proofOf_126 : decode cX1_proofOf 126 = .ok (.iload 9, 2) := by decide +kernel
theorem dX1_proofOf_128 : decode cX1_proofOf 128 = .ok (.iconst 1, 1) := by decide +kernel
theorem dX1_proofOf_129 : decode cX1_proofOf 129 = .ok (.iload 7, 2) := by decide +kernel
theorem dX1_proofOf_131 : decode cX1_proofOf 131 = .ok (.ishl, 1) := by decide +kernel
theorem dX1_proofOf_132 : decode cX1_proofOf 132 = .ok (.ior, 1) := by decide +kernel
theorem dX1_proofOf_133 : decode cX1_proofOf 133 = .ok (.ireturn, 1) := by decide +kernel
theorem dX1_proofOf_134 : decode cX1_proofOf 134 = .ok (.iinc 7 1, 3) := by decide +kernel
theorem dX1_proofOf_137 : decode cX1_proofOf 137 = .ok (.goto (-129), 3) := by decide +kernel
theorem dX1_proofOf_140 : decode cX1_proofOf 140 = .ok (.iconst 0, 1) := by decide +kernel
theorem dX1_proofOf_141 : decode cX1_proofOf 141 = .ok (.ireturn, 1) := by decide +kernel
def VX1_proofOf_134 (d : Nat) (c8 : Nat → Nat → Int → Int → Int → Nat → Int → MS → Prop) (Q : Out → MS → Prop) (x0 : Nat) (x1 : Nat) (x2 : Int) (x4 : Int) (x5 : Int) (x6 : Nat) (x7 : Int) (S : MS) : Prop :=
  c8 x0 x1 x2 x4 x5 x6 (x7 + 1) S
theorem JX1_proofOf_134 {d : Nat} {c8 : Nat → Nat → Int → Int → Int → Nat → Int → MS → Prop} {S0 : MS} {Q : Out → MS → Prop} (hc8 : ∀ (x0 : Nat) (x1 : Nat) (x2 : Int) (x4 : Int) (x5 : Int) (x6 : Nat) (x7 : Int) (S : MS), c8 x0 x1 x2 x4 x5 x6 x7 S → Jw FinM RX1 cX1_proofOf 10 (some .int) [] yX1_proofOf (d + 1) S0 S 8 [(0, vA x0), (1, vA x1), (2, vI x2), (4, vI x4), (5, vI x5), (6, vA x6), (7, vI x7)] [] Q) (x0 : Nat) (x1 : Nat) (x2 : Int) (x4 : Int) (x5 : Int) (x6 : Nat) (x7 : Int) (S : MS) (h : VX1_proofOf_134 d c8 Q x0 x1 x2 x4 x5 x6 x7 S) : Jw FinM RX1 cX1_proofOf 10 (some .int) [] yX1_proofOf (d + 1) S0 S 134 [(0, vA x0), (1, vA x1), (2, vI x2), (4, vI x4), (5, vI x5), (6, vA x6), (7, vI x7)] [] Q :=
  j_iinc 6 (lv2 := [(7, vI (x7 + 1)), (0, vA x0), (1, vA x1), (2, vI x2), (4, vI x4), (5, vI x5), (6, vA x6)]) dX1_proofOf_134 rfl (by decide) rfl (j_goto (tgt := 8) dX1_proofOf_137 (by decide) (j_sub [1, 2, 3, 4, 5, 6, 0] rfl (hc8 _ _ _ _ _ _ _ _ h)))
def VX1_proofOf_119 (d : Nat) (c8 : Nat → Nat → Int → Int → Int → Nat → Int → MS → Prop) (Q : Out → MS → Prop) (x0 : Nat) (x1 : Nat) (x2 : Int) (x4 : Int) (x5 : Int) (x6 : Nat) (x7 : Int) (t0 : Int) (S : MS) : Prop :=
  R32 t0 ∧ ((t0 = 0) → VX1_proofOf_134 d c8 Q x0 x1 x2 x4 x5 x6 x7 S) ∧ (¬ (t0 = 0) → Q (.inl (some (vI (iOr t0 (iShl 1 x7))))) S)
theorem JX1_proofOf_119 {d : Nat} {c8 : Nat → Nat → Int → Int → Int → Nat → Int → MS → Prop} {S0 : MS} {Q : Out → MS → Prop} (hc8 : ∀ (x0 : Nat) (x1 : Nat) (x2 : Int) (x4 : Int) (x5 : Int) (x6 : Nat) (x7 : Int) (S : MS), c8 x0 x1 x2 x4 x5 x6 x7 S → Jw FinM RX1 cX1_proofOf 10 (some .int) [] yX1_proofOf (d + 1) S0 S 8 [(0, vA x0), (1, vA x1), (2, vI x2), (4, vI x4), (5, vI x5), (6, vA x6), (7, vI x7)] [] Q) (x0 : Nat) (x1 : Nat) (x2 : Int) (x4 : Int) (x5 : Int) (x6 : Nat) (x7 : Int) (t0 : Int) (S : MS) (h : VX1_proofOf_119 d c8 Q x0 x1 x2 x4 x5 x6 x7 t0 S) : Jw FinM RX1 cX1_proofOf 10 (some .int) [] yX1_proofOf (d + 1) S0 S 119 [(0, vA x0), (1, vA x1), (2, vI x2), (4, vI x4), (5, vI x5), (6, vA x6), (7, vI x7)] [vI t0] Q :=
  j_istore (lv2 := [(9, vI t0), (0, vA x0), (1, vA x1), (2, vI x2), (4, vI x4), (5, vI x5), (6, vA x6), (7, vI x7)]) dX1_proofOf_119 (by decide) rfl (j_iload 0 dX1_proofOf_121 rfl (j_if_eq (tgt := 134) dX1_proofOf_123 (by decide) h (fun h => j_sub [1, 2, 3, 4, 5, 6, 7] rfl (JX1_proofOf_134 hc8 _ _ _ _ _ _ _ _ h)) (fun h => j_iload 0 dX1_proofOf_126 rfl (j_iconst dX1_proofOf_128 (j_iload 7 dX1_proofOf_129 rfl (j_ishl dX1_proofOf_131 (j_ior dX1_proofOf_132 (j_iret rfl dX1_proofOf_133 h))))))))
def VX1_proofOf_90 (d : Nat) (c8 : Nat → Nat → Int → Int → Int → Nat → Int → MS → Prop) (Q : Out → MS → Prop) (x0 : Nat) (x1 : Nat) (x2 : Int) (x4 : Int) (x5 : Int) (x6 : Nat) (x7 : Int) (t0 : Int) (S : MS) : Prop :=
  R32 t0 ∧ ((t0 = 0) → VX1_proofOf_119 d c8 Q x0 x1 x2 x4 x5 x6 x7 0 S) ∧ (¬ (t0 = 0) → S.K x0 = 1 ∧ Mw hX1_proofOf yX1_proofOf d [vA x0, vA x1, vI (x2 + 1), vI (x7 + 1), vI (x4 - 1), vI x5] S (oI (fun r1 S1 => VX1_proofOf_119 d c8 Q x0 x1 x2 x4 x5 x6 x7 r1 S1)))
theorem JX1_proofOf_90 {d : Nat} {c8 : Nat → Nat → Int → Int → Int → Nat → Int → MS → Prop} {S0 : MS} {Q : Out → MS → Prop} (hc8 : ∀ (x0 : Nat) (x1 : Nat) (x2 : Int) (x4 : Int) (x5 : Int) (x6 : Nat) (x7 : Int) (S : MS), c8 x0 x1 x2 x4 x5 x6 x7 S → Jw FinM RX1 cX1_proofOf 10 (some .int) [] yX1_proofOf (d + 1) S0 S 8 [(0, vA x0), (1, vA x1), (2, vI x2), (4, vI x4), (5, vI x5), (6, vA x6), (7, vI x7)] [] Q) (x0 : Nat) (x1 : Nat) (x2 : Int) (x4 : Int) (x5 : Int) (x6 : Nat) (x7 : Int) (t0 : Int) (S : MS) (h : VX1_proofOf_90 d c8 Q x0 x1 x2 x4 x5 x6 x7 t0 S) : Jw FinM RX1 cX1_proofOf 10 (some .int) [] yX1_proofOf (d + 1) S0 S 90 [(0, vA x0), (1, vA x1), (2, vI x2), (4, vI x4), (5, vI x5), (6, vA x6), (7, vI x7)] [vI t0] Q :=
  j_istore (lv2 := [(8, vI t0), (0, vA x0), (1, vA x1), (2, vI x2), (4, vI x4), (5, vI x5), (6, vA x6), (7, vI x7)]) dX1_proofOf_90 (by decide) rfl (j_iload 0 dX1_proofOf_92 rfl (j_if_eq (tgt := 118) dX1_proofOf_94 (by decide) h (fun h => j_iconst dX1_proofOf_118 (j_sub [1, 2, 3, 4, 5, 6, 7] rfl (JX1_proofOf_119 hc8 _ _ _ _ _ _ _ _ _ h))) (fun h => j_aload_n 1 dX1_proofOf_97 rfl (j_aload_n 2 dX1_proofOf_98 rfl (j_iload_n 3 dX1_proofOf_99 rfl (j_iconst dX1_proofOf_100 (j_iadd dX1_proofOf_101 (j_iload 7 dX1_proofOf_102 rfl (j_iconst dX1_proofOf_104 (j_iadd dX1_proofOf_105 (j_iload 4 dX1_proofOf_106 rfl (j_iconst dX1_proofOf_108 (j_isub dX1_proofOf_109 (j_iload 5 dX1_proofOf_110 rfl (j_callV (rest := []) 1 [vA x1, vI (x2 + 1), vI (x7 + 1), vI (x4 - 1), vI x5] k_RX1_94 ⟨w_3_115, p_1_9⟩ ⟨_, _, rfl⟩ (by decide) rfl rfl (Nat.le_of_ble_eq_true rfl) dX1_proofOf_112 h (kI (fun r1 S1 h => j_goto (tgt := 119) dX1_proofOf_115 (by decide) (j_sub [1, 2, 3, 4, 5, 6, 7] rfl (JX1_proofOf_119 hc8 _ _ _ _ _ _ _ _ _ h)))) (fun _ _ h => h.elim))))))))))))))))
def VX1_proofOf_8 (d : Nat) (Q : Out → MS → Prop) : Nat → Nat → Nat → Int → Int → Int → Nat → Int → MS → Prop
  | 0, _, _, _, _, _, _, _, _ => False
  | n + 1, x0, x1, x2, x4, x5, x6, x7, S => (R32 x7 ∧ R32 (x5 - x4)) ∧ (((x5 - x4) < x7) → Q (.inl (some (vI 0))) S) ∧ (¬ ((x5 - x4) < x7) → (R32 x4 ∧ R32 (1 : Int)) ∧ (¬ (x4 = (1 : Int)) → (12 ≤ S.K x1 ∧ S.K x1 < 21) ∧ ((R32 (x2 + 1) ∧ R32 ((S.N x1 : Int))) ∧ ((((S.N x1 : Int)) ≤ (x2 + 1)) → VX1_proofOf_134 d (VX1_proofOf_8 d Q n) Q x0 x1 x2 x4 x5 x6 x7 S) ∧ (¬ (((S.N x1 : Int)) ≤ (x2 + 1)) → (S.K x1 = 19 ∧ (17 ≤ 19 ∧ 19 < 21) ∧ 0 ≤ (x2 + 1) ∧ (x2 + 1) < S.N x1) ∧ ∃ b1, S.R x1 ((x2 + 1)).toNat = some b1 ∧ (S.K x0 = 1 ∧ ∃ b2, S.R x0 0 = some b2 ∧ ((S.K b2 = 20 ∧ (17 ≤ 20 ∧ 20 < 21) ∧ 0 ≤ x7 ∧ x7 < S.N b2) ∧ ∃ b3, S.R b2 (x7).toNat = some b3 ∧ (S.K b1 = 5 ∧ Mw hX5_take yX5_take d [vA b1, vA x6, vA b3] S (oV (fun S4 => (S4.K x1 = 19 ∧ (17 ≤ 19 ∧ 19 < 21) ∧ 0 ≤ (x2 + 1) ∧ (x2 + 1) < S4.N x1) ∧ ∃ b5, S4.R x1 ((x2 + 1)).toNat = some b5 ∧ (S4.K b5 = 5 ∧ (S4.K x6 = 5 ∧ ((R32 (S4.I b5 0) ∧ R32 (S4.I x6 0)) ∧ (((S4.I x6 0) ≤ (S4.I b5 0)) → VX1_proofOf_90 d (VX1_proofOf_8 d Q n) Q x0 x1 x2 x4 x5 x6 x7 0 S4) ∧ (¬ ((S4.I x6 0) ≤ (S4.I b5 0)) → VX1_proofOf_90 d (VX1_proofOf_8 d Q n) Q x0 x1 x2 x4 x5 x6 x7 1 S4)))))))))))) ∧ ((x4 = (1 : Int)) → S.K x0 = 1 ∧ ∃ b6, S.R x0 0 = some b6 ∧ ((S.K b6 = 20 ∧ (17 ≤ 20 ∧ 20 < 21) ∧ 0 ≤ x7 ∧ x7 < S.N b6) ∧ ∃ b7, S.R b6 (x7).toNat = some b7 ∧ (S.K x6 = 5 ∧ Mw hX5_meets yX5_meets d [vA x6, vA b7] S (oI (fun r8 S8 => R32 r8 ∧ (¬ (r8 = 0) → VX1_proofOf_134 d (VX1_proofOf_8 d Q n) Q x0 x1 x2 x4 x5 x6 x7 S8) ∧ ((r8 = 0) → Q (.inl (some (vI (iShl 1 x7)))) S8)))))))
theorem JX1_proofOf_8 {d : Nat} {S0 : MS} {Q : Out → MS → Prop} : ∀ (n : Nat) (x0 : Nat) (x1 : Nat) (x2 : Int) (x4 : Int) (x5 : Int) (x6 : Nat) (x7 : Int) (S : MS), VX1_proofOf_8 d Q n x0 x1 x2 x4 x5 x6 x7 S → Jw FinM RX1 cX1_proofOf 10 (some .int) [] yX1_proofOf (d + 1) S0 S 8 [(0, vA x0), (1, vA x1), (2, vI x2), (4, vI x4), (5, vI x5), (6, vA x6), (7, vI x7)] [] Q := by
  intro n
  induction n with
  | zero => intro x0 x1 x2 x4 x5 x6 x7 S h; exact h.elim
  | succ n ih =>
    intro x0 x1 x2 x4 x5 x6 x7 S h
    exact j_iload 6 dX1_proofOf_8 rfl (j_iload 4 dX1_proofOf_10 rfl (j_iload 3 dX1_proofOf_12 rfl (j_isub dX1_proofOf_14 (j_icmp_gt (tgt := 140) dX1_proofOf_15 (by decide) h (fun h => j_iconst dX1_proofOf_140 (j_iret rfl dX1_proofOf_141 h)) (fun h => j_iload 3 dX1_proofOf_18 rfl (j_iconst dX1_proofOf_20 (j_icmp_ne (tgt := 44) dX1_proofOf_21 (by decide) h (fun h => j_iload_n 2 dX1_proofOf_44 rfl (j_iconst dX1_proofOf_45 (j_iadd dX1_proofOf_46 (j_aload_n 1 dX1_proofOf_47 rfl (j_alen dX1_proofOf_48 h (fun h => j_icmp_ge (tgt := 134) dX1_proofOf_49 (by decide) h (fun h => JX1_proofOf_134 ih _ _ _ _ _ _ _ _ h) (fun h => j_aload_n 1 dX1_proofOf_52 rfl (j_iload_n 2 dX1_proofOf_53 rfl (j_iconst dX1_proofOf_54 (j_iadd dX1_proofOf_55 (j_aald 19 dX1_proofOf_56 h (fun b1 h => j_aload 5 dX1_proofOf_57 rfl (j_aload_n 0 dX1_proofOf_59 rfl (j_getR 1 0 f_RX1_11 dX1_proofOf_60 h (fun b2 h => j_iload 6 dX1_proofOf_63 rfl (j_aald 20 dX1_proofOf_65 h (fun b3 h => j_callV (rest := []) 5 [vA x6, vA b3] k_RX1_102 ⟨w_3_119, w_3_120⟩ ⟨_, _, rfl⟩ (by decide) rfl rfl (Nat.le_of_ble_eq_true rfl) dX1_proofOf_66 h (kV (fun S4 h => j_aload_n 1 dX1_proofOf_69 rfl (j_iload_n 2 dX1_proofOf_70 rfl (j_iconst dX1_proofOf_71 (j_iadd dX1_proofOf_72 (j_aald 19 dX1_proofOf_73 h (fun b5 h => j_getI 5 0 f_RX1_91 dX1_proofOf_74 h (fun h => j_aload 5 dX1_proofOf_77 rfl (j_getI 5 0 f_RX1_91 dX1_proofOf_79 h (fun h => j_icmp_ge (tgt := 89) dX1_proofOf_82 (by decide) h (fun h => j_iconst dX1_proofOf_89 (JX1_proofOf_90 ih _ _ _ _ _ _ _ _ _ h)) (fun h => j_iconst dX1_proofOf_85 (j_goto (tgt := 90) dX1_proofOf_86 (by decide) (JX1_proofOf_90 ih _ _ _ _ _ _ _ _ _ h))))))))))))) (fun _ _ h => h.elim)))))))))))))))))) (fun h => j_aload 5 dX1_proofOf_24 rfl (j_aload_n 0 dX1_proofOf_26 rfl (j_getR 1 0 f_RX1_11 dX1_proofOf_27 h (fun b6 h => j_iload 6 dX1_proofOf_30 rfl (j_aald 20 dX1_proofOf_32 h (fun b7 h => j_callV (rest := []) 5 [vA b7] k_RX1_98 ⟨w_3_54, w_3_55⟩ ⟨_, _, rfl⟩ (by decide) rfl rfl (Nat.le_of_ble_eq_true rfl) dX1_proofOf_33 h (kI (fun r8 S8 h => j_if_ne (tgt := 134) dX1_proofOf_36 (by decide) h (fun h => JX1_proofOf_134 ih _ _ _ _ _ _ _ _ h) (fun h => j_iconst dX1_proofOf_39 (j_iload 6 dX1_proofOf_40 rfl (j_ishl dX1_proofOf_42 (j_iret rfl dX1_proofOf_43 h)))))) (fun _ _ h => h.elim))))))))))))))
def VX1_proofOf_0 (d : Nat) (Q : Out → MS → Prop) (x0 : Nat) (x1 : Nat) (x2 : Int) (x3 : Int) (x4 : Int) (x5 : Int) (S : MS) : Prop :=
  (S.K x1 = 19 ∧ (17 ≤ 19 ∧ 19 < 21) ∧ 0 ≤ x2 ∧ x2 < S.N x1) ∧ ∃ b1, S.R x1 (x2).toNat = some b1 ∧ (∃ m, VX1_proofOf_8 d Q m x0 x1 x2 x4 x5 b1 x3 S)
theorem JX1_proofOf_0 {d : Nat} {S0 : MS} {Q : Out → MS → Prop} (x0 : Nat) (x1 : Nat) (x2 : Int) (x3 : Int) (x4 : Int) (x5 : Int) (S : MS) (h : VX1_proofOf_0 d Q x0 x1 x2 x3 x4 x5 S) : Jw FinM RX1 cX1_proofOf 10 (some .int) [] yX1_proofOf (d + 1) S0 S 0 [(0, vA x0), (1, vA x1), (2, vI x2), (3, vI x3), (4, vI x4), (5, vI x5)] [] Q :=
  j_aload_n 1 dX1_proofOf_0 rfl (j_iload_n 2 dX1_proofOf_1 rfl (j_aald 19 dX1_proofOf_2 h (fun b1 h => j_astore (lv2 := [(6, vA b1), (0, vA x0), (1, vA x1), (2, vI x2), (3, vI x3), (4, vI x4), (5, vI x5)]) dX1_proofOf_3 (by decide) rfl (j_iload_n 4 dX1_proofOf_5 rfl (j_istore (lv2 := [(7, vI x3), (6, vA b1), (0, vA x0), (1, vA x1), (2, vI x2), (3, vI x3), (4, vI x4), (5, vI x5)]) dX1_proofOf_6 (by decide) rfl (Exists.elim h (fun m h => j_sub [2, 3, 4, 6, 7, 1, 0] rfl (JX1_proofOf_8 m _ _ _ _ _ _ _ _ h))))))))
theorem MX1_proofOf {d : Nat} {x0 : Nat} {x1 : Nat} {x2 : Int} {x3 : Int} {x4 : Int} {x5 : Int} {S : MS} {Q : Out → MS → Prop} (h : VX1_proofOf_0 d Q x0 x1 x2 x3 x4 x5 S) : Mw hX1_proofOf yX1_proofOf (d + 1) [vA x0, vA x1, vI x2, vI x3, vI x4, vI x5] S Q := Mw.ofJ (by decide) (Nat.le_of_ble_eq_true rfl) (JX1_proofOf_0 _ _ _ _ _ _ S h)
