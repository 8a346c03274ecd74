/-- the int that a number is, wrapped -/
def wr (y : Int) : Int := (Int32.ofInt y).toInt
theorem vI_wr (y : Int) : vI (wr y) = vI y := by
  unfold vI wr
  rw [Int32.ofInt_toInt]
theorem j_iincW {Fz : FinT} {own : String} {cc : ByteArray} {nL : Nat} {ret : Option FieldType} {hh : List (Nat × Nat × Nat × Nat)} {y : MethodName} {d : Nat} {S0 S : MS} {pc : Nat} {lv : List (Nat × Value)} {st : List Value} {Q : Out → MS → Prop} {i : Nat} (j : Nat) {n x : Int} {lv2 : List (Nat × Value)} (hd : decode cc pc = .ok (.iinc i n, 3)) (hj : lv[j]? = some (i, vI x)) (hn : i < nL) (hl : (i, vI (wr (x + n))) :: lv.filter (fun q => !(q.1 == i) && !(q.1 + 1 == i && q.2.category == 2)) = lv2) (k : Jw Fz own cc nL ret hh y d S0 S (pc + 3) lv2 st Q) : Jw Fz own cc nL ret hh y d S0 S pc lv st Q :=
  j_iinc j hd hj hn (by rw [vI_wr] at hl; exact hl) k
theorem dX11_places_0 : decode cX11_places 0 = .ok (.aload_n 0, 1) := by decide +kernel
theorem dX11_places_1 : decode cX11_places 1 = .ok (.iconst 0, 1) := by decide +kernel
theorem dX11_places_2 : decode cX11_places 2 = .ok (.putfield 3, 3) := by decide +kernel
theorem dX11_places_5 : decode cX11_places 5 = .ok (.aload_n 0, 1) := by decide +kernel
theorem dX11_places_6 : decode cX11_places 6 = .ok (.aload_n 0, 1) := by decide +kernel
theorem dX11_places_7 : decode cX11_places 7 = .ok (.iload_n 1, 1) := by decide +kernel
theorem dX11_places_8 : decode cX11_places 8 = .ok (.invokevirtual 194, 3) := by decide +kernel
theorem dX11_places_11 : decode cX11_places 11 = .ok (.iconst 1, 1) := by decide +kernel
theorem dX11_places_12 : decode cX11_places 12 = .ok (.invokevirtual 190, 3) := by decide +kernel
theorem dX11_places_15 : decode cX11_places 15 = .ok (.ifCond .eq 5, 3) := by decide +kernel
theorem dX11_places_18 : decode cX11_places 18 = .ok (.iconst 0, 1) := by decide +kernel
theorem dX11_places_19 : decode cX11_places 19 = .ok (.ireturn, 1) := by decide +kernel
theorem dX11_places_20 : decode cX11_places 20 = .ok (.aload_n 0, 1) := by decide +kernel
theorem dX11_places_21 : decode cX11_places 21 = .ok (.invokevirtual 253, 3) := by decide +kernel
theorem dX11_places_24 : decode cX11_places 24 = .ok (.iconst 0, 1) := by decide +kernel
theorem dX11_places_25 : decode cX11_places 25 = .ok (.istore_n 2, 1) := by decide +kernel
theorem dX11_places_26 : decode cX11_places 26 = .ok (.iconst 0, 1) := by decide +kernel
theorem dX11_places_27 : decode cX11_places 27 = .ok (.istore_n 3, 1) := by decide +kernel
theorem dX11_places_28 : decode cX11_places 28 = .ok (.iload_n 3, 1) := by decide +kernel
theorem dX11_places_29 : decode cX11_places 29 = .ok (.aload_n 0, 1) := by decide +kernel
theorem dX11_places_30 : decode cX11_places 30 = .ok (.getfield 45, 3) := by decide +kernel
theorem dX11_places_33 : decode cX11_places 33 = .ok (.iconst 0, 1) := by decide +kernel
theorem dX11_places_34 : decode cX11_places 34 = .ok (.iaload, 1) := by decide +kernel
theorem dX11_places_35 : decode cX11_places 35 = .ok (.if_icmp .ge 25, 3) := by decide +kernel
theorem dX11_places_38 : decode cX11_places 38 = .ok (.iload_n 2, 1) := by decide +kernel
theorem dX11_places_39 : decode cX11_places 39 = .ok (.iconst 1, 1) := by decide +kernel
theorem dX11_places_40 : decode cX11_places 40 = .ok (.aload_n 0, 1) := by decide +kernel
theorem dX11_places_41 : decode cX11_places 41 = .ok (.aload_n 0, 1) := by decide +kernel
theorem dX11_places_42 : decode cX11_places 42 = .ok (.iconst 0, 1) := by decide +kernel
theorem dX11_places_43 : decode cX11_places 43 = .ok (.iload_n 3, 1) := by decide +kernel
theorem dX11_places_44 : decode cX11_places 44 = .ok (.invokevirtual 247, 3) := by decide +kernel
theorem dX11_places_47 : decode cX11_places 47 = .ok (.iload_n 1, 1) := by decide +kernel
theorem dX11_places_48 : decode cX11_places 48 = .ok (.invokevirtual 262, 3) := by decide +kernel
theorem dX11_places_51 : decode cX11_places 51 = .ok (.ishl, 1) := by decide +kernel
theorem dX11_places_52 : decode cX11_places 52 = .ok (.ior, 1) := by decide +kernel
theorem dX11_places_53 : decode cX11_places 53 = .ok (.istore_n 2, 1) := by decide +kernel
theorem dX11_places_54 : decode cX11_places 54 = .ok (.iinc 3 1, 3) := by decide +kernel
theorem dX11_places_57 : decode cX11_places 57 = .ok (.goto (-29), 3) := by decide +kernel
theorem dX11_places_60 : decode cX11_places 60 = .ok (.iload_n 2, 1) := by decide +kernel
theorem dX11_places_61 : decode cX11_places 61 = .ok (.ireturn, 1) := by decide +kernel
def VX11_places_28 (d : Nat) (Q : Out → MS → Prop) : Nat → Nat → Int → Int → Int → MS → Prop
  | 0, _, _, _, _, _ => False
  | n + 1, x0, x1, x2, x3, S => S.K x0 = 11 ∧ ∃ b1, S.R x0 17 = some b1 ∧ ((S.K b1 = 13 ∧ 0 ≤ (0 : Int) ∧ (0 : Int) < S.N b1) ∧ ((R32 x3 ∧ R32 (S.I b1 ((0 : Int)).toNat)) ∧ (((S.I b1 ((0 : Int)).toNat) ≤ x3) → Q (.inl (some (vI x2))) S) ∧ (¬ ((S.I b1 ((0 : Int)).toNat) ≤ x3) → S.K x0 = 11 ∧ Mw hX11_rowAt yX11_rowAt d [vA x0, vI 0, vI x3] S (oI (fun r2 S2 => S2.K x0 = 11 ∧ Mw hX11_placeOf yX11_placeOf d [vA x0, vI r2, vI x1] S2 (oI (fun r3 S3 => (VX11_places_28 d Q n) x0 x1 (iOr x2 (iShl 1 r3)) (x3 + 1) S3)))))))
theorem JX11_places_28 {d : Nat} {S0 : MS} {Q : Out → MS → Prop} : ∀ (n : Nat) (x0 : Nat) (x1 : Int) (x2 : Int) (x3 : Int) (S : MS), VX11_places_28 d Q n x0 x1 x2 x3 S → Jw FinM RX11 cX11_places 4 (some .int) [] yX11_places (d + 1) S0 S 28 [(0, vA x0), (1, vI x1), (2, vI x2), (3, vI x3)] [] Q := by
  intro n
  induction n with
  | zero => intro x0 x1 x2 x3 S h; exact h.elim
  | succ n ih =>
    intro x0 x1 x2 x3 S h
    exact j_iload_n 3 dX11_places_28 rfl (j_aload_n 0 dX11_places_29 rfl (j_getR 11 17 f_RX11_45 dX11_places_30 h (fun b1 h => j_iconst dX11_places_33 (j_iald dX11_places_34 h (fun h => j_icmp_ge (tgt := 60) dX11_places_35 (by decide) h (fun h => j_iload_n 2 dX11_places_60 rfl (j_iret rfl dX11_places_61 h)) (fun h => j_iload_n 2 dX11_places_38 rfl (j_iconst dX11_places_39 (j_aload_n 0 dX11_places_40 rfl (j_aload_n 0 dX11_places_41 rfl (j_iconst dX11_places_42 (j_iload_n 3 dX11_places_43 rfl (j_callV (rest := [vA x0, vI 1, vI x2]) 11 [vI 0, vI x3] k_RX11_247 ⟨w_8_74, p_5_11⟩ ⟨_, _, rfl⟩ (by decide) rfl rfl (Nat.le_of_ble_eq_true rfl) dX11_places_44 h (kI (fun r2 S2 h => j_iload_n 1 dX11_places_47 rfl (j_callV (rest := [vI 1, vI x2]) 11 [vI r2, vI x1] k_RX11_262 ⟨w_8_102, p_5_15⟩ ⟨_, _, rfl⟩ (by decide) rfl rfl (Nat.le_of_ble_eq_true rfl) dX11_places_48 h (kI (fun r3 S3 h => j_ishl dX11_places_51 (j_ior dX11_places_52 (j_istore_n (lv2 := [(2, vI (iOr x2 (iShl 1 r3))), (0, vA x0), (1, vI x1), (3, vI x3)]) dX11_places_53 (by decide) rfl (j_iinc 3 (lv2 := [(3, vI (x3 + 1)), (2, vI (iOr x2 (iShl 1 r3))), (0, vA x0), (1, vI x1)]) dX11_places_54 rfl (by decide) rfl (j_goto (tgt := 28) dX11_places_57 (by decide) (j_sub [2, 3, 1, 0] rfl (ih _ _ _ _ _ h)))))))) (fun _ _ h => h.elim)))) (fun _ _ h => h.elim)))))))))))))
def VX11_places_0 (d : Nat) (Q : Out → MS → Prop) (x0 : Nat) (x1 : Int) (S : MS) : Prop :=
  S.K x0 = 11 ∧ ((S.setI x0 0 0).K x0 = 11 ∧ Mw hX11_noThing yX11_noThing d [vA x0, vI x1] (S.setI x0 0 0) (oI (fun r1 S1 => S1.K x0 = 11 ∧ Mw hX11_throwsIf yX11_throwsIf d [vA x0, vI r1, vI 1] S1 (oI (fun r2 S2 => R32 r2 ∧ ((r2 = 0) → S2.K x0 = 11 ∧ Mw hX11_leaves yX11_leaves d [vA x0] S2 (oV (fun S3 => ∃ m, VX11_places_28 d Q m x0 x1 0 0 S3))) ∧ (¬ (r2 = 0) → Q (.inl (some (vI 0))) S2))))))
theorem JX11_places_0 {d : Nat} {S0 : MS} {Q : Out → MS → Prop} (x0 : Nat) (x1 : Int) (S : MS) (h : VX11_places_0 d Q x0 x1 S) : Jw FinM RX11 cX11_places 4 (some .int) [] yX11_places (d + 1) S0 S 0 [(0, vA x0), (1, vI x1)] [] Q :=
  j_aload_n 0 dX11_places_0 rfl (j_iconst dX11_places_1 (j_putI 11 0 f_RX11_3 dX11_places_2 h (fun h => j_aload_n 0 dX11_places_5 rfl (j_aload_n 0 dX11_places_6 rfl (j_iload_n 1 dX11_places_7 rfl (j_callV (rest := [vA x0]) 11 [vI x1] k_RX11_194 ⟨w_7_214, p_4_9⟩ ⟨_, _, rfl⟩ (by decide) rfl rfl (Nat.le_of_ble_eq_true rfl) dX11_places_8 h (kI (fun r1 S1 h => j_iconst dX11_places_11 (j_callV (rest := []) 11 [vI r1, vI 1] k_RX11_190 ⟨w_7_191, p_4_7⟩ ⟨_, _, rfl⟩ (by decide) rfl rfl (Nat.le_of_ble_eq_true rfl) dX11_places_12 h (kI (fun r2 S2 h => j_if_eq (tgt := 20) dX11_places_15 (by decide) h (fun h => j_aload_n 0 dX11_places_20 rfl (j_callV (rest := []) 11 [] k_RX11_253 ⟨w_8_42, p_5_4⟩ ⟨_, _, rfl⟩ (by decide) rfl rfl (Nat.le_of_ble_eq_true rfl) dX11_places_21 h (kV (fun S3 h => j_iconst dX11_places_24 (j_istore_n (lv2 := [(2, vI 0), (0, vA x0), (1, vI x1)]) dX11_places_25 (by decide) rfl (j_iconst dX11_places_26 (j_istore_n (lv2 := [(3, vI 0), (2, vI 0), (0, vA x0), (1, vI x1)]) dX11_places_27 (by decide) rfl (Exists.elim h (fun m h => j_sub [2, 3, 1, 0] rfl (JX11_places_28 m _ _ _ _ _ h)))))))) (fun _ _ h => h.elim))) (fun h => j_iconst dX11_places_18 (j_iret rfl dX11_places_19 h)))) (fun _ _ h => h.elim)))) (fun _ _ h => h.elim)))))))
theorem MX11_places {d : Nat} {x0 : Nat} {x1 : Int} {S : MS} {Q : Out → MS → Prop} (h : VX11_places_0 d Q x0 x1 S) : Mw hX11_places yX11_places (d + 1) [vA x0, vI x1] S Q := Mw.ofJ (by decide) (Nat.le_of_ble_eq_true rfl) (JX11_places_0 _ _ S h)
theorem dX11_endsOf_0 : decode cX11_endsOf 0 = .ok (.iconst 1, 1) := by decide +kernel
theorem dX11_endsOf_1 : decode cX11_endsOf 1 = .ok (.aload_n 0, 1) := by decide +kernel
theorem dX11_endsOf_2 : decode cX11_endsOf 2 = .ok (.iload_n 1, 1) := by decide +kernel
theorem dX11_endsOf_3 : decode cX11_endsOf 3 = .ok (.iconst 0, 1) := by decide +kernel
theorem dX11_endsOf_4 : decode cX11_endsOf 4 = .ok (.invokevirtual 231, 3) := by decide +kernel
theorem dX11_endsOf_7 : decode cX11_endsOf 7 = .ok (.ishl, 1) := by decide +kernel
theorem dX11_endsOf_8 : decode cX11_endsOf 8 = .ok (.iconst 1, 1) := by decide +kernel
theorem dX11_endsOf_9 : decode cX11_endsOf 9 = .ok (.aload_n 0, 1) := by decide +kernel
theorem dX11_endsOf_10 : decode cX11_endsOf 10 = .ok (.iload_n 1, 1) := by decide +kernel
theorem dX11_endsOf_11 : decode cX11_endsOf 11 = .ok (.aload_n 0, 1) := by decide +kernel
theorem dX11_endsOf_12 : decode cX11_endsOf 12 = .ok (.getfield 222, 3) := by decide +kernel
theorem dX11_endsOf_15 : decode cX11_endsOf 15 = .ok (.iconst 1, 1) := by decide +kernel
theorem dX11_endsOf_16 : decode cX11_endsOf 16 = .ok (.isub, 1) := by decide +kernel
theorem dX11_endsOf_17 : decode cX11_endsOf 17 = .ok (.invokevirtual 231, 3) := by decide +kernel
theorem dX11_endsOf_20 : decode cX11_endsOf 20 = .ok (.ishl, 1) := by decide +kernel
theorem dX11_endsOf_21 : decode cX11_endsOf 21 = .ok (.ior, 1) := by decide +kernel
theorem dX11_endsOf_22 : decode cX11_endsOf 22 = .ok (.ireturn, 1) := by decide +kernel
def VX11_endsOf_0 (d : Nat) (Q : Out → MS → Prop) (x0 : Nat) (x1 : Int) (S : MS) : Prop :=
  S.K x0 = 11 ∧ Mw hX11_at yX11_at d [vA x0, vI x1, vI 0] S (oI (fun r1 S1 => S1.K x0 = 11 ∧ (S1.K x0 = 11 ∧ Mw hX11_at yX11_at d [vA x0, vI x1, vI ((S1.I x0 14) - 1)] S1 (oI (fun r2 S2 => Q (.inl (some (vI (iOr (iShl 1 r1) (iShl 1 r2))))) S2)))))
theorem JX11_endsOf_0 {d : Nat} {S0 : MS} {Q : Out → MS → Prop} (x0 : Nat) (x1 : Int) (S : MS) (h : VX11_endsOf_0 d Q x0 x1 S) : Jw FinM RX11 cX11_endsOf 2 (some .int) [] yX11_endsOf (d + 1) S0 S 0 [(0, vA x0), (1, vI x1)] [] Q :=
  j_iconst dX11_endsOf_0 (j_aload_n 0 dX11_endsOf_1 rfl (j_iload_n 1 dX11_endsOf_2 rfl (j_iconst dX11_endsOf_3 (j_callV (rest := [vI 1]) 11 [vI x1, vI 0] k_RX11_231 ⟨w_8_66, p_5_10⟩ ⟨_, _, rfl⟩ (by decide) rfl rfl (Nat.le_of_ble_eq_true rfl) dX11_endsOf_4 h (kI (fun r1 S1 h => j_ishl dX11_endsOf_7 (j_iconst dX11_endsOf_8 (j_aload_n 0 dX11_endsOf_9 rfl (j_iload_n 1 dX11_endsOf_10 rfl (j_aload_n 0 dX11_endsOf_11 rfl (j_getI 11 14 f_RX11_222 dX11_endsOf_12 h (fun h => j_iconst dX11_endsOf_15 (j_isub dX11_endsOf_16 (j_callV (rest := [vI 1, vI (iShl 1 r1)]) 11 [vI x1, vI ((S1.I x0 14) - 1)] k_RX11_231 ⟨w_8_66, p_5_10⟩ ⟨_, _, rfl⟩ (by decide) rfl rfl (Nat.le_of_ble_eq_true rfl) dX11_endsOf_17 h (kI (fun r2 S2 h => j_ishl dX11_endsOf_20 (j_ior dX11_endsOf_21 (j_iret rfl dX11_endsOf_22 h)))) (fun _ _ h => h.elim))))))))))) (fun _ _ h => h.elim)))))
theorem MX11_endsOf {d : Nat} {x0 : Nat} {x1 : Int} {S : MS} {Q : Out → MS → Prop} (h : VX11_endsOf_0 d Q x0 x1 S) : Mw hX11_endsOf yX11_endsOf (d + 1) [vA x0, vI x1] S Q := Mw.ofJ (by decide) (Nat.le_of_ble_eq_true rfl) (JX11_endsOf_0 _ _ S h)
theorem dX11_endsNow_0 : decode cX11_endsNow 0 = .ok (.iconst 0, 1) := by decide +kernel
theorem dX11_endsNow_1 : decode cX11_endsNow 1 = .ok (.istore_n 1, 1) := by decide +kernel
theorem dX11_endsNow_2 : decode cX11_endsNow 2 = .ok (.iload_n 1, 1) := by decide +kernel
theorem dX11_endsNow_3 : decode cX11_endsNow 3 = .ok (.sipush 128, 3) := by decide +kernel
theorem dX11_endsNow_6 : decode cX11_endsNow 6 = .ok (.if_icmp .ge 16, 3) := by decide +kernel
theorem dX11_endsNow_9 : decode cX11_endsNow 9 = .ok (.aload_n 0, 1) := by decide +kernel
theorem dX11_endsNow_10 : decode cX11_endsNow 10 = .ok (.getfield 48, 3) := by decide +kernel
theorem dX11_endsNow_13 : decode cX11_endsNow 13 = .ok (.iload_n 1, 1) := by decide +kernel
theorem dX11_endsNow_14 : decode cX11_endsNow 14 = .ok (.iconst 0, 1) := by decide +kernel
theorem dX11_endsNow_15 : decode cX11_endsNow 15 = .ok (.bastore, 1) := by decide +kernel
theorem dX11_endsNow_16 : decode cX11_endsNow 16 = .ok (.iinc 1 1, 3) := by decide +kernel
theorem dX11_endsNow_19 : decode cX11_endsNow 19 = .ok (.goto (-17), 3) := by decide +kernel
theorem dX11_endsNow_22 : decode cX11_endsNow 22 = .ok (.iconst 0, 1) := by decide +kernel
theorem dX11_endsNow_23 : decode cX11_endsNow 23 = .ok (.istore_n 1, 1) := by decide +kernel
theorem dX11_endsNow_24 : decode cX11_endsNow 24 = .ok (.iconst 0, 1) := by decide +kernel
theorem dX11_endsNow_25 : decode cX11_endsNow 25 = .ok (.istore_n 2, 1) := by decide +kernel
theorem dX11_endsNow_26 : decode cX11_endsNow 26 = .ok (.iload_n 2, 1) := by decide +kernel
theorem dX11_endsNow_27 : decode cX11_endsNow 27 = .ok (.aload_n 0, 1) := by decide +kernel
theorem dX11_endsNow_28 : decode cX11_endsNow 28 = .ok (.getfield 45, 3) := by decide +kernel
theorem dX11_endsNow_31 : decode cX11_endsNow 31 = .ok (.iconst 0, 1) := by decide +kernel
theorem dX11_endsNow_32 : decode cX11_endsNow 32 = .ok (.iaload, 1) := by decide +kernel
theorem dX11_endsNow_33 : decode cX11_endsNow 33 = .ok (.if_icmp .ge 44, 3) := by decide +kernel
theorem dX11_endsNow_36 : decode cX11_endsNow 36 = .ok (.aload_n 0, 1) := by decide +kernel
theorem dX11_endsNow_37 : decode cX11_endsNow 37 = .ok (.aload_n 0, 1) := by decide +kernel
theorem dX11_endsNow_38 : decode cX11_endsNow 38 = .ok (.iconst 0, 1) := by decide +kernel
theorem dX11_endsNow_39 : decode cX11_endsNow 39 = .ok (.iload_n 2, 1) := by decide +kernel
theorem dX11_endsNow_40 : decode cX11_endsNow 40 = .ok (.invokevirtual 247, 3) := by decide +kernel
theorem dX11_endsNow_43 : decode cX11_endsNow 43 = .ok (.invokevirtual 268, 3) := by decide +kernel
theorem dX11_endsNow_46 : decode cX11_endsNow 46 = .ok (.istore_n 3, 1) := by decide +kernel
theorem dX11_endsNow_47 : decode cX11_endsNow 47 = .ok (.iload_n 1, 1) := by decide +kernel
theorem dX11_endsNow_48 : decode cX11_endsNow 48 = .ok (.aload_n 0, 1) := by decide +kernel
theorem dX11_endsNow_49 : decode cX11_endsNow 49 = .ok (.getfield 48, 3) := by decide +kernel
theorem dX11_endsNow_52 : decode cX11_endsNow 52 = .ok (.iload_n 3, 1) := by decide +kernel
theorem dX11_endsNow_53 : decode cX11_endsNow 53 = .ok (.baload, 1) := by decide +kernel
theorem dX11_endsNow_54 : decode cX11_endsNow 54 = .ok (.ifCond .eq 7, 3) := by decide +kernel
theorem dX11_endsNow_57 : decode cX11_endsNow 57 = .ok (.iconst 0, 1) := by decide +kernel
theorem dX11_endsNow_58 : decode cX11_endsNow 58 = .ok (.goto 4, 3) := by decide +kernel
theorem dX11_endsNow_61 : decode cX11_endsNow 61 = .ok (.iconst 1, 1) := by decide +kernel
theorem dX11_endsNow_62 : decode cX11_endsNow 62 = .ok (.iadd, 1) := by decide +kernel
theorem dX11_endsNow_63 : decode cX11_endsNow 63 = .ok (.istore_n 1, 1) := by decide +kernel
theorem dX11_endsNow_64 : decode cX11_endsNow 64 = .ok (.aload_n 0, 1) := by decide +kernel
theorem dX11_endsNow_65 : decode cX11_endsNow 65 = .ok (.getfield 48, 3) := by decide +kernel
theorem dX11_endsNow_68 : decode cX11_endsNow 68 = .ok (.iload_n 3, 1) := by decide +kernel
theorem dX11_endsNow_69 : decode cX11_endsNow 69 = .ok (.iconst 1, 1) := by decide +kernel
theorem dX11_endsNow_70 : decode cX11_endsNow 70 = .ok (.bastore, 1) := by decide +kernel
theorem dX11_endsNow_71 : decode cX11_endsNow 71 = .ok (.iinc 2 1, 3) := by decide +kernel
theorem dX11_endsNow_74 : decode cX11_endsNow 74 = .ok (.goto (-48), 3) := by decide +kernel
theorem dX11_endsNow_77 : decode cX11_endsNow 77 = .ok (.iload_n 1, 1) := by decide +kernel
theorem dX11_endsNow_78 : decode cX11_endsNow 78 = .ok (.ireturn, 1) := by decide +kernel
def VX11_endsNow_62 (d : Nat) (c26 : Nat → Int → Int → MS → Prop) (Q : Out → MS → Prop) (x0 : Nat) (x2 : Int) (x3 : Int) (t0 : Int) (t1 : Int) (S : MS) : Prop :=
  S.K x0 = 11 ∧ ∃ b1, S.R x0 18 = some b1 ∧ ((S.K b1 = 16 ∧ 0 ≤ x3 ∧ x3 < S.N b1 ∧ B01 1) ∧ (c26 x0 (t1 + t0) (x2 + 1) (S.setI b1 (x3).toNat 1)))
theorem JX11_endsNow_62 {d : Nat} {c26 : Nat → Int → Int → MS → Prop} {S0 : MS} {Q : Out → MS → Prop} (hc26 : ∀ (x0 : Nat) (x1 : Int) (x2 : Int) (S : MS), c26 x0 x1 x2 S → Jw FinM RX11 cX11_endsNow 4 (some .int) [] yX11_endsNow (d + 1) S0 S 26 [(0, vA x0), (1, vI x1), (2, vI x2)] [] Q) (x0 : Nat) (x2 : Int) (x3 : Int) (t0 : Int) (t1 : Int) (S : MS) (h : VX11_endsNow_62 d c26 Q x0 x2 x3 t0 t1 S) : Jw FinM RX11 cX11_endsNow 4 (some .int) [] yX11_endsNow (d + 1) S0 S 62 [(0, vA x0), (2, vI x2), (3, vI x3)] [vI t0, vI t1] Q :=
  j_iadd dX11_endsNow_62 (j_istore_n (lv2 := [(1, vI (t1 + t0)), (0, vA x0), (2, vI x2), (3, vI x3)]) dX11_endsNow_63 (by decide) rfl (j_aload_n 1 dX11_endsNow_64 rfl (j_getR 11 18 f_RX11_48 dX11_endsNow_65 h (fun b1 h => j_iload_n 3 dX11_endsNow_68 rfl (j_iconst dX11_endsNow_69 (j_zast dX11_endsNow_70 h (fun h => j_iinc 2 (lv2 := [(2, vI (x2 + 1)), (1, vI (t1 + t0)), (0, vA x0), (3, vI x3)]) dX11_endsNow_71 rfl (by decide) rfl (j_goto (tgt := 26) dX11_endsNow_74 (by decide) (j_sub [2, 1, 0] rfl (hc26 _ _ _ _ h))))))))))
def VX11_endsNow_26 (d : Nat) (Q : Out → MS → Prop) : Nat → Nat → Int → Int → MS → Prop
  | 0, _, _, _, _ => False
  | n + 1, x0, x1, x2, S => S.K x0 = 11 ∧ ∃ b1, S.R x0 17 = some b1 ∧ ((S.K b1 = 13 ∧ 0 ≤ (0 : Int) ∧ (0 : Int) < S.N b1) ∧ ((R32 x2 ∧ R32 (S.I b1 ((0 : Int)).toNat)) ∧ (((S.I b1 ((0 : Int)).toNat) ≤ x2) → Q (.inl (some (vI x1))) S) ∧ (¬ ((S.I b1 ((0 : Int)).toNat) ≤ x2) → S.K x0 = 11 ∧ Mw hX11_rowAt yX11_rowAt d [vA x0, vI 0, vI x2] S (oI (fun r2 S2 => S2.K x0 = 11 ∧ Mw hX11_endsOf yX11_endsOf d [vA x0, vI r2] S2 (oI (fun r3 S3 => S3.K x0 = 11 ∧ ∃ b4, S3.R x0 18 = some b4 ∧ ((S3.K b4 = 16 ∧ 0 ≤ r3 ∧ r3 < S3.N b4) ∧ (R32 (S3.I b4 (r3).toNat) ∧ (((S3.I b4 (r3).toNat) = 0) → VX11_endsNow_62 d (VX11_endsNow_26 d Q n) Q x0 x2 r3 1 x1 S3) ∧ (¬ ((S3.I b4 (r3).toNat) = 0) → VX11_endsNow_62 d (VX11_endsNow_26 d Q n) Q x0 x2 r3 0 x1 S3))))))))))
theorem JX11_endsNow_26 {d : Nat} {S0 : MS} {Q : Out → MS → Prop} : ∀ (n : Nat) (x0 : Nat) (x1 : Int) (x2 : Int) (S : MS), VX11_endsNow_26 d Q n x0 x1 x2 S → Jw FinM RX11 cX11_endsNow 4 (some .int) [] yX11_endsNow (d + 1) S0 S 26 [(0, vA x0), (1, vI x1), (2, vI x2)] [] Q := by
  intro n
  induction n with
  | zero => intro x0 x1 x2 S h; exact h.elim
  | succ n ih =>
    intro x0 x1 x2 S h
    exact j_iload_n 2 dX11_endsNow_26 rfl (j_aload_n 0 dX11_endsNow_27 rfl (j_getR 11 17 f_RX11_45 dX11_endsNow_28 h (fun b1 h => j_iconst dX11_endsNow_31 (j_iald dX11_endsNow_32 h (fun h => j_icmp_ge (tgt := 77) dX11_endsNow_33 (by decide) h (fun h => j_iload_n 1 dX11_endsNow_77 rfl (j_iret rfl dX11_endsNow_78 h)) (fun h => j_aload_n 0 dX11_endsNow_36 rfl (j_aload_n 0 dX11_endsNow_37 rfl (j_iconst dX11_endsNow_38 (j_iload_n 2 dX11_endsNow_39 rfl (j_callV (rest := [vA x0]) 11 [vI 0, vI x2] k_RX11_247 ⟨w_8_74, p_5_11⟩ ⟨_, _, rfl⟩ (by decide) rfl rfl (Nat.le_of_ble_eq_true rfl) dX11_endsNow_40 h (kI (fun r2 S2 h => j_callV (rest := []) 11 [vI r2] k_RX11_268 ⟨w_8_118, p_6_1⟩ ⟨_, _, rfl⟩ (by decide) rfl rfl (Nat.le_of_ble_eq_true rfl) dX11_endsNow_43 h (kI (fun r3 S3 h => j_istore_n (lv2 := [(3, vI r3), (0, vA x0), (1, vI x1), (2, vI x2)]) dX11_endsNow_46 (by decide) rfl (j_iload_n 2 dX11_endsNow_47 rfl (j_aload_n 1 dX11_endsNow_48 rfl (j_getR 11 18 f_RX11_48 dX11_endsNow_49 h (fun b4 h => j_iload_n 0 dX11_endsNow_52 rfl (j_zald dX11_endsNow_53 h (fun h => j_if_eq (tgt := 61) dX11_endsNow_54 (by decide) h (fun h => j_iconst dX11_endsNow_61 (j_sub [1, 3, 0] rfl (JX11_endsNow_62 ih _ _ _ _ _ _ h))) (fun h => j_iconst dX11_endsNow_57 (j_goto (tgt := 62) dX11_endsNow_58 (by decide) (j_sub [1, 3, 0] rfl (JX11_endsNow_62 ih _ _ _ _ _ _ h)))))))))))) (fun _ _ h => h.elim))) (fun _ _ h => h.elim)))))))))))
def VX11_endsNow_2 (d : Nat) (Q : Out → MS → Prop) : Nat → Nat → Int → MS → Prop
  | 0, _, _, _ => False
  | n + 1, x0, x1, S => (R32 x1 ∧ R32 (128 : Int)) ∧ (((128 : Int) ≤ x1) → ∃ m, VX11_endsNow_26 d Q m x0 0 0 S) ∧ (¬ ((128 : Int) ≤ x1) → S.K x0 = 11 ∧ ∃ b1, S.R x0 18 = some b1 ∧ ((S.K b1 = 16 ∧ 0 ≤ x1 ∧ x1 < S.N b1 ∧ B01 0) ∧ ((VX11_endsNow_2 d Q n) x0 (x1 + 1) (S.setI b1 (x1).toNat 0))))
theorem JX11_endsNow_2 {d : Nat} {S0 : MS} {Q : Out → MS → Prop} : ∀ (n : Nat) (x0 : Nat) (x1 : Int) (S : MS), VX11_endsNow_2 d Q n x0 x1 S → Jw FinM RX11 cX11_endsNow 4 (some .int) [] yX11_endsNow (d + 1) S0 S 2 [(0, vA x0), (1, vI x1)] [] Q := by
  intro n
  induction n with
  | zero => intro x0 x1 S h; exact h.elim
  | succ n ih =>
    intro x0 x1 S h
    exact j_iload_n 1 dX11_endsNow_2 rfl (j_sipush dX11_endsNow_3 rfl (j_icmp_ge (tgt := 22) dX11_endsNow_6 (by decide) h (fun h => j_iconst dX11_endsNow_22 (j_istore_n (lv2 := [(1, vI 0), (0, vA x0)]) dX11_endsNow_23 (by decide) rfl (j_iconst dX11_endsNow_24 (j_istore_n (lv2 := [(2, vI 0), (1, vI 0), (0, vA x0)]) dX11_endsNow_25 (by decide) rfl (Exists.elim h (fun m h => j_sub [2, 1, 0] rfl (JX11_endsNow_26 m _ _ _ _ h))))))) (fun h => j_aload_n 0 dX11_endsNow_9 rfl (j_getR 11 18 f_RX11_48 dX11_endsNow_10 h (fun b1 h => j_iload_n 1 dX11_endsNow_13 rfl (j_iconst dX11_endsNow_14 (j_zast dX11_endsNow_15 h (fun h => j_iinc 1 (lv2 := [(1, vI (x1 + 1)), (0, vA x0)]) dX11_endsNow_16 rfl (by decide) rfl (j_goto (tgt := 2) dX11_endsNow_19 (by decide) (j_sub [1, 0] rfl (ih _ _ _ h)))))))))))
def VX11_endsNow_0 (d : Nat) (Q : Out → MS → Prop) (x0 : Nat) (S : MS) : Prop :=
  ∃ m, VX11_endsNow_2 d Q m x0 0 S
theorem JX11_endsNow_0 {d : Nat} {S0 : MS} {Q : Out → MS → Prop} (x0 : Nat) (S : MS) (h : VX11_endsNow_0 d Q x0 S) : Jw FinM RX11 cX11_endsNow 4 (some .int) [] yX11_endsNow (d + 1) S0 S 0 [(0, vA x0)] [] Q :=
  j_iconst dX11_endsNow_0 (j_istore_n (lv2 := [(1, vI 0), (0, vA x0)]) dX11_endsNow_1 (by decide) rfl (Exists.elim h (fun m h => j_sub [1, 0] rfl (JX11_endsNow_2 m _ _ _ h))))
theorem MX11_endsNow {d : Nat} {x0 : Nat} {S : MS} {Q : Out → MS → Prop} (h : VX11_endsNow_0 d Q x0 S) : Mw hX11_endsNow yX11_endsNow (d + 1) [vA x0] S Q := Mw.ofJ (by decide) (Nat.le_of_ble_eq_true rfl) (JX11_endsNow_0 _ S h)
theorem dX11_ends_0 : decode cX11_ends 0 = .ok (.aload_n 0, 1) := by decide +kernel
theorem dX11_ends_1 : decode cX11_ends 1 = .ok (.iconst 0, 1) := by decide +kernel
theorem dX11_ends_2 : decode cX11_ends 2 = .ok (.putfield 3, 3) := by decide +kernel
theorem dX11_ends_5 : decode cX11_ends 5 = .ok (.aload_n 0, 1) := by decide +kernel
theorem dX11_ends_6 : decode cX11_ends 6 = .ok (.invokevirtual 253, 3) := by decide +kernel
theorem dX11_ends_9 : decode cX11_ends 9 = .ok (.aload_n 0, 1) := by decide +kernel
theorem dX11_ends_10 : decode cX11_ends 10 = .ok (.invokevirtual 271, 3) := by decide +kernel
theorem dX11_ends_13 : decode cX11_ends 13 = .ok (.ireturn, 1) := by decide +kernel
def VX11_ends_0 (d : Nat) (Q : Out → MS → Prop) (x0 : Nat) (S : MS) : Prop :=
  S.K x0 = 11 ∧ ((S.setI x0 0 0).K x0 = 11 ∧ Mw hX11_leaves yX11_leaves d [vA x0] (S.setI x0 0 0) (oV (fun S1 => S1.K x0 = 11 ∧ Mw hX11_endsNow yX11_endsNow d [vA x0] S1 (oI (fun r2 S2 => Q (.inl (some (vI r2))) S2)))))
theorem JX11_ends_0 {d : Nat} {S0 : MS} {Q : Out → MS → Prop} (x0 : Nat) (S : MS) (h : VX11_ends_0 d Q x0 S) : Jw FinM RX11 cX11_ends 1 (some .int) [] yX11_ends (d + 1) S0 S 0 [(0, vA x0)] [] Q :=
  j_aload_n 0 dX11_ends_0 rfl (j_iconst dX11_ends_1 (j_putI 11 0 f_RX11_3 dX11_ends_2 h (fun h => j_aload_n 0 dX11_ends_5 rfl (j_callV (rest := []) 11 [] k_RX11_253 ⟨w_8_42, p_5_4⟩ ⟨_, _, rfl⟩ (by decide) rfl rfl (Nat.le_of_ble_eq_true rfl) dX11_ends_6 h (kV (fun S1 h => j_aload_n 0 dX11_ends_9 rfl (j_callV (rest := []) 11 [] k_RX11_271 ⟨w_8_114, p_6_0⟩ ⟨_, _, rfl⟩ (by decide) rfl rfl (Nat.le_of_ble_eq_true rfl) dX11_ends_10 h (kI (fun r2 S2 h => j_iret rfl dX11_ends_13 h)) (fun _ _ h => h.elim)))) (fun _ _ h => h.elim)))))
theorem MX11_ends {d : Nat} {x0 : Nat} {S : MS} {Q : Out → MS → Prop} (h : VX11_ends_0 d Q x0 S) : Mw hX11_ends yX11_ends (d + 1) [vA x0] S Q := Mw.ofJ (by decide) (Nat.le_of_ble_eq_true rfl) (JX11_ends_0 _ S h)
theorem dX11_pair_0 : decode cX11_pair 0 = .ok (.aload_n 0, 1) := by decide +kernel
theorem dX11_pair_1 : decode cX11_pair 1 = .ok (.iconst 0, 1) := by decide +kernel
theorem dX11_pair_2 : decode cX11_pair 2 = .ok (.putfield 3, 3) := by decide +kernel
theorem dX11_pair_5 : decode cX11_pair 5 = .ok (.aload_n 0, 1) := by decide +kernel
theorem dX11_pair_6 : decode cX11_pair 6 = .ok (.invokevirtual 253, 3) := by decide +kernel
theorem dX11_pair_9 : decode cX11_pair 9 = .ok (.aload_n 0, 1) := by decide +kernel
theorem dX11_pair_10 : decode cX11_pair 10 = .ok (.invokevirtual 271, 3) := by decide +kernel
theorem dX11_pair_13 : decode cX11_pair 13 = .ok (.pop, 1) := by decide +kernel
theorem dX11_pair_14 : decode cX11_pair 14 = .ok (.iload_n 1, 1) := by decide +kernel
theorem dX11_pair_15 : decode cX11_pair 15 = .ok (.istore_n 2, 1) := by decide +kernel
theorem dX11_pair_16 : decode cX11_pair 16 = .ok (.iconst 0, 1) := by decide +kernel
theorem dX11_pair_17 : decode cX11_pair 17 = .ok (.istore_n 3, 1) := by decide +kernel
theorem dX11_pair_18 : decode cX11_pair 18 = .ok (.iload_n 3, 1) := by decide +kernel
theorem dX11_pair_19 : decode cX11_pair 19 = .ok (.aload_n 0, 1) := by decide +kernel
theorem dX11_pair_20 : decode cX11_pair 20 = .ok (.invokevirtual 83, 3) := by decide +kernel
theorem dX11_pair_23 : decode cX11_pair 23 = .ok (.if_icmp .ge 63, 3) := by decide +kernel
theorem dX11_pair_26 : decode cX11_pair 26 = .ok (.iload_n 3, 1) := by decide +kernel
theorem dX11_pair_27 : decode cX11_pair 27 = .ok (.iconst 1, 1) := by decide +kernel
theorem dX11_pair_28 : decode cX11_pair 28 = .ok (.iadd, 1) := by decide +kernel
theorem dX11_pair_29 : decode cX11_pair 29 = .ok (.istore 4, 2) := by decide +kernel
theorem dX11_pair_31 : decode cX11_pair 31 = .ok (.iload 4, 2) := by decide +kernel
theorem dX11_pair_33 : decode cX11_pair 33 = .ok (.aload_n 0, 1) := by decide +kernel
theorem dX11_pair_34 : decode cX11_pair 34 = .ok (.invokevirtual 83, 3) := by decide +kernel
theorem dX11_pair_37 : decode cX11_pair 37 = .ok (.if_icmp .ge 43, 3) := by decide +kernel
theorem dX11_pair_40 : decode cX11_pair 40 = .ok (.aload_n 0, 1) := by decide +kernel
theorem dX11_pair_41 : decode cX11_pair 41 = .ok (.getfield 48, 3) := by decide +kernel
theorem dX11_pair_44 : decode cX11_pair 44 = .ok (.iconst 1, 1) := by decide +kernel
theorem dX11_pair_45 : decode cX11_pair 45 = .ok (.iload_n 3, 1) := by decide +kernel
theorem dX11_pair_46 : decode cX11_pair 46 = .ok (.ishl, 1) := by decide +kernel
theorem dX11_pair_47 : decode cX11_pair 47 = .ok (.iconst 1, 1) := by decide +kernel
theorem dX11_pair_48 : decode cX11_pair 48 = .ok (.iload 4, 2) := by decide +kernel
theorem dX11_pair_50 : decode cX11_pair 50 = .ok (.ishl, 1) := by decide +kernel
theorem dX11_pair_51 : decode cX11_pair 51 = .ok (.ior, 1) := by decide +kernel
theorem dX11_pair_52 : decode cX11_pair 52 = .ok (.baload, 1) := by decide +kernel
theorem dX11_pair_53 : decode cX11_pair 53 = .ok (.ifCond .ne 6, 3) := by decide +kernel
theorem dX11_pair_56 : decode cX11_pair 56 = .ok (.goto 18, 3) := by decide +kernel
theorem dX11_pair_59 : decode cX11_pair 59 = .ok (.iload_n 2, 1) := by decide +kernel
theorem dX11_pair_60 : decode cX11_pair 60 = .ok (.ifCond .ne 11, 3) := by decide +kernel
theorem dX11_pair_63 : decode cX11_pair 63 = .ok (.bipush 10, 2) := by decide +kernel
theorem dX11_pair_65 : decode cX11_pair 65 = .ok (.iload_n 3, 1) := by decide +kernel
theorem dX11_pair_66 : decode cX11_pair 66 = .ok (.imul, 1) := by decide +kernel
theorem dX11_pair_67 : decode cX11_pair 67 = .ok (.iload 4, 2) := by decide +kernel
theorem dX11_pair_69 : decode cX11_pair 69 = .ok (.iadd, 1) := by decide +kernel
theorem dX11_pair_70 : decode cX11_pair 70 = .ok (.ireturn, 1) := by decide +kernel
theorem dX11_pair_71 : decode cX11_pair 71 = .ok (.iinc 2 (-1), 3) := by decide +kernel
theorem dX11_pair_74 : decode cX11_pair 74 = .ok (.iinc 4 1, 3) := by decide +kernel
theorem dX11_pair_77 : decode cX11_pair 77 = .ok (.goto (-46), 3) := by decide +kernel
theorem dX11_pair_80 : decode cX11_pair 80 = .ok (.iinc 3 1, 3) := by decide +kernel
theorem dX11_pair_83 : decode cX11_pair 83 = .ok (.goto (-65), 3) := by decide +kernel
theorem dX11_pair_86 : decode cX11_pair 86 = .ok (.iconst (-1), 1) := by decide +kernel
theorem dX11_pair_87 : decode cX11_pair 87 = .ok (.ireturn, 1) := by decide +kernel
def VX11_pair_74 (d : Nat) (c18 : Nat → Int → Int → MS → Prop) (c31 : Nat → Int → Int → Int → MS → Prop) (Q : Out → MS → Prop) (x0 : Nat) (x2 : Int) (x3 : Int) (x4 : Int) (S : MS) : Prop :=
  c31 x0 x2 x3 (x4 + 1) S
theorem JX11_pair_74 {d : Nat} {c18 : Nat → Int → Int → MS → Prop} {c31 : Nat → Int → Int → Int → MS → Prop} {S0 : MS} {Q : Out → MS → Prop} (hc18 : ∀ (x0 : Nat) (x2 : Int) (x3 : Int) (S : MS), c18 x0 x2 x3 S → Jw FinM RX11 cX11_pair 5 (some .int) [] yX11_pair (d + 1) S0 S 18 [(0, vA x0), (2, vI x2), (3, vI x3)] [] Q) (hc31 : ∀ (x0 : Nat) (x2 : Int) (x3 : Int) (x4 : Int) (S : MS), c31 x0 x2 x3 x4 S → Jw FinM RX11 cX11_pair 5 (some .int) [] yX11_pair (d + 1) S0 S 31 [(0, vA x0), (2, vI x2), (3, vI x3), (4, vI x4)] [] Q) (x0 : Nat) (x2 : Int) (x3 : Int) (x4 : Int) (S : MS) (h : VX11_pair_74 d c18 c31 Q x0 x2 x3 x4 S) : Jw FinM RX11 cX11_pair 5 (some .int) [] yX11_pair (d + 1) S0 S 74 [(0, vA x0), (2, vI x2), (3, vI x3), (4, vI x4)] [] Q :=
  j_iinc 3 (lv2 := [(4, vI (x4 + 1)), (0, vA x0), (2, vI x2), (3, vI x3)]) dX11_pair_74 rfl (by decide) rfl (j_goto (tgt := 31) dX11_pair_77 (by decide) (j_sub [1, 2, 3, 0] rfl (hc31 _ _ _ _ _ h)))
def VX11_pair_31 (d : Nat) (c18 : Nat → Int → Int → MS → Prop) (Q : Out → MS → Prop) : Nat → Nat → Int → Int → Int → MS → Prop
  | 0, _, _, _, _, _ => False
  | n + 1, x0, x2, x3, x4, S => S.K x0 = 11 ∧ Mw hX11_things yX11_things d [vA x0] S (oI (fun r1 S1 => (R32 x4 ∧ R32 r1) ∧ ((r1 ≤ x4) → c18 x0 x2 (x3 + 1) S1) ∧ (¬ (r1 ≤ x4) → S1.K x0 = 11 ∧ ∃ b2, S1.R x0 18 = some b2 ∧ ((S1.K b2 = 16 ∧ 0 ≤ (iOr (iShl 1 x3) (iShl 1 x4)) ∧ (iOr (iShl 1 x3) (iShl 1 x4)) < S1.N b2) ∧ (R32 (S1.I b2 ((iOr (iShl 1 x3) (iShl 1 x4))).toNat) ∧ (¬ ((S1.I b2 ((iOr (iShl 1 x3) (iShl 1 x4))).toNat) = 0) → R32 x2 ∧ (¬ (x2 = 0) → VX11_pair_74 d c18 (VX11_pair_31 d c18 Q n) Q x0 (wr (x2 + (-1))) x3 x4 S1) ∧ ((x2 = 0) → Q (.inl (some (vI ((10 * x3) + x4)))) S1)) ∧ (((S1.I b2 ((iOr (iShl 1 x3) (iShl 1 x4))).toNat) = 0) → VX11_pair_74 d c18 (VX11_pair_31 d c18 Q n) Q x0 x2 x3 x4 S1))))))
theorem JX11_pair_31 {d : Nat} {c18 : Nat → Int → Int → MS → Prop} {S0 : MS} {Q : Out → MS → Prop} (hc18 : ∀ (x0 : Nat) (x2 : Int) (x3 : Int) (S : MS), c18 x0 x2 x3 S → Jw FinM RX11 cX11_pair 5 (some .int) [] yX11_pair (d + 1) S0 S 18 [(0, vA x0), (2, vI x2), (3, vI x3)] [] Q) : ∀ (n : Nat) (x0 : Nat) (x2 : Int) (x3 : Int) (x4 : Int) (S : MS), VX11_pair_31 d c18 Q n x0 x2 x3 x4 S → Jw FinM RX11 cX11_pair 5 (some .int) [] yX11_pair (d + 1) S0 S 31 [(0, vA x0), (2, vI x2), (3, vI x3), (4, vI x4)] [] Q := by
  intro n
  induction n with
  | zero => intro x0 x2 x3 x4 S h; exact h.elim
  | succ n ih =>
    intro x0 x2 x3 x4 S h
    exact j_iload 3 dX11_pair_31 rfl (j_aload_n 0 dX11_pair_33 rfl (j_callV (rest := [vI x4]) 11 [] k_RX11_83 ⟨w_7_218, p_4_10⟩ ⟨_, _, rfl⟩ (by decide) rfl rfl (Nat.le_of_ble_eq_true rfl) dX11_pair_34 h (kI (fun r1 S1 h => j_icmp_ge (tgt := 80) dX11_pair_37 (by decide) h (fun h => j_iinc 2 (lv2 := [(3, vI (x3 + 1)), (0, vA x0), (2, vI x2), (4, vI x4)]) dX11_pair_80 rfl (by decide) rfl (j_goto (tgt := 18) dX11_pair_83 (by decide) (j_sub [1, 2, 0] rfl (hc18 _ _ _ _ h)))) (fun h => j_aload_n 0 dX11_pair_40 rfl (j_getR 11 18 f_RX11_48 dX11_pair_41 h (fun b2 h => j_iconst dX11_pair_44 (j_iload_n 2 dX11_pair_45 rfl (j_ishl dX11_pair_46 (j_iconst dX11_pair_47 (j_iload 3 dX11_pair_48 rfl (j_ishl dX11_pair_50 (j_ior dX11_pair_51 (j_zald dX11_pair_52 h (fun h => j_if_ne (tgt := 59) dX11_pair_53 (by decide) h (fun h => j_iload_n 1 dX11_pair_59 rfl (j_if_ne (tgt := 71) dX11_pair_60 (by decide) h (fun h => j_iincW 1 (lv2 := [(2, vI (wr (x2 + (-1)))), (0, vA x0), (3, vI x3), (4, vI x4)]) dX11_pair_71 rfl (by decide) rfl (j_sub [1, 0, 2, 3] rfl (JX11_pair_74 hc18 ih _ _ _ _ _ h))) (fun h => j_bipush dX11_pair_63 rfl (j_iload_n 2 dX11_pair_65 rfl (j_imul dX11_pair_66 (j_iload 3 dX11_pair_67 rfl (j_iadd dX11_pair_69 (j_iret rfl dX11_pair_70 h)))))))) (fun h => j_goto (tgt := 74) dX11_pair_56 (by decide) (JX11_pair_74 hc18 ih _ _ _ _ _ h))))))))))))))) (fun _ _ h => h.elim)))
def VX11_pair_18 (d : Nat) (Q : Out → MS → Prop) : Nat → Nat → Int → Int → MS → Prop
  | 0, _, _, _, _ => False
  | n + 1, x0, x2, x3, S => S.K x0 = 11 ∧ Mw hX11_things yX11_things d [vA x0] S (oI (fun r1 S1 => (R32 x3 ∧ R32 r1) ∧ ((r1 ≤ x3) → Q (.inl (some (vI ((-1))))) S1) ∧ (¬ (r1 ≤ x3) → ∃ m, VX11_pair_31 d (VX11_pair_18 d Q n) Q m x0 x2 x3 (x3 + 1) S1)))
theorem JX11_pair_18 {d : Nat} {S0 : MS} {Q : Out → MS → Prop} : ∀ (n : Nat) (x0 : Nat) (x2 : Int) (x3 : Int) (S : MS), VX11_pair_18 d Q n x0 x2 x3 S → Jw FinM RX11 cX11_pair 5 (some .int) [] yX11_pair (d + 1) S0 S 18 [(0, vA x0), (2, vI x2), (3, vI x3)] [] Q := by
  intro n
  induction n with
  | zero => intro x0 x2 x3 S h; exact h.elim
  | succ n ih =>
    intro x0 x2 x3 S h
    exact j_iload_n 2 dX11_pair_18 rfl (j_aload_n 0 dX11_pair_19 rfl (j_callV (rest := [vI x3]) 11 [] k_RX11_83 ⟨w_7_218, p_4_10⟩ ⟨_, _, rfl⟩ (by decide) rfl rfl (Nat.le_of_ble_eq_true rfl) dX11_pair_20 h (kI (fun r1 S1 h => j_icmp_ge (tgt := 86) dX11_pair_23 (by decide) h (fun h => j_iconst dX11_pair_86 (j_iret rfl dX11_pair_87 h)) (fun h => j_iload_n 2 dX11_pair_26 rfl (j_iconst dX11_pair_27 (j_iadd dX11_pair_28 (j_istore (lv2 := [(4, vI (x3 + 1)), (0, vA x0), (2, vI x2), (3, vI x3)]) dX11_pair_29 (by decide) rfl (Exists.elim h (fun m h => j_sub [1, 2, 3, 0] rfl (JX11_pair_31 ih m _ _ _ _ _ h))))))))) (fun _ _ h => h.elim)))
def VX11_pair_0 (d : Nat) (Q : Out → MS → Prop) (x0 : Nat) (x1 : Int) (S : MS) : Prop :=
  S.K x0 = 11 ∧ ((S.setI x0 0 0).K x0 = 11 ∧ Mw hX11_leaves yX11_leaves d [vA x0] (S.setI x0 0 0) (oV (fun S1 => S1.K x0 = 11 ∧ Mw hX11_endsNow yX11_endsNow d [vA x0] S1 (oI (fun r2 S2 => ∃ m, VX11_pair_18 d Q m x0 x1 0 S2)))))
theorem JX11_pair_0 {d : Nat} {S0 : MS} {Q : Out → MS → Prop} (x0 : Nat) (x1 : Int) (S : MS) (h : VX11_pair_0 d Q x0 x1 S) : Jw FinM RX11 cX11_pair 5 (some .int) [] yX11_pair (d + 1) S0 S 0 [(0, vA x0), (1, vI x1)] [] Q :=
  j_aload_n 0 dX11_pair_0 rfl (j_iconst dX11_pair_1 (j_putI 11 0 f_RX11_3 dX11_pair_2 h (fun h => j_aload_n 0 dX11_pair_5 rfl (j_callV (rest := []) 11 [] k_RX11_253 ⟨w_8_42, p_5_4⟩ ⟨_, _, rfl⟩ (by decide) rfl rfl (Nat.le_of_ble_eq_true rfl) dX11_pair_6 h (kV (fun S1 h => j_aload_n 0 dX11_pair_9 rfl (j_callV (rest := []) 11 [] k_RX11_271 ⟨w_8_114, p_6_0⟩ ⟨_, _, rfl⟩ (by decide) rfl rfl (Nat.le_of_ble_eq_true rfl) dX11_pair_10 h (kI (fun r2 S2 h => j_pop rfl dX11_pair_13 (j_iload_n 1 dX11_pair_14 rfl (j_istore_n (lv2 := [(2, vI x1), (0, vA x0), (1, vI x1)]) dX11_pair_15 (by decide) rfl (j_iconst dX11_pair_16 (j_istore_n (lv2 := [(3, vI 0), (2, vI x1), (0, vA x0), (1, vI x1)]) dX11_pair_17 (by decide) rfl (Exists.elim h (fun m h => j_sub [2, 1, 0] rfl (JX11_pair_18 m _ _ _ _ h))))))))) (fun _ _ h => h.elim)))) (fun _ _ h => h.elim)))))
theorem MX11_pair {d : Nat} {x0 : Nat} {x1 : Int} {S : MS} {Q : Out → MS → Prop} (h : VX11_pair_0 d Q x0 x1 S) : Mw hX11_pair yX11_pair (d + 1) [vA x0, vI x1] S Q := Mw.ofJ (by decide) (Nat.le_of_ble_eq_true rfl) (JX11_pair_0 _ _ S h)
theorem dX11_sures_0 : decode cX11_sures 0 = .ok (.aload_n 0, 1) := by decide +kernel
theorem dX11_sures_1 : decode cX11_sures 1 = .ok (.iconst 0, 1) := by decide +kernel
theorem dX11_sures_2 : decode cX11_sures 2 = .ok (.putfield 3, 3) := by decide +kernel
theorem dX11_sures_5 : decode cX11_sures 5 = .ok (.aload_n 0, 1) := by decide +kernel
theorem dX11_sures_6 : decode cX11_sures 6 = .ok (.invokevirtual 253, 3) := by decide +kernel
theorem dX11_sures_9 : decode cX11_sures 9 = .ok (.aload_n 0, 1) := by decide +kernel
theorem dX11_sures_10 : decode cX11_sures 10 = .ok (.iconst 3, 1) := by decide +kernel
theorem dX11_sures_11 : decode cX11_sures 11 = .ok (.invokevirtual 274, 3) := by decide +kernel
theorem dX11_sures_14 : decode cX11_sures 14 = .ok (.iconst 0, 1) := by decide +kernel
theorem dX11_sures_15 : decode cX11_sures 15 = .ok (.istore_n 2, 1) := by decide +kernel
theorem dX11_sures_16 : decode cX11_sures 16 = .ok (.iconst 0, 1) := by decide +kernel
theorem dX11_sures_17 : decode cX11_sures 17 = .ok (.istore_n 3, 1) := by decide +kernel
theorem dX11_sures_18 : decode cX11_sures 18 = .ok (.iload_n 3, 1) := by decide +kernel
theorem dX11_sures_19 : decode cX11_sures 19 = .ok (.aload_n 0, 1) := by decide +kernel
theorem dX11_sures_20 : decode cX11_sures 20 = .ok (.getfield 277, 3) := by decide +kernel
theorem dX11_sures_23 : decode cX11_sures 23 = .ok (.if_icmp .ge 151, 3) := by decide +kernel
theorem dX11_sures_26 : decode cX11_sures 26 = .ok (.iconst 0, 1) := by decide +kernel
theorem dX11_sures_27 : decode cX11_sures 27 = .ok (.istore 4, 2) := by decide +kernel
theorem dX11_sures_29 : decode cX11_sures 29 = .ok (.iconst 0, 1) := by decide +kernel
theorem dX11_sures_30 : decode cX11_sures 30 = .ok (.istore 5, 2) := by decide +kernel
theorem dX11_sures_32 : decode cX11_sures 32 = .ok (.iload 5, 2) := by decide +kernel
theorem dX11_sures_34 : decode cX11_sures 34 = .ok (.aload_n 0, 1) := by decide +kernel
theorem dX11_sures_35 : decode cX11_sures 35 = .ok (.getfield 45, 3) := by decide +kernel
theorem dX11_sures_38 : decode cX11_sures 38 = .ok (.iconst 0, 1) := by decide +kernel
theorem dX11_sures_39 : decode cX11_sures 39 = .ok (.iaload, 1) := by decide +kernel
theorem dX11_sures_40 : decode cX11_sures 40 = .ok (.if_icmp .ge 34, 3) := by decide +kernel
theorem dX11_sures_43 : decode cX11_sures 43 = .ok (.iload 4, 2) := by decide +kernel
theorem dX11_sures_45 : decode cX11_sures 45 = .ok (.iconst 1, 1) := by decide +kernel
theorem dX11_sures_46 : decode cX11_sures 46 = .ok (.aload_n 0, 1) := by decide +kernel
theorem dX11_sures_47 : decode cX11_sures 47 = .ok (.iconst 0, 1) := by decide +kernel
theorem dX11_sures_48 : decode cX11_sures 48 = .ok (.aload_n 0, 1) := by decide +kernel
theorem dX11_sures_49 : decode cX11_sures 49 = .ok (.getfield 58, 3) := by decide +kernel
theorem dX11_sures_52 : decode cX11_sures 52 = .ok (.iload_n 3, 1) := by decide +kernel
theorem dX11_sures_53 : decode cX11_sures 53 = .ok (.iaload, 1) := by decide +kernel
theorem dX11_sures_54 : decode cX11_sures 54 = .ok (.aload_n 0, 1) := by decide +kernel
theorem dX11_sures_55 : decode cX11_sures 55 = .ok (.iconst 0, 1) := by decide +kernel
theorem dX11_sures_56 : decode cX11_sures 56 = .ok (.iload 5, 2) := by decide +kernel
theorem dX11_sures_58 : decode cX11_sures 58 = .ok (.invokevirtual 247, 3) := by decide +kernel
theorem dX11_sures_61 : decode cX11_sures 61 = .ok (.invokevirtual 234, 3) := by decide +kernel
theorem dX11_sures_64 : decode cX11_sures 64 = .ok (.ishl, 1) := by decide +kernel
theorem dX11_sures_65 : decode cX11_sures 65 = .ok (.ior, 1) := by decide +kernel
theorem dX11_sures_66 : decode cX11_sures 66 = .ok (.istore 4, 2) := by decide +kernel
theorem dX11_sures_68 : decode cX11_sures 68 = .ok (.iinc 5 1, 3) := by decide +kernel
theorem dX11_sures_71 : decode cX11_sures 71 = .ok (.goto (-39), 3) := by decide +kernel
theorem dX11_sures_74 : decode cX11_sures 74 = .ok (.iload 4, 2) := by decide +kernel
theorem dX11_sures_76 : decode cX11_sures 76 = .ok (.invokestatic 102, 3) := by decide +kernel
theorem dX11_sures_79 : decode cX11_sures 79 = .ok (.iconst 1, 1) := by decide +kernel
theorem dX11_sures_80 : decode cX11_sures 80 = .ok (.if_icmp .ne 7, 3) := by decide +kernel
theorem dX11_sures_83 : decode cX11_sures 83 = .ok (.iconst 1, 1) := by decide +kernel
theorem dX11_sures_84 : decode cX11_sures 84 = .ok (.goto 4, 3) := by decide +kernel
theorem dX11_sures_87 : decode cX11_sures 87 = .ok (.iconst 0, 1) := by decide +kernel
theorem dX11_sures_88 : decode cX11_sures 88 = .ok (.istore 5, 2) := by decide +kernel
theorem dX11_sures_90 : decode cX11_sures 90 = .ok (.iconst 0, 1) := by decide +kernel
theorem dX11_sures_91 : decode cX11_sures 91 = .ok (.istore 6, 2) := by decide +kernel
theorem dX11_sures_93 : decode cX11_sures 93 = .ok (.iload 6, 2) := by decide +kernel
theorem dX11_sures_95 : decode cX11_sures 95 = .ok (.aload_n 0, 1) := by decide +kernel
theorem dX11_sures_96 : decode cX11_sures 96 = .ok (.invokevirtual 91, 3) := by decide +kernel
theorem dX11_sures_99 : decode cX11_sures 99 = .ok (.if_icmp .ge 56, 3) := by decide +kernel
theorem dX11_sures_102 : decode cX11_sures 102 = .ok (.iload_n 1, 1) := by decide +kernel
theorem dX11_sures_103 : decode cX11_sures 103 = .ok (.ifCond .eq 52, 3) := by decide +kernel
theorem dX11_sures_106 : decode cX11_sures 106 = .ok (.iload 5, 2) := by decide +kernel
theorem dX11_sures_108 : decode cX11_sures 108 = .ok (.ifCond .eq 38, 3) := by decide +kernel
theorem dX11_sures_111 : decode cX11_sures 111 = .ok (.aload_n 0, 1) := by decide +kernel
theorem dX11_sures_112 : decode cX11_sures 112 = .ok (.aload_n 0, 1) := by decide +kernel
theorem dX11_sures_113 : decode cX11_sures 113 = .ok (.iload 6, 2) := by decide +kernel
theorem dX11_sures_115 : decode cX11_sures 115 = .ok (.iconst 0, 1) := by decide +kernel
theorem dX11_sures_116 : decode cX11_sures 116 = .ok (.invokevirtual 215, 3) := by decide +kernel
theorem dX11_sures_119 : decode cX11_sures 119 = .ok (.iconst 0, 1) := by decide +kernel
theorem dX11_sures_120 : decode cX11_sures 120 = .ok (.invokevirtual 94, 3) := by decide +kernel
theorem dX11_sures_123 : decode cX11_sures 123 = .ok (.ifCond .ne 19, 3) := by decide +kernel
theorem dX11_sures_126 : decode cX11_sures 126 = .ok (.aload_n 0, 1) := by decide +kernel
theorem dX11_sures_127 : decode cX11_sures 127 = .ok (.iload 6, 2) := by decide +kernel
theorem dX11_sures_129 : decode cX11_sures 129 = .ok (.iconst 1, 1) := by decide +kernel
theorem dX11_sures_130 : decode cX11_sures 130 = .ok (.invokevirtual 215, 3) := by decide +kernel
theorem dX11_sures_133 : decode cX11_sures 133 = .ok (.aload_n 0, 1) := by decide +kernel
theorem dX11_sures_134 : decode cX11_sures 134 = .ok (.getfield 58, 3) := by decide +kernel
theorem dX11_sures_137 : decode cX11_sures 137 = .ok (.iload_n 3, 1) := by decide +kernel
theorem dX11_sures_138 : decode cX11_sures 138 = .ok (.iaload, 1) := by decide +kernel
theorem dX11_sures_139 : decode cX11_sures 139 = .ok (.if_icmp .eq 7, 3) := by decide +kernel
theorem dX11_sures_142 : decode cX11_sures 142 = .ok (.iconst 1, 1) := by decide +kernel
theorem dX11_sures_143 : decode cX11_sures 143 = .ok (.goto 4, 3) := by decide +kernel
theorem dX11_sures_146 : decode cX11_sures 146 = .ok (.iconst 0, 1) := by decide +kernel
theorem dX11_sures_147 : decode cX11_sures 147 = .ok (.istore 5, 2) := by decide +kernel
theorem dX11_sures_149 : decode cX11_sures 149 = .ok (.iinc 6 1, 3) := by decide +kernel
theorem dX11_sures_152 : decode cX11_sures 152 = .ok (.goto (-59), 3) := by decide +kernel
theorem dX11_sures_155 : decode cX11_sures 155 = .ok (.iload_n 2, 1) := by decide +kernel
theorem dX11_sures_156 : decode cX11_sures 156 = .ok (.iload 5, 2) := by decide +kernel
theorem dX11_sures_158 : decode cX11_sures 158 = .ok (.ifCond .eq 7, 3) := by decide +kernel
theorem dX11_sures_161 : decode cX11_sures 161 = .ok (.iconst 1, 1) := by decide +kernel
theorem dX11_sures_162 : decode cX11_sures 162 = .ok (.goto 4, 3) := by decide +kernel
theorem dX11_sures_165 : decode cX11_sures 165 = .ok (.iconst 0, 1) := by decide +kernel
theorem dX11_sures_166 : decode cX11_sures 166 = .ok (.iadd, 1) := by decide +kernel
theorem dX11_sures_167 : decode cX11_sures 167 = .ok (.istore_n 2, 1) := by decide +kernel
theorem dX11_sures_168 : decode cX11_sures 168 = .ok (.iinc 3 1, 3) := by decide +kernel
theorem dX11_sures_171 : decode cX11_sures 171 = .ok (.goto (-153), 3) := by decide +kernel
theorem dX11_sures_174 : decode cX11_sures 174 = .ok (.iload_n 2, 1) := by decide +kernel
theorem dX11_sures_175 : decode cX11_sures 175 = .ok (.ireturn, 1) := by decide +kernel
def VX11_sures_147 (d : Nat) (c18 : Nat → Int → Int → Int → MS → Prop) (c93 : Nat → Int → Int → Int → Int → Int → MS → Prop) (Q : Out → MS → Prop) (x0 : Nat) (x1 : Int) (x2 : Int) (x3 : Int) (x6 : Int) (t0 : Int) (S : MS) : Prop :=
  c93 x0 x1 x2 x3 t0 (x6 + 1) S
theorem JX11_sures_147 {d : Nat} {c18 : Nat → Int → Int → Int → MS → Prop} {c93 : Nat → Int → Int → Int → Int → Int → MS → Prop} {S0 : MS} {Q : Out → MS → Prop} (hc18 : ∀ (x0 : Nat) (x1 : Int) (x2 : Int) (x3 : Int) (S : MS), c18 x0 x1 x2 x3 S → Jw FinM RX11 cX11_sures 7 (some .int) [] yX11_sures (d + 1) S0 S 18 [(0, vA x0), (1, vI x1), (2, vI x2), (3, vI x3)] [] Q) (hc93 : ∀ (x0 : Nat) (x1 : Int) (x2 : Int) (x3 : Int) (x5 : Int) (x6 : Int) (S : MS), c93 x0 x1 x2 x3 x5 x6 S → Jw FinM RX11 cX11_sures 7 (some .int) [] yX11_sures (d + 1) S0 S 93 [(0, vA x0), (1, vI x1), (2, vI x2), (3, vI x3), (5, vI x5), (6, vI x6)] [] Q) (x0 : Nat) (x1 : Int) (x2 : Int) (x3 : Int) (x6 : Int) (t0 : Int) (S : MS) (h : VX11_sures_147 d c18 c93 Q x0 x1 x2 x3 x6 t0 S) : Jw FinM RX11 cX11_sures 7 (some .int) [] yX11_sures (d + 1) S0 S 147 [(0, vA x0), (1, vI x1), (2, vI x2), (3, vI x3), (6, vI x6)] [vI t0] Q :=
  j_istore (lv2 := [(5, vI t0), (0, vA x0), (1, vI x1), (2, vI x2), (3, vI x3), (6, vI x6)]) dX11_sures_147 (by decide) rfl (j_iinc 5 (lv2 := [(6, vI (x6 + 1)), (5, vI t0), (0, vA x0), (1, vI x1), (2, vI x2), (3, vI x3)]) dX11_sures_149 rfl (by decide) rfl (j_goto (tgt := 93) dX11_sures_152 (by decide) (j_sub [2, 3, 4, 5, 1, 0] rfl (hc93 _ _ _ _ _ _ _ h))))
def VX11_sures_142 (d : Nat) (c18 : Nat → Int → Int → Int → MS → Prop) (c93 : Nat → Int → Int → Int → Int → Int → MS → Prop) (Q : Out → MS → Prop) (x0 : Nat) (x1 : Int) (x2 : Int) (x3 : Int) (x6 : Int) (S : MS) : Prop :=
  VX11_sures_147 d c18 c93 Q x0 x1 x2 x3 x6 1 S
theorem JX11_sures_142 {d : Nat} {c18 : Nat → Int → Int → Int → MS → Prop} {c93 : Nat → Int → Int → Int → Int → Int → MS → Prop} {S0 : MS} {Q : Out → MS → Prop} (hc18 : ∀ (x0 : Nat) (x1 : Int) (x2 : Int) (x3 : Int) (S : MS), c18 x0 x1 x2 x3 S → Jw FinM RX11 cX11_sures 7 (some .int) [] yX11_sures (d + 1) S0 S 18 [(0, vA x0), (1, vI x1), (2, vI x2), (3, vI x3)] [] Q) (hc93 : ∀ (x0 : Nat) (x1 : Int) (x2 : Int) (x3 : Int) (x5 : Int) (x6 : Int) (S : MS), c93 x0 x1 x2 x3 x5 x6 S → Jw FinM RX11 cX11_sures 7 (some .int) [] yX11_sures (d + 1) S0 S 93 [(0, vA x0), (1, vI x1), (2, vI x2), (3, vI x3), (5, vI x5), (6, vI x6)] [] Q) (x0 : Nat) (x1 : Int) (x2 : Int) (x3 : Int) (x6 : Int) (S : MS) (h : VX11_sures_142 d c18 c93 Q x0 x1 x2 x3 x6 S) : Jw FinM RX11 cX11_sures 7 (some .int) [] yX11_sures (d + 1) S0 S 142 [(0, vA x0), (1, vI x1), (2, vI x2), (3, vI x3), (6, vI x6)] [] Q :=
  j_iconst dX11_sures_142 (j_goto (tgt := 147) dX11_sures_143 (by decide) (JX11_sures_147 hc18 hc93 _ _ _ _ _ _ _ h))
def VX11_sures_146 (d : Nat) (c18 : Nat → Int → Int → Int → MS → Prop) (c93 : Nat → Int → Int → Int → Int → Int → MS → Prop) (Q : Out → MS → Prop) (x0 : Nat) (x1 : Int) (x2 : Int) (x3 : Int) (x6 : Int) (S : MS) : Prop :=
  VX11_sures_147 d c18 c93 Q x0 x1 x2 x3 x6 0 S
theorem JX11_sures_146 {d : Nat} {c18 : Nat → Int → Int → Int → MS → Prop} {c93 : Nat → Int → Int → Int → Int → Int → MS → Prop} {S0 : MS} {Q : Out → MS → Prop} (hc18 : ∀ (x0 : Nat) (x1 : Int) (x2 : Int) (x3 : Int) (S : MS), c18 x0 x1 x2 x3 S → Jw FinM RX11 cX11_sures 7 (some .int) [] yX11_sures (d + 1) S0 S 18 [(0, vA x0), (1, vI x1), (2, vI x2), (3, vI x3)] [] Q) (hc93 : ∀ (x0 : Nat) (x1 : Int) (x2 : Int) (x3 : Int) (x5 : Int) (x6 : Int) (S : MS), c93 x0 x1 x2 x3 x5 x6 S → Jw FinM RX11 cX11_sures 7 (some .int) [] yX11_sures (d + 1) S0 S 93 [(0, vA x0), (1, vI x1), (2, vI x2), (3, vI x3), (5, vI x5), (6, vI x6)] [] Q) (x0 : Nat) (x1 : Int) (x2 : Int) (x3 : Int) (x6 : Int) (S : MS) (h : VX11_sures_146 d c18 c93 Q x0 x1 x2 x3 x6 S) : Jw FinM RX11 cX11_sures 7 (some .int) [] yX11_sures (d + 1) S0 S 146 [(0, vA x0), (1, vI x1), (2, vI x2), (3, vI x3), (6, vI x6)] [] Q :=
  j_iconst dX11_sures_146 (JX11_sures_147 hc18 hc93 _ _ _ _ _ _ _ h)
def VX11_sures_166 (d : Nat) (c18 : Nat → Int → Int → Int → MS → Prop) (Q : Out → MS → Prop) (x0 : Nat) (x1 : Int) (x3 : Int) (t0 : Int) (t1 : Int) (S : MS) : Prop :=
  c18 x0 x1 (t1 + t0) (x3 + 1) S
theorem JX11_sures_166 {d : Nat} {c18 : Nat → Int → Int → Int → MS → Prop} {S0 : MS} {Q : Out → MS → Prop} (hc18 : ∀ (x0 : Nat) (x1 : Int) (x2 : Int) (x3 : Int) (S : MS), c18 x0 x1 x2 x3 S → Jw FinM RX11 cX11_sures 7 (some .int) [] yX11_sures (d + 1) S0 S 18 [(0, vA x0), (1, vI x1), (2, vI x2), (3, vI x3)] [] Q) (x0 : Nat) (x1 : Int) (x3 : Int) (t0 : Int) (t1 : Int) (S : MS) (h : VX11_sures_166 d c18 Q x0 x1 x3 t0 t1 S) : Jw FinM RX11 cX11_sures 7 (some .int) [] yX11_sures (d + 1) S0 S 166 [(0, vA x0), (1, vI x1), (3, vI x3)] [vI t0, vI t1] Q :=
  j_iadd dX11_sures_166 (j_istore_n (lv2 := [(2, vI (t1 + t0)), (0, vA x0), (1, vI x1), (3, vI x3)]) dX11_sures_167 (by decide) rfl (j_iinc 3 (lv2 := [(3, vI (x3 + 1)), (2, vI (t1 + t0)), (0, vA x0), (1, vI x1)]) dX11_sures_168 rfl (by decide) rfl (j_goto (tgt := 18) dX11_sures_171 (by decide) (j_sub [2, 3, 1, 0] rfl (hc18 _ _ _ _ _ h)))))
def VX11_sures_155 (d : Nat) (c18 : Nat → Int → Int → Int → MS → Prop) (Q : Out → MS → Prop) (x0 : Nat) (x1 : Int) (x2 : Int) (x3 : Int) (x5 : Int) (S : MS) : Prop :=
  R32 x5 ∧ ((x5 = 0) → VX11_sures_166 d c18 Q x0 x1 x3 0 x2 S) ∧ (¬ (x5 = 0) → VX11_sures_166 d c18 Q x0 x1 x3 1 x2 S)
theorem JX11_sures_155 {d : Nat} {c18 : Nat → Int → Int → Int → MS → Prop} {S0 : MS} {Q : Out → MS → Prop} (hc18 : ∀ (x0 : Nat) (x1 : Int) (x2 : Int) (x3 : Int) (S : MS), c18 x0 x1 x2 x3 S → Jw FinM RX11 cX11_sures 7 (some .int) [] yX11_sures (d + 1) S0 S 18 [(0, vA x0), (1, vI x1), (2, vI x2), (3, vI x3)] [] Q) (x0 : Nat) (x1 : Int) (x2 : Int) (x3 : Int) (x5 : Int) (S : MS) (h : VX11_sures_155 d c18 Q x0 x1 x2 x3 x5 S) : Jw FinM RX11 cX11_sures 7 (some .int) [] yX11_sures (d + 1) S0 S 155 [(0, vA x0), (1, vI x1), (2, vI x2), (3, vI x3), (5, vI x5)] [] Q :=
  j_iload_n 2 dX11_sures_155 rfl (j_iload 4 dX11_sures_156 rfl (j_if_eq (tgt := 165) dX11_sures_158 (by decide) h (fun h => j_iconst dX11_sures_165 (j_sub [0, 1, 3] rfl (JX11_sures_166 hc18 _ _ _ _ _ _ h))) (fun h => j_iconst dX11_sures_161 (j_goto (tgt := 166) dX11_sures_162 (by decide) (j_sub [0, 1, 3] rfl (JX11_sures_166 hc18 _ _ _ _ _ _ h))))))
def VX11_sures_93 (d : Nat) (c18 : Nat → Int → Int → Int → MS → Prop) (Q : Out → MS → Prop) : Nat → Nat → Int → Int → Int → Int → Int → MS → Prop
  | 0, _, _, _, _, _, _, _ => False
  | n + 1, x0, x1, x2, x3, x5, x6, S => S.K x0 = 11 ∧ Mw hX11_notes yX11_notes d [vA x0] S (oI (fun r1 S1 => (R32 x6 ∧ R32 r1) ∧ ((r1 ≤ x6) → VX11_sures_155 d c18 Q x0 x1 x2 x3 x5 S1) ∧ (¬ (r1 ≤ x6) → R32 x1 ∧ ((x1 = 0) → VX11_sures_155 d c18 Q x0 x1 x2 x3 x5 S1) ∧ (¬ (x1 = 0) → R32 x5 ∧ ((x5 = 0) → VX11_sures_146 d c18 (VX11_sures_93 d c18 Q n) Q x0 x1 x2 x3 x6 S1) ∧ (¬ (x5 = 0) → S1.K x0 = 11 ∧ Mw hX11_ofNote yX11_ofNote d [vA x0, vI x6, vI 0] S1 (oI (fun r2 S2 => S2.K x0 = 11 ∧ Mw hX11_ofScale yX11_ofScale d [vA x0, vI r2, vI 0] S2 (oI (fun r3 S3 => R32 r3 ∧ (¬ (r3 = 0) → VX11_sures_142 d c18 (VX11_sures_93 d c18 Q n) Q x0 x1 x2 x3 x6 S3) ∧ ((r3 = 0) → S3.K x0 = 11 ∧ Mw hX11_ofNote yX11_ofNote d [vA x0, vI x6, vI 1] S3 (oI (fun r4 S4 => S4.K x0 = 11 ∧ ∃ b5, S4.R x0 22 = some b5 ∧ ((S4.K b5 = 13 ∧ 0 ≤ x3 ∧ x3 < S4.N b5) ∧ ((R32 r4 ∧ R32 (S4.I b5 (x3).toNat)) ∧ ((r4 = (S4.I b5 (x3).toNat)) → VX11_sures_146 d c18 (VX11_sures_93 d c18 Q n) Q x0 x1 x2 x3 x6 S4) ∧ (¬ (r4 = (S4.I b5 (x3).toNat)) → VX11_sures_142 d c18 (VX11_sures_93 d c18 Q n) Q x0 x1 x2 x3 x6 S4)))))))))))))))
theorem JX11_sures_93 {d : Nat} {c18 : Nat → Int → Int → Int → MS → Prop} {S0 : MS} {Q : Out → MS → Prop} (hc18 : ∀ (x0 : Nat) (x1 : Int) (x2 : Int) (x3 : Int) (S : MS), c18 x0 x1 x2 x3 S → Jw FinM RX11 cX11_sures 7 (some .int) [] yX11_sures (d + 1) S0 S 18 [(0, vA x0), (1, vI x1), (2, vI x2), (3, vI x3)] [] Q) : ∀ (n : Nat) (x0 : Nat) (x1 : Int) (x2 : Int) (x3 : Int) (x5 : Int) (x6 : Int) (S : MS), VX11_sures_93 d c18 Q n x0 x1 x2 x3 x5 x6 S → Jw FinM RX11 cX11_sures 7 (some .int) [] yX11_sures (d + 1) S0 S 93 [(0, vA x0), (1, vI x1), (2, vI x2), (3, vI x3), (5, vI x5), (6, vI x6)] [] Q := by
  intro n
  induction n with
  | zero => intro x0 x1 x2 x3 x5 x6 S h; exact h.elim
  | succ n ih =>
    intro x0 x1 x2 x3 x5 x6 S h
    exact j_iload 5 dX11_sures_93 rfl (j_aload_n 0 dX11_sures_95 rfl (j_callV (rest := [vI x6]) 11 [] k_RX11_91 ⟨w_7_202, p_4_8⟩ ⟨_, _, rfl⟩ (by decide) rfl rfl (Nat.le_of_ble_eq_true rfl) dX11_sures_96 h (kI (fun r1 S1 h => j_icmp_ge (tgt := 155) dX11_sures_99 (by decide) h (fun h => j_sub [0, 1, 2, 3, 4] rfl (JX11_sures_155 hc18 _ _ _ _ _ _ h)) (fun h => j_iload_n 1 dX11_sures_102 rfl (j_if_eq (tgt := 155) dX11_sures_103 (by decide) h (fun h => j_sub [0, 1, 2, 3, 4] rfl (JX11_sures_155 hc18 _ _ _ _ _ _ h)) (fun h => j_iload 4 dX11_sures_106 rfl (j_if_eq (tgt := 146) dX11_sures_108 (by decide) h (fun h => j_sub [0, 1, 2, 3, 5] rfl (JX11_sures_146 hc18 ih _ _ _ _ _ _ h)) (fun h => j_aload_n 0 dX11_sures_111 rfl (j_aload_n 0 dX11_sures_112 rfl (j_iload 5 dX11_sures_113 rfl (j_iconst dX11_sures_115 (j_callV (rest := [vA x0]) 11 [vI x6, vI 0] k_RX11_215 ⟨w_8_26, p_5_2⟩ ⟨_, _, rfl⟩ (by decide) rfl rfl (Nat.le_of_ble_eq_true rfl) dX11_sures_116 h (kI (fun r2 S2 h => j_iconst dX11_sures_119 (j_callV (rest := []) 11 [vI r2, vI 0] k_RX11_94 ⟨w_7_239, p_4_14⟩ ⟨_, _, rfl⟩ (by decide) rfl rfl (Nat.le_of_ble_eq_true rfl) dX11_sures_120 h (kI (fun r3 S3 h => j_if_ne (tgt := 142) dX11_sures_123 (by decide) h (fun h => j_sub [0, 1, 2, 3, 5] rfl (JX11_sures_142 hc18 ih _ _ _ _ _ _ h)) (fun h => j_aload_n 0 dX11_sures_126 rfl (j_iload 5 dX11_sures_127 rfl (j_iconst dX11_sures_129 (j_callV (rest := []) 11 [vI x6, vI 1] k_RX11_215 ⟨w_8_26, p_5_2⟩ ⟨_, _, rfl⟩ (by decide) rfl rfl (Nat.le_of_ble_eq_true rfl) dX11_sures_130 h (kI (fun r4 S4 h => j_aload_n 0 dX11_sures_133 rfl (j_getR 11 22 f_RX11_58 dX11_sures_134 h (fun b5 h => j_iload_n 3 dX11_sures_137 rfl (j_iald dX11_sures_138 h (fun h => j_icmp_eq (tgt := 146) dX11_sures_139 (by decide) h (fun h => j_sub [0, 1, 2, 3, 5] rfl (JX11_sures_146 hc18 ih _ _ _ _ _ _ h)) (fun h => j_sub [0, 1, 2, 3, 5] rfl (JX11_sures_142 hc18 ih _ _ _ _ _ _ h)))))))) (fun _ _ h => h.elim))))))) (fun _ _ h => h.elim)))) (fun _ _ h => h.elim)))))))))))) (fun _ _ h => h.elim)))
def VX11_sures_88 (d : Nat) (c18 : Nat → Int → Int → Int → MS → Prop) (Q : Out → MS → Prop) (x0 : Nat) (x1 : Int) (x2 : Int) (x3 : Int) (t0 : Int) (S : MS) : Prop :=
  ∃ m, VX11_sures_93 d c18 Q m x0 x1 x2 x3 t0 0 S
theorem JX11_sures_88 {d : Nat} {c18 : Nat → Int → Int → Int → MS → Prop} {S0 : MS} {Q : Out → MS → Prop} (hc18 : ∀ (x0 : Nat) (x1 : Int) (x2 : Int) (x3 : Int) (S : MS), c18 x0 x1 x2 x3 S → Jw FinM RX11 cX11_sures 7 (some .int) [] yX11_sures (d + 1) S0 S 18 [(0, vA x0), (1, vI x1), (2, vI x2), (3, vI x3)] [] Q) (x0 : Nat) (x1 : Int) (x2 : Int) (x3 : Int) (t0 : Int) (S : MS) (h : VX11_sures_88 d c18 Q x0 x1 x2 x3 t0 S) : Jw FinM RX11 cX11_sures 7 (some .int) [] yX11_sures (d + 1) S0 S 88 [(0, vA x0), (1, vI x1), (2, vI x2), (3, vI x3)] [vI t0] Q :=
  j_istore (lv2 := [(5, vI t0), (0, vA x0), (1, vI x1), (2, vI x2), (3, vI x3)]) dX11_sures_88 (by decide) rfl (j_iconst dX11_sures_90 (j_istore (lv2 := [(6, vI 0), (5, vI t0), (0, vA x0), (1, vI x1), (2, vI x2), (3, vI x3)]) dX11_sures_91 (by decide) rfl (Exists.elim h (fun m h => j_sub [2, 3, 4, 5, 1, 0] rfl (JX11_sures_93 hc18 m _ _ _ _ _ _ _ h)))))
def VX11_sures_32 (d : Nat) (c18 : Nat → Int → Int → Int → MS → Prop) (Q : Out → MS → Prop) : Nat → Nat → Int → Int → Int → Int → Int → MS → Prop
  | 0, _, _, _, _, _, _, _ => False
  | n + 1, x0, x1, x2, x3, x4, x5, S => S.K x0 = 11 ∧ ∃ b1, S.R x0 17 = some b1 ∧ ((S.K b1 = 13 ∧ 0 ≤ (0 : Int) ∧ (0 : Int) < S.N b1) ∧ ((R32 x5 ∧ R32 (S.I b1 ((0 : Int)).toNat)) ∧ (((S.I b1 ((0 : Int)).toNat) ≤ x5) → Mw hJ6_bitCount_0f7a4 yJ6_bitCount_0f7a4 d [vI x4] S (oI (fun r2 S2 => (R32 r2 ∧ R32 (1 : Int)) ∧ (¬ (r2 = (1 : Int)) → VX11_sures_88 d c18 Q x0 x1 x2 x3 0 S2) ∧ ((r2 = (1 : Int)) → VX11_sures_88 d c18 Q x0 x1 x2 x3 1 S2)))) ∧ (¬ ((S.I b1 ((0 : Int)).toNat) ≤ x5) → S.K x0 = 11 ∧ ∃ b3, S.R x0 22 = some b3 ∧ ((S.K b3 = 13 ∧ 0 ≤ x3 ∧ x3 < S.N b3) ∧ (S.K x0 = 11 ∧ Mw hX11_rowAt yX11_rowAt d [vA x0, vI 0, vI x5] S (oI (fun r4 S4 => S4.K x0 = 11 ∧ Mw hX11_riser yX11_riser d [vA x0, vI 0, vI (S.I b3 (x3).toNat), vI r4] S4 (oI (fun r5 S5 => (VX11_sures_32 d c18 Q n) x0 x1 x2 x3 (iOr x4 (iShl 1 r5)) (x5 + 1) S5)))))))))
theorem JX11_sures_32 {d : Nat} {c18 : Nat → Int → Int → Int → MS → Prop} {S0 : MS} {Q : Out → MS → Prop} (hc18 : ∀ (x0 : Nat) (x1 : Int) (x2 : Int) (x3 : Int) (S : MS), c18 x0 x1 x2 x3 S → Jw FinM RX11 cX11_sures 7 (some .int) [] yX11_sures (d + 1) S0 S 18 [(0, vA x0), (1, vI x1), (2, vI x2), (3, vI x3)] [] Q) : ∀ (n : Nat) (x0 : Nat) (x1 : Int) (x2 : Int) (x3 : Int) (x4 : Int) (x5 : Int) (S : MS), VX11_sures_32 d c18 Q n x0 x1 x2 x3 x4 x5 S → Jw FinM RX11 cX11_sures 7 (some .int) [] yX11_sures (d + 1) S0 S 32 [(0, vA x0), (1, vI x1), (2, vI x2), (3, vI x3), (4, vI x4), (5, vI x5)] [] Q := by
  intro n
  induction n with
  | zero => intro x0 x1 x2 x3 x4 x5 S h; exact h.elim
  | succ n ih =>
    intro x0 x1 x2 x3 x4 x5 S h
    exact j_iload 5 dX11_sures_32 rfl (j_aload_n 0 dX11_sures_34 rfl (j_getR 11 17 f_RX11_45 dX11_sures_35 h (fun b1 h => j_iconst dX11_sures_38 (j_iald dX11_sures_39 h (fun h => j_icmp_ge (tgt := 74) dX11_sures_40 (by decide) h (fun h => j_iload 4 dX11_sures_74 rfl (j_callS (rest := []) [vI x4] k_RX11_102 w_2_86 rfl rfl (Nat.le_of_ble_eq_true rfl) dX11_sures_76 h (kI (fun r2 S2 h => j_iconst dX11_sures_79 (j_icmp_ne (tgt := 87) dX11_sures_80 (by decide) h (fun h => j_iconst dX11_sures_87 (j_sub [0, 1, 2, 3] rfl (JX11_sures_88 hc18 _ _ _ _ _ _ h))) (fun h => j_iconst dX11_sures_83 (j_goto (tgt := 88) dX11_sures_84 (by decide) (j_sub [0, 1, 2, 3] rfl (JX11_sures_88 hc18 _ _ _ _ _ _ h))))))) (fun _ _ h => h.elim))) (fun h => j_iload 4 dX11_sures_43 rfl (j_iconst dX11_sures_45 (j_aload_n 0 dX11_sures_46 rfl (j_iconst dX11_sures_47 (j_aload_n 0 dX11_sures_48 rfl (j_getR 11 22 f_RX11_58 dX11_sures_49 h (fun b3 h => j_iload_n 3 dX11_sures_52 rfl (j_iald dX11_sures_53 h (fun h => j_aload_n 0 dX11_sures_54 rfl (j_iconst dX11_sures_55 (j_iload 5 dX11_sures_56 rfl (j_callV (rest := [vI (S.I b3 (x3).toNat), vI 0, vA x0, vI 1, vI x4]) 11 [vI 0, vI x5] k_RX11_247 ⟨w_8_74, p_5_11⟩ ⟨_, _, rfl⟩ (by decide) rfl rfl (Nat.le_of_ble_eq_true rfl) dX11_sures_58 h (kI (fun r4 S4 h => j_callV (rest := [vI 1, vI x4]) 11 [vI 0, vI (S.I b3 (x3).toNat), vI r4] k_RX11_234 ⟨w_8_62, p_5_9⟩ ⟨_, _, rfl⟩ (by decide) rfl rfl (Nat.le_of_ble_eq_true rfl) dX11_sures_61 h (kI (fun r5 S5 h => j_ishl dX11_sures_64 (j_ior dX11_sures_65 (j_istore (lv2 := [(4, vI (iOr x4 (iShl 1 r5))), (0, vA x0), (1, vI x1), (2, vI x2), (3, vI x3), (5, vI x5)]) dX11_sures_66 (by decide) rfl (j_iinc 5 (lv2 := [(5, vI (x5 + 1)), (4, vI (iOr x4 (iShl 1 r5))), (0, vA x0), (1, vI x1), (2, vI x2), (3, vI x3)]) dX11_sures_68 rfl (by decide) rfl (j_goto (tgt := 32) dX11_sures_71 (by decide) (j_sub [2, 3, 4, 5, 1, 0] rfl (ih _ _ _ _ _ _ _ h)))))))) (fun _ _ h => h.elim))) (fun _ _ h => h.elim))))))))))))))))))
def VX11_sures_18 (d : Nat) (Q : Out → MS → Prop) : Nat → Nat → Int → Int → Int → MS → Prop
  | 0, _, _, _, _, _ => False
  | n + 1, x0, x1, x2, x3, S => S.K x0 = 11 ∧ ((R32 x3 ∧ R32 (S.I x0 23)) ∧ (((S.I x0 23) ≤ x3) → Q (.inl (some (vI x2))) S) ∧ (¬ ((S.I x0 23) ≤ x3) → ∃ m, VX11_sures_32 d (VX11_sures_18 d Q n) Q m x0 x1 x2 x3 0 0 S))
theorem JX11_sures_18 {d : Nat} {S0 : MS} {Q : Out → MS → Prop} : ∀ (n : Nat) (x0 : Nat) (x1 : Int) (x2 : Int) (x3 : Int) (S : MS), VX11_sures_18 d Q n x0 x1 x2 x3 S → Jw FinM RX11 cX11_sures 7 (some .int) [] yX11_sures (d + 1) S0 S 18 [(0, vA x0), (1, vI x1), (2, vI x2), (3, vI x3)] [] Q := by
  intro n
  induction n with
  | zero => intro x0 x1 x2 x3 S h; exact h.elim
  | succ n ih =>
    intro x0 x1 x2 x3 S h
    exact j_iload_n 3 dX11_sures_18 rfl (j_aload_n 0 dX11_sures_19 rfl (j_getI 11 23 f_RX11_277 dX11_sures_20 h (fun h => j_icmp_ge (tgt := 174) dX11_sures_23 (by decide) h (fun h => j_iload_n 2 dX11_sures_174 rfl (j_iret rfl dX11_sures_175 h)) (fun h => j_iconst dX11_sures_26 (j_istore (lv2 := [(4, vI 0), (0, vA x0), (1, vI x1), (2, vI x2), (3, vI x3)]) dX11_sures_27 (by decide) rfl (j_iconst dX11_sures_29 (j_istore (lv2 := [(5, vI 0), (4, vI 0), (0, vA x0), (1, vI x1), (2, vI x2), (3, vI x3)]) dX11_sures_30 (by decide) rfl (Exists.elim h (fun m h => j_sub [2, 3, 4, 5, 1, 0] rfl (JX11_sures_32 ih m _ _ _ _ _ _ _ h))))))))))
def VX11_sures_0 (d : Nat) (Q : Out → MS → Prop) (x0 : Nat) (x1 : Int) (S : MS) : Prop :=
  S.K x0 = 11 ∧ ((S.setI x0 0 0).K x0 = 11 ∧ Mw hX11_leaves yX11_leaves d [vA x0] (S.setI x0 0 0) (oV (fun S1 => S1.K x0 = 11 ∧ Mw hX11_listsSets yX11_listsSets d [vA x0, vI 3] S1 (oV (fun S2 => ∃ m, VX11_sures_18 d Q m x0 x1 0 0 S2)))))
theorem JX11_sures_0 {d : Nat} {S0 : MS} {Q : Out → MS → Prop} (x0 : Nat) (x1 : Int) (S : MS) (h : VX11_sures_0 d Q x0 x1 S) : Jw FinM RX11 cX11_sures 7 (some .int) [] yX11_sures (d + 1) S0 S 0 [(0, vA x0), (1, vI x1)] [] Q :=
  j_aload_n 0 dX11_sures_0 rfl (j_iconst dX11_sures_1 (j_putI 11 0 f_RX11_3 dX11_sures_2 h (fun h => j_aload_n 0 dX11_sures_5 rfl (j_callV (rest := []) 11 [] k_RX11_253 ⟨w_8_42, p_5_4⟩ ⟨_, _, rfl⟩ (by decide) rfl rfl (Nat.le_of_ble_eq_true rfl) dX11_sures_6 h (kV (fun S1 h => j_aload_n 0 dX11_sures_9 rfl (j_iconst dX11_sures_10 (j_callV (rest := []) 11 [vI 3] k_RX11_274 ⟨w_8_130, p_6_2⟩ ⟨_, _, rfl⟩ (by decide) rfl rfl (Nat.le_of_ble_eq_true rfl) dX11_sures_11 h (kV (fun S2 h => j_iconst dX11_sures_14 (j_istore_n (lv2 := [(2, vI 0), (0, vA x0), (1, vI x1)]) dX11_sures_15 (by decide) rfl (j_iconst dX11_sures_16 (j_istore_n (lv2 := [(3, vI 0), (2, vI 0), (0, vA x0), (1, vI x1)]) dX11_sures_17 (by decide) rfl (Exists.elim h (fun m h => j_sub [2, 3, 1, 0] rfl (JX11_sures_18 m _ _ _ _ _ h)))))))) (fun _ _ h => h.elim))))) (fun _ _ h => h.elim)))))
theorem MX11_sures {d : Nat} {x0 : Nat} {x1 : Int} {S : MS} {Q : Out → MS → Prop} (h : VX11_sures_0 d Q x0 x1 S) : Mw hX11_sures yX11_sures (d + 1) [vA x0, vI x1] S Q := Mw.ofJ (by decide) (Nat.le_of_ble_eq_true rfl) (JX11_sures_0 _ _ S h)
theorem dX11_gooseNow_0 : decode cX11_gooseNow 0 = .ok (.aload_n 0, 1) := by decide +kernel
theorem dX11_gooseNow_1 : decode cX11_gooseNow 1 = .ok (.getfield 45, 3) := by decide +kernel
theorem dX11_gooseNow_4 : decode cX11_gooseNow 4 = .ok (.iconst 0, 1) := by decide +kernel
theorem dX11_gooseNow_5 : decode cX11_gooseNow 5 = .ok (.iaload, 1) := by decide +kernel
theorem dX11_gooseNow_6 : decode cX11_gooseNow 6 = .ok (.ifCond .ne 7, 3) := by decide +kernel
theorem dX11_gooseNow_9 : decode cX11_gooseNow 9 = .ok (.iconst 0, 1) := by decide +kernel
theorem dX11_gooseNow_10 : decode cX11_gooseNow 10 = .ok (.goto 11, 3) := by decide +kernel
theorem dX11_gooseNow_13 : decode cX11_gooseNow 13 = .ok (.iconst 1, 1) := by decide +kernel
theorem dX11_gooseNow_14 : decode cX11_gooseNow 14 = .ok (.aload_n 0, 1) := by decide +kernel
theorem dX11_gooseNow_15 : decode cX11_gooseNow 15 = .ok (.invokevirtual 83, 3) := by decide +kernel
theorem dX11_gooseNow_18 : decode cX11_gooseNow 18 = .ok (.ishl, 1) := by decide +kernel
theorem dX11_gooseNow_19 : decode cX11_gooseNow 19 = .ok (.iconst 1, 1) := by decide +kernel
theorem dX11_gooseNow_20 : decode cX11_gooseNow 20 = .ok (.isub, 1) := by decide +kernel
theorem dX11_gooseNow_21 : decode cX11_gooseNow 21 = .ok (.istore_n 1, 1) := by decide +kernel
theorem dX11_gooseNow_22 : decode cX11_gooseNow 22 = .ok (.iconst 0, 1) := by decide +kernel
theorem dX11_gooseNow_23 : decode cX11_gooseNow 23 = .ok (.istore_n 2, 1) := by decide +kernel
theorem dX11_gooseNow_24 : decode cX11_gooseNow 24 = .ok (.iload_n 2, 1) := by decide +kernel
theorem dX11_gooseNow_25 : decode cX11_gooseNow 25 = .ok (.aload_n 0, 1) := by decide +kernel
theorem dX11_gooseNow_26 : decode cX11_gooseNow 26 = .ok (.getfield 45, 3) := by decide +kernel
theorem dX11_gooseNow_29 : decode cX11_gooseNow 29 = .ok (.iconst 0, 1) := by decide +kernel
theorem dX11_gooseNow_30 : decode cX11_gooseNow 30 = .ok (.iaload, 1) := by decide +kernel
theorem dX11_gooseNow_31 : decode cX11_gooseNow 31 = .ok (.if_icmp .ge 22, 3) := by decide +kernel
theorem dX11_gooseNow_34 : decode cX11_gooseNow 34 = .ok (.iload_n 1, 1) := by decide +kernel
theorem dX11_gooseNow_35 : decode cX11_gooseNow 35 = .ok (.aload_n 0, 1) := by decide +kernel
theorem dX11_gooseNow_36 : decode cX11_gooseNow 36 = .ok (.aload_n 0, 1) := by decide +kernel
theorem dX11_gooseNow_37 : decode cX11_gooseNow 37 = .ok (.iconst 0, 1) := by decide +kernel
theorem dX11_gooseNow_38 : decode cX11_gooseNow 38 = .ok (.iload_n 2, 1) := by decide +kernel
theorem dX11_gooseNow_39 : decode cX11_gooseNow 39 = .ok (.invokevirtual 247, 3) := by decide +kernel
theorem dX11_gooseNow_42 : decode cX11_gooseNow 42 = .ok (.invokevirtual 268, 3) := by decide +kernel
theorem dX11_gooseNow_45 : decode cX11_gooseNow 45 = .ok (.iand, 1) := by decide +kernel
theorem dX11_gooseNow_46 : decode cX11_gooseNow 46 = .ok (.istore_n 1, 1) := by decide +kernel
theorem dX11_gooseNow_47 : decode cX11_gooseNow 47 = .ok (.iinc 2 1, 3) := by decide +kernel
theorem dX11_gooseNow_50 : decode cX11_gooseNow 50 = .ok (.goto (-26), 3) := by decide +kernel
theorem dX11_gooseNow_53 : decode cX11_gooseNow 53 = .ok (.iload_n 1, 1) := by decide +kernel
theorem dX11_gooseNow_54 : decode cX11_gooseNow 54 = .ok (.ireturn, 1) := by decide +kernel
def VX11_gooseNow_24 (d : Nat) (Q : Out → MS → Prop) : Nat → Nat → Int → Int → MS → Prop
  | 0, _, _, _, _ => False
  | n + 1, x0, x1, x2, S => S.K x0 = 11 ∧ ∃ b1, S.R x0 17 = some b1 ∧ ((S.K b1 = 13 ∧ 0 ≤ (0 : Int) ∧ (0 : Int) < S.N b1) ∧ ((R32 x2 ∧ R32 (S.I b1 ((0 : Int)).toNat)) ∧ (((S.I b1 ((0 : Int)).toNat) ≤ x2) → Q (.inl (some (vI x1))) S) ∧ (¬ ((S.I b1 ((0 : Int)).toNat) ≤ x2) → S.K x0 = 11 ∧ Mw hX11_rowAt yX11_rowAt d [vA x0, vI 0, vI x2] S (oI (fun r2 S2 => S2.K x0 = 11 ∧ Mw hX11_endsOf yX11_endsOf d [vA x0, vI r2] S2 (oI (fun r3 S3 => (VX11_gooseNow_24 d Q n) x0 (iAnd x1 r3) (x2 + 1) S3)))))))
theorem JX11_gooseNow_24 {d : Nat} {S0 : MS} {Q : Out → MS → Prop} : ∀ (n : Nat) (x0 : Nat) (x1 : Int) (x2 : Int) (S : MS), VX11_gooseNow_24 d Q n x0 x1 x2 S → Jw FinM RX11 cX11_gooseNow 3 (some .int) [] yX11_gooseNow (d + 1) S0 S 24 [(0, vA x0), (1, vI x1), (2, vI x2)] [] Q := by
  intro n
  induction n with
  | zero => intro x0 x1 x2 S h; exact h.elim
  | succ n ih =>
    intro x0 x1 x2 S h
    exact j_iload_n 2 dX11_gooseNow_24 rfl (j_aload_n 0 dX11_gooseNow_25 rfl (j_getR 11 17 f_RX11_45 dX11_gooseNow_26 h (fun b1 h => j_iconst dX11_gooseNow_29 (j_iald dX11_gooseNow_30 h (fun h => j_icmp_ge (tgt := 53) dX11_gooseNow_31 (by decide) h (fun h => j_iload_n 1 dX11_gooseNow_53 rfl (j_iret rfl dX11_gooseNow_54 h)) (fun h => j_iload_n 1 dX11_gooseNow_34 rfl (j_aload_n 0 dX11_gooseNow_35 rfl (j_aload_n 0 dX11_gooseNow_36 rfl (j_iconst dX11_gooseNow_37 (j_iload_n 2 dX11_gooseNow_38 rfl (j_callV (rest := [vA x0, vI x1]) 11 [vI 0, vI x2] k_RX11_247 ⟨w_8_74, p_5_11⟩ ⟨_, _, rfl⟩ (by decide) rfl rfl (Nat.le_of_ble_eq_true rfl) dX11_gooseNow_39 h (kI (fun r2 S2 h => j_callV (rest := [vI x1]) 11 [vI r2] k_RX11_268 ⟨w_8_118, p_6_1⟩ ⟨_, _, rfl⟩ (by decide) rfl rfl (Nat.le_of_ble_eq_true rfl) dX11_gooseNow_42 h (kI (fun r3 S3 h => j_iand dX11_gooseNow_45 (j_istore_n (lv2 := [(1, vI (iAnd x1 r3)), (0, vA x0), (2, vI x2)]) dX11_gooseNow_46 (by decide) rfl (j_iinc 2 (lv2 := [(2, vI (x2 + 1)), (1, vI (iAnd x1 r3)), (0, vA x0)]) dX11_gooseNow_47 rfl (by decide) rfl (j_goto (tgt := 24) dX11_gooseNow_50 (by decide) (j_sub [2, 1, 0] rfl (ih _ _ _ _ h))))))) (fun _ _ h => h.elim))) (fun _ _ h => h.elim))))))))))))
def VX11_gooseNow_21 (d : Nat) (Q : Out → MS → Prop) (x0 : Nat) (t0 : Int) (S : MS) : Prop :=
  ∃ m, VX11_gooseNow_24 d Q m x0 t0 0 S
theorem JX11_gooseNow_21 {d : Nat} {S0 : MS} {Q : Out → MS → Prop} (x0 : Nat) (t0 : Int) (S : MS) (h : VX11_gooseNow_21 d Q x0 t0 S) : Jw FinM RX11 cX11_gooseNow 3 (some .int) [] yX11_gooseNow (d + 1) S0 S 21 [(0, vA x0)] [vI t0] Q :=
  j_istore_n (lv2 := [(1, vI t0), (0, vA x0)]) dX11_gooseNow_21 (by decide) rfl (j_iconst dX11_gooseNow_22 (j_istore_n (lv2 := [(2, vI 0), (1, vI t0), (0, vA x0)]) dX11_gooseNow_23 (by decide) rfl (Exists.elim h (fun m h => j_sub [2, 1, 0] rfl (JX11_gooseNow_24 m _ _ _ _ h)))))
def VX11_gooseNow_0 (d : Nat) (Q : Out → MS → Prop) (x0 : Nat) (S : MS) : Prop :=
  S.K x0 = 11 ∧ ∃ b1, S.R x0 17 = some b1 ∧ ((S.K b1 = 13 ∧ 0 ≤ (0 : Int) ∧ (0 : Int) < S.N b1) ∧ (R32 (S.I b1 ((0 : Int)).toNat) ∧ (¬ ((S.I b1 ((0 : Int)).toNat) = 0) → S.K x0 = 11 ∧ Mw hX11_things yX11_things d [vA x0] S (oI (fun r2 S2 => VX11_gooseNow_21 d Q x0 ((iShl 1 r2) - 1) S2))) ∧ (((S.I b1 ((0 : Int)).toNat) = 0) → VX11_gooseNow_21 d Q x0 0 S)))
theorem JX11_gooseNow_0 {d : Nat} {S0 : MS} {Q : Out → MS → Prop} (x0 : Nat) (S : MS) (h : VX11_gooseNow_0 d Q x0 S) : Jw FinM RX11 cX11_gooseNow 3 (some .int) [] yX11_gooseNow (d + 1) S0 S 0 [(0, vA x0)] [] Q :=
  j_aload_n 0 dX11_gooseNow_0 rfl (j_getR 11 17 f_RX11_45 dX11_gooseNow_1 h (fun b1 h => j_iconst dX11_gooseNow_4 (j_iald dX11_gooseNow_5 h (fun h => j_if_ne (tgt := 13) dX11_gooseNow_6 (by decide) h (fun h => j_iconst dX11_gooseNow_13 (j_aload_n 0 dX11_gooseNow_14 rfl (j_callV (rest := [vI 1]) 11 [] k_RX11_83 ⟨w_7_218, p_4_10⟩ ⟨_, _, rfl⟩ (by decide) rfl rfl (Nat.le_of_ble_eq_true rfl) dX11_gooseNow_15 h (kI (fun r2 S2 h => j_ishl dX11_gooseNow_18 (j_iconst dX11_gooseNow_19 (j_isub dX11_gooseNow_20 (JX11_gooseNow_21 _ _ _ h))))) (fun _ _ h => h.elim)))) (fun h => j_iconst dX11_gooseNow_9 (j_goto (tgt := 21) dX11_gooseNow_10 (by decide) (JX11_gooseNow_21 _ _ _ h)))))))
theorem MX11_gooseNow {d : Nat} {x0 : Nat} {S : MS} {Q : Out → MS → Prop} (h : VX11_gooseNow_0 d Q x0 S) : Mw hX11_gooseNow yX11_gooseNow (d + 1) [vA x0] S Q := Mw.ofJ (by decide) (Nat.le_of_ble_eq_true rfl) (JX11_gooseNow_0 _ S h)
theorem dX11_goose_0 : decode cX11_goose 0 = .ok (.aload_n 0, 1) := by decide +kernel
theorem dX11_goose_1 : decode cX11_goose 1 = .ok (.iconst 0, 1) := by decide +kernel
theorem dX11_goose_2 : decode cX11_goose 2 = .ok (.putfield 3, 3) := by decide +kernel
theorem dX11_goose_5 : decode cX11_goose 5 = .ok (.aload_n 0, 1) := by decide +kernel
theorem dX11_goose_6 : decode cX11_goose 6 = .ok (.invokevirtual 253, 3) := by decide +kernel
theorem dX11_goose_9 : decode cX11_goose 9 = .ok (.aload_n 0, 1) := by decide +kernel
theorem dX11_goose_10 : decode cX11_goose 10 = .ok (.invokevirtual 280, 3) := by decide +kernel
theorem dX11_goose_13 : decode cX11_goose 13 = .ok (.ireturn, 1) := by decide +kernel
def VX11_goose_0 (d : Nat) (Q : Out → MS → Prop) (x0 : Nat) (S : MS) : Prop :=
  S.K x0 = 11 ∧ ((S.setI x0 0 0).K x0 = 11 ∧ Mw hX11_leaves yX11_leaves d [vA x0] (S.setI x0 0 0) (oV (fun S1 => S1.K x0 = 11 ∧ Mw hX11_gooseNow yX11_gooseNow d [vA x0] S1 (oI (fun r2 S2 => Q (.inl (some (vI r2))) S2)))))
theorem JX11_goose_0 {d : Nat} {S0 : MS} {Q : Out → MS → Prop} (x0 : Nat) (S : MS) (h : VX11_goose_0 d Q x0 S) : Jw FinM RX11 cX11_goose 1 (some .int) [] yX11_goose (d + 1) S0 S 0 [(0, vA x0)] [] Q :=
  j_aload_n 0 dX11_goose_0 rfl (j_iconst dX11_goose_1 (j_putI 11 0 f_RX11_3 dX11_goose_2 h (fun h => j_aload_n 0 dX11_goose_5 rfl (j_callV (rest := []) 11 [] k_RX11_253 ⟨w_8_42, p_5_4⟩ ⟨_, _, rfl⟩ (by decide) rfl rfl (Nat.le_of_ble_eq_true rfl) dX11_goose_6 h (kV (fun S1 h => j_aload_n 0 dX11_goose_9 rfl (j_callV (rest := []) 11 [] k_RX11_280 ⟨w_8_146, p_6_5⟩ ⟨_, _, rfl⟩ (by decide) rfl rfl (Nat.le_of_ble_eq_true rfl) dX11_goose_10 h (kI (fun r2 S2 h => j_iret rfl dX11_goose_13 h)) (fun _ _ h => h.elim)))) (fun _ _ h => h.elim)))))
theorem MX11_goose {d : Nat} {x0 : Nat} {S : MS} {Q : Out → MS → Prop} (h : VX11_goose_0 d Q x0 S) : Mw hX11_goose yX11_goose (d + 1) [vA x0] S Q := Mw.ofJ (by decide) (Nat.le_of_ble_eq_true rfl) (JX11_goose_0 _ S h)
theorem dX11_centreNow_0 : decode cX11_centreNow 0 = .ok (.iconst 0, 1) := by decide +kernel
theorem dX11_centreNow_1 : decode cX11_centreNow 1 = .ok (.istore_n 1, 1) := by decide +kernel
theorem dX11_centreNow_2 : decode cX11_centreNow 2 = .ok (.iconst 0, 1) := by decide +kernel
theorem dX11_centreNow_3 : decode cX11_centreNow 3 = .ok (.istore_n 2, 1) := by decide +kernel
theorem dX11_centreNow_4 : decode cX11_centreNow 4 = .ok (.iload_n 2, 1) := by decide +kernel
theorem dX11_centreNow_5 : decode cX11_centreNow 5 = .ok (.aload_n 0, 1) := by decide +kernel
theorem dX11_centreNow_6 : decode cX11_centreNow 6 = .ok (.getfield 45, 3) := by decide +kernel
theorem dX11_centreNow_9 : decode cX11_centreNow 9 = .ok (.iconst 0, 1) := by decide +kernel
theorem dX11_centreNow_10 : decode cX11_centreNow 10 = .ok (.iaload, 1) := by decide +kernel
theorem dX11_centreNow_11 : decode cX11_centreNow 11 = .ok (.if_icmp .ge 30, 3) := by decide +kernel
theorem dX11_centreNow_14 : decode cX11_centreNow 14 = .ok (.iload_n 1, 1) := by decide +kernel
theorem dX11_centreNow_15 : decode cX11_centreNow 15 = .ok (.iconst 1, 1) := by decide +kernel
theorem dX11_centreNow_16 : decode cX11_centreNow 16 = .ok (.aload_n 0, 1) := by decide +kernel
theorem dX11_centreNow_17 : decode cX11_centreNow 17 = .ok (.aload_n 0, 1) := by decide +kernel
theorem dX11_centreNow_18 : decode cX11_centreNow 18 = .ok (.iconst 0, 1) := by decide +kernel
theorem dX11_centreNow_19 : decode cX11_centreNow 19 = .ok (.iload_n 2, 1) := by decide +kernel
theorem dX11_centreNow_20 : decode cX11_centreNow 20 = .ok (.invokevirtual 247, 3) := by decide +kernel
theorem dX11_centreNow_23 : decode cX11_centreNow 23 = .ok (.aload_n 0, 1) := by decide +kernel
theorem dX11_centreNow_24 : decode cX11_centreNow 24 = .ok (.getfield 222, 3) := by decide +kernel
theorem dX11_centreNow_27 : decode cX11_centreNow 27 = .ok (.iconst 2, 1) := by decide +kernel
theorem dX11_centreNow_28 : decode cX11_centreNow 28 = .ok (.idiv, 1) := by decide +kernel
theorem dX11_centreNow_29 : decode cX11_centreNow 29 = .ok (.invokevirtual 231, 3) := by decide +kernel
theorem dX11_centreNow_32 : decode cX11_centreNow 32 = .ok (.ishl, 1) := by decide +kernel
theorem dX11_centreNow_33 : decode cX11_centreNow 33 = .ok (.ior, 1) := by decide +kernel
theorem dX11_centreNow_34 : decode cX11_centreNow 34 = .ok (.istore_n 1, 1) := by decide +kernel
theorem dX11_centreNow_35 : decode cX11_centreNow 35 = .ok (.iinc 2 1, 3) := by decide +kernel
theorem dX11_centreNow_38 : decode cX11_centreNow 38 = .ok (.goto (-34), 3) := by decide +kernel
theorem dX11_centreNow_41 : decode cX11_centreNow 41 = .ok (.iload_n 1, 1) := by decide +kernel
theorem dX11_centreNow_42 : decode cX11_centreNow 42 = .ok (.ireturn, 1) := by decide +kernel
def VX11_centreNow_4 (d : Nat) (Q : Out → MS → Prop) : Nat → Nat → Int → Int → MS → Prop
  | 0, _, _, _, _ => False
  | n + 1, x0, x1, x2, S => S.K x0 = 11 ∧ ∃ b1, S.R x0 17 = some b1 ∧ ((S.K b1 = 13 ∧ 0 ≤ (0 : Int) ∧ (0 : Int) < S.N b1) ∧ ((R32 x2 ∧ R32 (S.I b1 ((0 : Int)).toNat)) ∧ (((S.I b1 ((0 : Int)).toNat) ≤ x2) → Q (.inl (some (vI x1))) S) ∧ (¬ ((S.I b1 ((0 : Int)).toNat) ≤ x2) → S.K x0 = 11 ∧ Mw hX11_rowAt yX11_rowAt d [vA x0, vI 0, vI x2] S (oI (fun r2 S2 => S2.K x0 = 11 ∧ ((R32 (2 : Int) ∧ (2 : Int) ≠ 0) ∧ (S2.K x0 = 11 ∧ Mw hX11_at yX11_at d [vA x0, vI r2, vI (iDiv (S2.I x0 14) 2)] S2 (oI (fun r3 S3 => (VX11_centreNow_4 d Q n) x0 (iOr x1 (iShl 1 r3)) (x2 + 1) S3)))))))))
theorem JX11_centreNow_4 {d : Nat} {S0 : MS} {Q : Out → MS → Prop} : ∀ (n : Nat) (x0 : Nat) (x1 : Int) (x2 : Int) (S : MS), VX11_centreNow_4 d Q n x0 x1 x2 S → Jw FinM RX11 cX11_centreNow 3 (some .int) [] yX11_centreNow (d + 1) S0 S 4 [(0, vA x0), (1, vI x1), (2, vI x2)] [] Q := by
  intro n
  induction n with
  | zero => intro x0 x1 x2 S h; exact h.elim
  | succ n ih =>
    intro x0 x1 x2 S h
    exact j_iload_n 2 dX11_centreNow_4 rfl (j_aload_n 0 dX11_centreNow_5 rfl (j_getR 11 17 f_RX11_45 dX11_centreNow_6 h (fun b1 h => j_iconst dX11_centreNow_9 (j_iald dX11_centreNow_10 h (fun h => j_icmp_ge (tgt := 41) dX11_centreNow_11 (by decide) h (fun h => j_iload_n 1 dX11_centreNow_41 rfl (j_iret rfl dX11_centreNow_42 h)) (fun h => j_iload_n 1 dX11_centreNow_14 rfl (j_iconst dX11_centreNow_15 (j_aload_n 0 dX11_centreNow_16 rfl (j_aload_n 0 dX11_centreNow_17 rfl (j_iconst dX11_centreNow_18 (j_iload_n 2 dX11_centreNow_19 rfl (j_callV (rest := [vA x0, vI 1, vI x1]) 11 [vI 0, vI x2] k_RX11_247 ⟨w_8_74, p_5_11⟩ ⟨_, _, rfl⟩ (by decide) rfl rfl (Nat.le_of_ble_eq_true rfl) dX11_centreNow_20 h (kI (fun r2 S2 h => j_aload_n 0 dX11_centreNow_23 rfl (j_getI 11 14 f_RX11_222 dX11_centreNow_24 h (fun h => j_iconst dX11_centreNow_27 (j_idiv dX11_centreNow_28 h (fun h => j_callV (rest := [vI 1, vI x1]) 11 [vI r2, vI (iDiv (S2.I x0 14) 2)] k_RX11_231 ⟨w_8_66, p_5_10⟩ ⟨_, _, rfl⟩ (by decide) rfl rfl (Nat.le_of_ble_eq_true rfl) dX11_centreNow_29 h (kI (fun r3 S3 h => j_ishl dX11_centreNow_32 (j_ior dX11_centreNow_33 (j_istore_n (lv2 := [(1, vI (iOr x1 (iShl 1 r3))), (0, vA x0), (2, vI x2)]) dX11_centreNow_34 (by decide) rfl (j_iinc 2 (lv2 := [(2, vI (x2 + 1)), (1, vI (iOr x1 (iShl 1 r3))), (0, vA x0)]) dX11_centreNow_35 rfl (by decide) rfl (j_goto (tgt := 4) dX11_centreNow_38 (by decide) (j_sub [2, 1, 0] rfl (ih _ _ _ _ h)))))))) (fun _ _ h => h.elim))))))) (fun _ _ h => h.elim)))))))))))))
def VX11_centreNow_0 (d : Nat) (Q : Out → MS → Prop) (x0 : Nat) (S : MS) : Prop :=
  ∃ m, VX11_centreNow_4 d Q m x0 0 0 S
theorem JX11_centreNow_0 {d : Nat} {S0 : MS} {Q : Out → MS → Prop} (x0 : Nat) (S : MS) (h : VX11_centreNow_0 d Q x0 S) : Jw FinM RX11 cX11_centreNow 3 (some .int) [] yX11_centreNow (d + 1) S0 S 0 [(0, vA x0)] [] Q :=
  j_iconst dX11_centreNow_0 (j_istore_n (lv2 := [(1, vI 0), (0, vA x0)]) dX11_centreNow_1 (by decide) rfl (j_iconst dX11_centreNow_2 (j_istore_n (lv2 := [(2, vI 0), (1, vI 0), (0, vA x0)]) dX11_centreNow_3 (by decide) rfl (Exists.elim h (fun m h => j_sub [2, 1, 0] rfl (JX11_centreNow_4 m _ _ _ _ h))))))
theorem MX11_centreNow {d : Nat} {x0 : Nat} {S : MS} {Q : Out → MS → Prop} (h : VX11_centreNow_0 d Q x0 S) : Mw hX11_centreNow yX11_centreNow (d + 1) [vA x0] S Q := Mw.ofJ (by decide) (Nat.le_of_ble_eq_true rfl) (JX11_centreNow_0 _ S h)
theorem dX11_centre_0 : decode cX11_centre 0 = .ok (.aload_n 0, 1) := by decide +kernel
theorem dX11_centre_1 : decode cX11_centre 1 = .ok (.iconst 0, 1) := by decide +kernel
theorem dX11_centre_2 : decode cX11_centre 2 = .ok (.putfield 3, 3) := by decide +kernel
theorem dX11_centre_5 : decode cX11_centre 5 = .ok (.aload_n 0, 1) := by decide +kernel
theorem dX11_centre_6 : decode cX11_centre 6 = .ok (.invokevirtual 253, 3) := by decide +kernel
theorem dX11_centre_9 : decode cX11_centre 9 = .ok (.aload_n 0, 1) := by decide +kernel
theorem dX11_centre_10 : decode cX11_centre 10 = .ok (.invokevirtual 283, 3) := by decide +kernel
theorem dX11_centre_13 : decode cX11_centre 13 = .ok (.ireturn, 1) := by decide +kernel
def VX11_centre_0 (d : Nat) (Q : Out → MS → Prop) (x0 : Nat) (S : MS) : Prop :=
  S.K x0 = 11 ∧ ((S.setI x0 0 0).K x0 = 11 ∧ Mw hX11_leaves yX11_leaves d [vA x0] (S.setI x0 0 0) (oV (fun S1 => S1.K x0 = 11 ∧ Mw hX11_centreNow yX11_centreNow d [vA x0] S1 (oI (fun r2 S2 => Q (.inl (some (vI r2))) S2)))))
theorem JX11_centre_0 {d : Nat} {S0 : MS} {Q : Out → MS → Prop} (x0 : Nat) (S : MS) (h : VX11_centre_0 d Q x0 S) : Jw FinM RX11 cX11_centre 1 (some .int) [] yX11_centre (d + 1) S0 S 0 [(0, vA x0)] [] Q :=
  j_aload_n 0 dX11_centre_0 rfl (j_iconst dX11_centre_1 (j_putI 11 0 f_RX11_3 dX11_centre_2 h (fun h => j_aload_n 0 dX11_centre_5 rfl (j_callV (rest := []) 11 [] k_RX11_253 ⟨w_8_42, p_5_4⟩ ⟨_, _, rfl⟩ (by decide) rfl rfl (Nat.le_of_ble_eq_true rfl) dX11_centre_6 h (kV (fun S1 h => j_aload_n 0 dX11_centre_9 rfl (j_callV (rest := []) 11 [] k_RX11_283 ⟨w_8_154, p_6_6⟩ ⟨_, _, rfl⟩ (by decide) rfl rfl (Nat.le_of_ble_eq_true rfl) dX11_centre_10 h (kI (fun r2 S2 h => j_iret rfl dX11_centre_13 h)) (fun _ _ h => h.elim)))) (fun _ _ h => h.elim)))))
theorem MX11_centre {d : Nat} {x0 : Nat} {S : MS} {Q : Out → MS → Prop} (h : VX11_centre_0 d Q x0 S) : Mw hX11_centre yX11_centre (d + 1) [vA x0] S Q := Mw.ofJ (by decide) (Nat.le_of_ble_eq_true rfl) (JX11_centre_0 _ S h)
theorem dX11_known_0 : decode cX11_known 0 = .ok (.aload_n 0, 1) := by decide +kernel
theorem dX11_known_1 : decode cX11_known 1 = .ok (.iconst 0, 1) := by decide +kernel
theorem dX11_known_2 : decode cX11_known 2 = .ok (.putfield 3, 3) := by decide +kernel
theorem dX11_known_5 : decode cX11_known 5 = .ok (.aload_n 0, 1) := by decide +kernel
theorem dX11_known_6 : decode cX11_known 6 = .ok (.invokevirtual 253, 3) := by decide +kernel
theorem dX11_known_9 : decode cX11_known 9 = .ok (.aload_n 0, 1) := by decide +kernel
theorem dX11_known_10 : decode cX11_known 10 = .ok (.iconst 0, 1) := by decide +kernel
theorem dX11_known_11 : decode cX11_known 11 = .ok (.invokevirtual 286, 3) := by decide +kernel
theorem dX11_known_14 : decode cX11_known 14 = .ok (.ireturn, 1) := by decide +kernel
def VX11_known_0 (d : Nat) (Q : Out → MS → Prop) (x0 : Nat) (S : MS) : Prop :=
  S.K x0 = 11 ∧ ((S.setI x0 0 0).K x0 = 11 ∧ Mw hX11_leaves yX11_leaves d [vA x0] (S.setI x0 0 0) (oV (fun S1 => S1.K x0 = 11 ∧ Mw hX11_isKnown yX11_isKnown d [vA x0, vI 0] S1 (oI (fun r2 S2 => B01 r2 ∧ Q (.inl (some (vI r2))) S2)))))
theorem JX11_known_0 {d : Nat} {S0 : MS} {Q : Out → MS → Prop} (x0 : Nat) (S : MS) (h : VX11_known_0 d Q x0 S) : Jw FinM RX11 cX11_known 1 (some .boolean) [] yX11_known (d + 1) S0 S 0 [(0, vA x0)] [] Q :=
  j_aload_n 0 dX11_known_0 rfl (j_iconst dX11_known_1 (j_putI 11 0 f_RX11_3 dX11_known_2 h (fun h => j_aload_n 0 dX11_known_5 rfl (j_callV (rest := []) 11 [] k_RX11_253 ⟨w_8_42, p_5_4⟩ ⟨_, _, rfl⟩ (by decide) rfl rfl (Nat.le_of_ble_eq_true rfl) dX11_known_6 h (kV (fun S1 h => j_aload_n 0 dX11_known_9 rfl (j_iconst dX11_known_10 (j_callV (rest := []) 11 [vI 0] k_RX11_286 ⟨w_8_162, p_6_7⟩ ⟨_, _, rfl⟩ (by decide) rfl rfl (Nat.le_of_ble_eq_true rfl) dX11_known_11 h (kI (fun r2 S2 h => j_zret rfl dX11_known_14 h)) (fun _ _ h => h.elim))))) (fun _ _ h => h.elim)))))
theorem MX11_known {d : Nat} {x0 : Nat} {S : MS} {Q : Out → MS → Prop} (h : VX11_known_0 d Q x0 S) : Mw hX11_known yX11_known (d + 1) [vA x0] S Q := Mw.ofJ (by decide) (Nat.le_of_ble_eq_true rfl) (JX11_known_0 _ S h)
theorem dX11_finds_0 : decode cX11_finds 0 = .ok (.aload_n 0, 1) := by decide +kernel
theorem dX11_finds_1 : decode cX11_finds 1 = .ok (.invokevirtual 241, 3) := by decide +kernel
theorem dX11_finds_4 : decode cX11_finds 4 = .ok (.aload_n 0, 1) := by decide +kernel
theorem dX11_finds_5 : decode cX11_finds 5 = .ok (.iconst 0, 1) := by decide +kernel
theorem dX11_finds_6 : decode cX11_finds 6 = .ok (.putfield 289, 3) := by decide +kernel
theorem dX11_finds_9 : decode cX11_finds 9 = .ok (.iconst 0, 1) := by decide +kernel
theorem dX11_finds_10 : decode cX11_finds 10 = .ok (.istore_n 1, 1) := by decide +kernel
theorem dX11_finds_11 : decode cX11_finds 11 = .ok (.iload_n 1, 1) := by decide +kernel
theorem dX11_finds_12 : decode cX11_finds 12 = .ok (.aload_n 0, 1) := by decide +kernel
theorem dX11_finds_13 : decode cX11_finds 13 = .ok (.getfield 225, 3) := by decide +kernel
theorem dX11_finds_16 : decode cX11_finds 16 = .ok (.if_icmp .ge 114, 3) := by decide +kernel
theorem dX11_finds_19 : decode cX11_finds 19 = .ok (.iconst 0, 1) := by decide +kernel
theorem dX11_finds_20 : decode cX11_finds 20 = .ok (.istore_n 2, 1) := by decide +kernel
theorem dX11_finds_21 : decode cX11_finds 21 = .ok (.iconst 0, 1) := by decide +kernel
theorem dX11_finds_22 : decode cX11_finds 22 = .ok (.istore_n 3, 1) := by decide +kernel
theorem dX11_finds_23 : decode cX11_finds 23 = .ok (.iload_n 3, 1) := by decide +kernel
theorem dX11_finds_24 : decode cX11_finds 24 = .ok (.aload_n 0, 1) := by decide +kernel
theorem dX11_finds_25 : decode cX11_finds 25 = .ok (.invokevirtual 91, 3) := by decide +kernel
theorem dX11_finds_28 : decode cX11_finds 28 = .ok (.if_icmp .ge 28, 3) := by decide +kernel
theorem dX11_finds_31 : decode cX11_finds 31 = .ok (.iload_n 2, 1) := by decide +kernel
theorem dX11_finds_32 : decode cX11_finds 32 = .ok (.aload_n 0, 1) := by decide +kernel
theorem dX11_finds_33 : decode cX11_finds 33 = .ok (.iload_n 1, 1) := by decide +kernel
theorem dX11_finds_34 : decode cX11_finds 34 = .ok (.iload_n 3, 1) := by decide +kernel
theorem dX11_finds_35 : decode cX11_finds 35 = .ok (.invokevirtual 238, 3) := by decide +kernel
theorem dX11_finds_38 : decode cX11_finds 38 = .ok (.ifCond .eq 7, 3) := by decide +kernel
theorem dX11_finds_41 : decode cX11_finds 41 = .ok (.iconst 0, 1) := by decide +kernel
theorem dX11_finds_42 : decode cX11_finds 42 = .ok (.goto 6, 3) := by decide +kernel
theorem dX11_finds_45 : decode cX11_finds 45 = .ok (.iconst 1, 1) := by decide +kernel
theorem dX11_finds_46 : decode cX11_finds 46 = .ok (.iload_n 3, 1) := by decide +kernel
theorem dX11_finds_47 : decode cX11_finds 47 = .ok (.ishl, 1) := by decide +kernel
theorem dX11_finds_48 : decode cX11_finds 48 = .ok (.ior, 1) := by decide +kernel
theorem dX11_finds_49 : decode cX11_finds 49 = .ok (.istore_n 2, 1) := by decide +kernel
theorem dX11_finds_50 : decode cX11_finds 50 = .ok (.iinc 3 1, 3) := by decide +kernel
theorem dX11_finds_53 : decode cX11_finds 53 = .ok (.goto (-30), 3) := by decide +kernel
theorem dX11_finds_56 : decode cX11_finds 56 = .ok (.iconst 0, 1) := by decide +kernel
theorem dX11_finds_57 : decode cX11_finds 57 = .ok (.istore_n 3, 1) := by decide +kernel
theorem dX11_finds_58 : decode cX11_finds 58 = .ok (.iconst 0, 1) := by decide +kernel
theorem dX11_finds_59 : decode cX11_finds 59 = .ok (.istore 4, 2) := by decide +kernel
theorem dX11_finds_61 : decode cX11_finds 61 = .ok (.iload 4, 2) := by decide +kernel
theorem dX11_finds_63 : decode cX11_finds 63 = .ok (.aload_n 0, 1) := by decide +kernel
theorem dX11_finds_64 : decode cX11_finds 64 = .ok (.getfield 289, 3) := by decide +kernel
theorem dX11_finds_67 : decode cX11_finds 67 = .ok (.if_icmp .ge 30, 3) := by decide +kernel
theorem dX11_finds_70 : decode cX11_finds 70 = .ok (.iload_n 3, 1) := by decide +kernel
theorem dX11_finds_71 : decode cX11_finds 71 = .ok (.ifCond .ne 26, 3) := by decide +kernel
theorem dX11_finds_74 : decode cX11_finds 74 = .ok (.aload_n 0, 1) := by decide +kernel
theorem dX11_finds_75 : decode cX11_finds 75 = .ok (.getfield 52, 3) := by decide +kernel
theorem dX11_finds_78 : decode cX11_finds 78 = .ok (.iload 4, 2) := by decide +kernel
theorem dX11_finds_80 : decode cX11_finds 80 = .ok (.iaload, 1) := by decide +kernel
theorem dX11_finds_81 : decode cX11_finds 81 = .ok (.iload_n 2, 1) := by decide +kernel
theorem dX11_finds_82 : decode cX11_finds 82 = .ok (.if_icmp .ne 7, 3) := by decide +kernel
theorem dX11_finds_85 : decode cX11_finds 85 = .ok (.iconst 1, 1) := by decide +kernel
theorem dX11_finds_86 : decode cX11_finds 86 = .ok (.goto 4, 3) := by decide +kernel
theorem dX11_finds_89 : decode cX11_finds 89 = .ok (.iconst 0, 1) := by decide +kernel
theorem dX11_finds_90 : decode cX11_finds 90 = .ok (.istore_n 3, 1) := by decide +kernel
theorem dX11_finds_91 : decode cX11_finds 91 = .ok (.iinc 4 1, 3) := by decide +kernel
theorem dX11_finds_94 : decode cX11_finds 94 = .ok (.goto (-33), 3) := by decide +kernel
theorem dX11_finds_97 : decode cX11_finds 97 = .ok (.iload_n 3, 1) := by decide +kernel
theorem dX11_finds_98 : decode cX11_finds 98 = .ok (.ifCond .eq 6, 3) := by decide +kernel
theorem dX11_finds_101 : decode cX11_finds 101 = .ok (.goto 23, 3) := by decide +kernel
theorem dX11_finds_104 : decode cX11_finds 104 = .ok (.aload_n 0, 1) := by decide +kernel
theorem dX11_finds_105 : decode cX11_finds 105 = .ok (.getfield 52, 3) := by decide +kernel
theorem dX11_finds_108 : decode cX11_finds 108 = .ok (.aload_n 0, 1) := by decide +kernel
theorem dX11_finds_109 : decode cX11_finds 109 = .ok (.getfield 289, 3) := by decide +kernel
theorem dX11_finds_112 : decode cX11_finds 112 = .ok (.iload_n 2, 1) := by decide +kernel
theorem dX11_finds_113 : decode cX11_finds 113 = .ok (.iastore, 1) := by decide +kernel
theorem dX11_finds_114 : decode cX11_finds 114 = .ok (.aload_n 0, 1) := by decide +kernel
theorem dX11_finds_115 : decode cX11_finds 115 = .ok (.dup, 1) := by decide +kernel
theorem dX11_finds_116 : decode cX11_finds 116 = .ok (.getfield 289, 3) := by decide +kernel
theorem dX11_finds_119 : decode cX11_finds 119 = .ok (.iconst 1, 1) := by decide +kernel
theorem dX11_finds_120 : decode cX11_finds 120 = .ok (.iadd, 1) := by decide +kernel
theorem dX11_finds_121 : decode cX11_finds 121 = .ok (.putfield 289, 3) := by decide +kernel
theorem dX11_finds_124 : decode cX11_finds 124 = .ok (.iinc 1 1, 3) := by decide +kernel
theorem dX11_finds_127 : decode cX11_finds 127 = .ok (.goto (-116), 3) := by decide +kernel
theorem dX11_finds_130 : decode cX11_finds 130 = .ok (.return_, 1) := by decide +kernel
def VX11_finds_48 (d : Nat) (c11 : Nat → Int → MS → Prop) (c23 : Nat → Int → Int → Int → MS → Prop) (Q : Out → MS → Prop) (x0 : Nat) (x1 : Int) (x3 : Int) (t0 : Int) (t1 : Int) (S : MS) : Prop :=
  c23 x0 x1 (iOr t1 t0) (x3 + 1) S
theorem JX11_finds_48 {d : Nat} {c11 : Nat → Int → MS → Prop} {c23 : Nat → Int → Int → Int → MS → Prop} {S0 : MS} {Q : Out → MS → Prop} (hc11 : ∀ (x0 : Nat) (x1 : Int) (S : MS), c11 x0 x1 S → Jw FinM RX11 cX11_finds 5 none [] yX11_finds (d + 1) S0 S 11 [(0, vA x0), (1, vI x1)] [] Q) (hc23 : ∀ (x0 : Nat) (x1 : Int) (x2 : Int) (x3 : Int) (S : MS), c23 x0 x1 x2 x3 S → Jw FinM RX11 cX11_finds 5 none [] yX11_finds (d + 1) S0 S 23 [(0, vA x0), (1, vI x1), (2, vI x2), (3, vI x3)] [] Q) (x0 : Nat) (x1 : Int) (x3 : Int) (t0 : Int) (t1 : Int) (S : MS) (h : VX11_finds_48 d c11 c23 Q x0 x1 x3 t0 t1 S) : Jw FinM RX11 cX11_finds 5 none [] yX11_finds (d + 1) S0 S 48 [(0, vA x0), (1, vI x1), (3, vI x3)] [vI t0, vI t1] Q :=
  j_ior dX11_finds_48 (j_istore_n (lv2 := [(2, vI (iOr t1 t0)), (0, vA x0), (1, vI x1), (3, vI x3)]) dX11_finds_49 (by decide) rfl (j_iinc 3 (lv2 := [(3, vI (x3 + 1)), (2, vI (iOr t1 t0)), (0, vA x0), (1, vI x1)]) dX11_finds_50 rfl (by decide) rfl (j_goto (tgt := 23) dX11_finds_53 (by decide) (j_sub [2, 3, 1, 0] rfl (hc23 _ _ _ _ _ h)))))
def VX11_finds_90 (d : Nat) (c11 : Nat → Int → MS → Prop) (c61 : Nat → Int → Int → Int → Int → MS → Prop) (Q : Out → MS → Prop) (x0 : Nat) (x1 : Int) (x2 : Int) (x4 : Int) (t0 : Int) (S : MS) : Prop :=
  c61 x0 x1 x2 t0 (x4 + 1) S
theorem JX11_finds_90 {d : Nat} {c11 : Nat → Int → MS → Prop} {c61 : Nat → Int → Int → Int → Int → MS → Prop} {S0 : MS} {Q : Out → MS → Prop} (hc11 : ∀ (x0 : Nat) (x1 : Int) (S : MS), c11 x0 x1 S → Jw FinM RX11 cX11_finds 5 none [] yX11_finds (d + 1) S0 S 11 [(0, vA x0), (1, vI x1)] [] Q) (hc61 : ∀ (x0 : Nat) (x1 : Int) (x2 : Int) (x3 : Int) (x4 : Int) (S : MS), c61 x0 x1 x2 x3 x4 S → Jw FinM RX11 cX11_finds 5 none [] yX11_finds (d + 1) S0 S 61 [(0, vA x0), (1, vI x1), (2, vI x2), (3, vI x3), (4, vI x4)] [] Q) (x0 : Nat) (x1 : Int) (x2 : Int) (x4 : Int) (t0 : Int) (S : MS) (h : VX11_finds_90 d c11 c61 Q x0 x1 x2 x4 t0 S) : Jw FinM RX11 cX11_finds 5 none [] yX11_finds (d + 1) S0 S 90 [(0, vA x0), (1, vI x1), (2, vI x2), (4, vI x4)] [vI t0] Q :=
  j_istore_n (lv2 := [(3, vI t0), (0, vA x0), (1, vI x1), (2, vI x2), (4, vI x4)]) dX11_finds_90 (by decide) rfl (j_iinc 4 (lv2 := [(4, vI (x4 + 1)), (3, vI t0), (0, vA x0), (1, vI x1), (2, vI x2)]) dX11_finds_91 rfl (by decide) rfl (j_goto (tgt := 61) dX11_finds_94 (by decide) (j_sub [2, 3, 4, 1, 0] rfl (hc61 _ _ _ _ _ _ h))))
def VX11_finds_124 (d : Nat) (c11 : Nat → Int → MS → Prop) (Q : Out → MS → Prop) (x0 : Nat) (x1 : Int) (S : MS) : Prop :=
  c11 x0 (x1 + 1) S
theorem JX11_finds_124 {d : Nat} {c11 : Nat → Int → MS → Prop} {S0 : MS} {Q : Out → MS → Prop} (hc11 : ∀ (x0 : Nat) (x1 : Int) (S : MS), c11 x0 x1 S → Jw FinM RX11 cX11_finds 5 none [] yX11_finds (d + 1) S0 S 11 [(0, vA x0), (1, vI x1)] [] Q) (x0 : Nat) (x1 : Int) (S : MS) (h : VX11_finds_124 d c11 Q x0 x1 S) : Jw FinM RX11 cX11_finds 5 none [] yX11_finds (d + 1) S0 S 124 [(0, vA x0), (1, vI x1)] [] Q :=
  j_iinc 1 (lv2 := [(1, vI (x1 + 1)), (0, vA x0)]) dX11_finds_124 rfl (by decide) rfl (j_goto (tgt := 11) dX11_finds_127 (by decide) (j_sub [1, 0] rfl (hc11 _ _ _ h)))
def VX11_finds_97 (d : Nat) (c11 : Nat → Int → MS → Prop) (Q : Out → MS → Prop) (x0 : Nat) (x1 : Int) (x2 : Int) (x3 : Int) (S : MS) : Prop :=
  R32 x3 ∧ ((x3 = 0) → S.K x0 = 11 ∧ ∃ b1, S.R x0 19 = some b1 ∧ (S.K x0 = 11 ∧ ((S.K b1 = 13 ∧ 0 ≤ (S.I x0 20) ∧ (S.I x0 20) < S.N b1) ∧ ((S.setI b1 ((S.I x0 20)).toNat x2).K x0 = 11 ∧ ((S.setI b1 ((S.I x0 20)).toNat x2).K x0 = 11 ∧ (∀ S2 : MS, S2 = (S.setI b1 ((S.I x0 20)).toNat x2).setI x0 20 (((S.setI b1 ((S.I x0 20)).toNat x2).I x0 20) + 1) → VX11_finds_124 d c11 Q x0 x1 S2)))))) ∧ (¬ (x3 = 0) → VX11_finds_124 d c11 Q x0 x1 S)
theorem JX11_finds_97 {d : Nat} {c11 : Nat → Int → MS → Prop} {S0 : MS} {Q : Out → MS → Prop} (hc11 : ∀ (x0 : Nat) (x1 : Int) (S : MS), c11 x0 x1 S → Jw FinM RX11 cX11_finds 5 none [] yX11_finds (d + 1) S0 S 11 [(0, vA x0), (1, vI x1)] [] Q) (x0 : Nat) (x1 : Int) (x2 : Int) (x3 : Int) (S : MS) (h : VX11_finds_97 d c11 Q x0 x1 x2 x3 S) : Jw FinM RX11 cX11_finds 5 none [] yX11_finds (d + 1) S0 S 97 [(0, vA x0), (1, vI x1), (2, vI x2), (3, vI x3)] [] Q :=
  j_iload_n 3 dX11_finds_97 rfl (j_if_eq (tgt := 104) dX11_finds_98 (by decide) h (fun h => j_aload_n 0 dX11_finds_104 rfl (j_getR 11 19 f_RX11_52 dX11_finds_105 h (fun b1 h => j_aload_n 0 dX11_finds_108 rfl (j_getI 11 20 f_RX11_289 dX11_finds_109 h (fun h => j_iload_n 2 dX11_finds_112 rfl (j_iast dX11_finds_113 h (fun h => j_aload_n 0 dX11_finds_114 rfl (j_dup rfl dX11_finds_115 (j_getI 11 20 f_RX11_289 dX11_finds_116 h (fun h => j_iconst dX11_finds_119 (j_iadd dX11_finds_120 (j_putI 11 20 f_RX11_289 dX11_finds_121 h (fun h => j_bind h (fun S2 h => j_sub [0, 1] rfl (JX11_finds_124 hc11 _ _ _ h))))))))))))))) (fun h => j_goto (tgt := 124) dX11_finds_101 (by decide) (j_sub [0, 1] rfl (JX11_finds_124 hc11 _ _ _ h))))
def VX11_finds_61 (d : Nat) (c11 : Nat → Int → MS → Prop) (Q : Out → MS → Prop) : Nat → Nat → Int → Int → Int → Int → MS → Prop
  | 0, _, _, _, _, _, _ => False
  | n + 1, x0, x1, x2, x3, x4, S => S.K x0 = 11 ∧ ((R32 x4 ∧ R32 (S.I x0 20)) ∧ (((S.I x0 20) ≤ x4) → VX11_finds_97 d c11 Q x0 x1 x2 x3 S) ∧ (¬ ((S.I x0 20) ≤ x4) → R32 x3 ∧ (¬ (x3 = 0) → VX11_finds_97 d c11 Q x0 x1 x2 x3 S) ∧ ((x3 = 0) → S.K x0 = 11 ∧ ∃ b1, S.R x0 19 = some b1 ∧ ((S.K b1 = 13 ∧ 0 ≤ x4 ∧ x4 < S.N b1) ∧ ((R32 (S.I b1 (x4).toNat) ∧ R32 x2) ∧ (¬ ((S.I b1 (x4).toNat) = x2) → VX11_finds_90 d c11 (VX11_finds_61 d c11 Q n) Q x0 x1 x2 x4 0 S) ∧ (((S.I b1 (x4).toNat) = x2) → VX11_finds_90 d c11 (VX11_finds_61 d c11 Q n) Q x0 x1 x2 x4 1 S))))))
theorem JX11_finds_61 {d : Nat} {c11 : Nat → Int → MS → Prop} {S0 : MS} {Q : Out → MS → Prop} (hc11 : ∀ (x0 : Nat) (x1 : Int) (S : MS), c11 x0 x1 S → Jw FinM RX11 cX11_finds 5 none [] yX11_finds (d + 1) S0 S 11 [(0, vA x0), (1, vI x1)] [] Q) : ∀ (n : Nat) (x0 : Nat) (x1 : Int) (x2 : Int) (x3 : Int) (x4 : Int) (S : MS), VX11_finds_61 d c11 Q n x0 x1 x2 x3 x4 S → Jw FinM RX11 cX11_finds 5 none [] yX11_finds (d + 1) S0 S 61 [(0, vA x0), (1, vI x1), (2, vI x2), (3, vI x3), (4, vI x4)] [] Q := by
  intro n
  induction n with
  | zero => intro x0 x1 x2 x3 x4 S h; exact h.elim
  | succ n ih =>
    intro x0 x1 x2 x3 x4 S h
    exact j_iload 4 dX11_finds_61 rfl (j_aload_n 0 dX11_finds_63 rfl (j_getI 11 20 f_RX11_289 dX11_finds_64 h (fun h => j_icmp_ge (tgt := 97) dX11_finds_67 (by decide) h (fun h => j_sub [0, 1, 2, 3] rfl (JX11_finds_97 hc11 _ _ _ _ _ h)) (fun h => j_iload_n 3 dX11_finds_70 rfl (j_if_ne (tgt := 97) dX11_finds_71 (by decide) h (fun h => j_sub [0, 1, 2, 3] rfl (JX11_finds_97 hc11 _ _ _ _ _ h)) (fun h => j_aload_n 0 dX11_finds_74 rfl (j_getR 11 19 f_RX11_52 dX11_finds_75 h (fun b1 h => j_iload 4 dX11_finds_78 rfl (j_iald dX11_finds_80 h (fun h => j_iload_n 2 dX11_finds_81 rfl (j_icmp_ne (tgt := 89) dX11_finds_82 (by decide) h (fun h => j_iconst dX11_finds_89 (j_sub [0, 1, 2, 4] rfl (JX11_finds_90 hc11 ih _ _ _ _ _ _ h))) (fun h => j_iconst dX11_finds_85 (j_goto (tgt := 90) dX11_finds_86 (by decide) (j_sub [0, 1, 2, 4] rfl (JX11_finds_90 hc11 ih _ _ _ _ _ _ h)))))))))))))))
def VX11_finds_23 (d : Nat) (c11 : Nat → Int → MS → Prop) (Q : Out → MS → Prop) : Nat → Nat → Int → Int → Int → MS → Prop
  | 0, _, _, _, _, _ => False
  | n + 1, x0, x1, x2, x3, S => S.K x0 = 11 ∧ Mw hX11_notes yX11_notes d [vA x0] S (oI (fun r1 S1 => (R32 x3 ∧ R32 r1) ∧ ((r1 ≤ x3) → ∃ m, VX11_finds_61 d c11 Q m x0 x1 x2 0 0 S1) ∧ (¬ (r1 ≤ x3) → S1.K x0 = 11 ∧ Mw hX11_fitsNote yX11_fitsNote d [vA x0, vI x1, vI x3] S1 (oI (fun r2 S2 => R32 r2 ∧ ((r2 = 0) → VX11_finds_48 d c11 (VX11_finds_23 d c11 Q n) Q x0 x1 x3 (iShl 1 x3) x2 S2) ∧ (¬ (r2 = 0) → VX11_finds_48 d c11 (VX11_finds_23 d c11 Q n) Q x0 x1 x3 0 x2 S2))))))
theorem JX11_finds_23 {d : Nat} {c11 : Nat → Int → MS → Prop} {S0 : MS} {Q : Out → MS → Prop} (hc11 : ∀ (x0 : Nat) (x1 : Int) (S : MS), c11 x0 x1 S → Jw FinM RX11 cX11_finds 5 none [] yX11_finds (d + 1) S0 S 11 [(0, vA x0), (1, vI x1)] [] Q) : ∀ (n : Nat) (x0 : Nat) (x1 : Int) (x2 : Int) (x3 : Int) (S : MS), VX11_finds_23 d c11 Q n x0 x1 x2 x3 S → Jw FinM RX11 cX11_finds 5 none [] yX11_finds (d + 1) S0 S 23 [(0, vA x0), (1, vI x1), (2, vI x2), (3, vI x3)] [] Q := by
  intro n
  induction n with
  | zero => intro x0 x1 x2 x3 S h; exact h.elim
  | succ n ih =>
    intro x0 x1 x2 x3 S h
    exact j_iload_n 3 dX11_finds_23 rfl (j_aload_n 0 dX11_finds_24 rfl (j_callV (rest := [vI x3]) 11 [] k_RX11_91 ⟨w_7_202, p_4_8⟩ ⟨_, _, rfl⟩ (by decide) rfl rfl (Nat.le_of_ble_eq_true rfl) dX11_finds_25 h (kI (fun r1 S1 h => j_icmp_ge (tgt := 56) dX11_finds_28 (by decide) h (fun h => j_iconst dX11_finds_56 (j_istore_n (lv2 := [(3, vI 0), (0, vA x0), (1, vI x1), (2, vI x2)]) dX11_finds_57 (by decide) rfl (j_iconst dX11_finds_58 (j_istore (lv2 := [(4, vI 0), (3, vI 0), (0, vA x0), (1, vI x1), (2, vI x2)]) dX11_finds_59 (by decide) rfl (Exists.elim h (fun m h => j_sub [2, 3, 4, 1, 0] rfl (JX11_finds_61 hc11 m _ _ _ _ _ _ h))))))) (fun h => j_iload_n 2 dX11_finds_31 rfl (j_aload_n 0 dX11_finds_32 rfl (j_iload_n 1 dX11_finds_33 rfl (j_iload_n 3 dX11_finds_34 rfl (j_callV (rest := [vI x2]) 11 [vI x1, vI x3] k_RX11_238 ⟨w_8_58, p_5_8⟩ ⟨_, _, rfl⟩ (by decide) rfl rfl (Nat.le_of_ble_eq_true rfl) dX11_finds_35 h (kI (fun r2 S2 h => j_if_eq (tgt := 45) dX11_finds_38 (by decide) h (fun h => j_iconst dX11_finds_45 (j_iload_n 3 dX11_finds_46 rfl (j_ishl dX11_finds_47 (j_sub [0, 1, 3] rfl (JX11_finds_48 hc11 ih _ _ _ _ _ _ h))))) (fun h => j_iconst dX11_finds_41 (j_goto (tgt := 48) dX11_finds_42 (by decide) (j_sub [0, 1, 3] rfl (JX11_finds_48 hc11 ih _ _ _ _ _ _ h)))))) (fun _ _ h => h.elim)))))))) (fun _ _ h => h.elim)))
def VX11_finds_11 (d : Nat) (Q : Out → MS → Prop) : Nat → Nat → Int → MS → Prop
  | 0, _, _, _ => False
  | n + 1, x0, x1, S => S.K x0 = 11 ∧ ((R32 x1 ∧ R32 (S.I x0 13)) ∧ (((S.I x0 13) ≤ x1) → Q (.inl none) S) ∧ (¬ ((S.I x0 13) ≤ x1) → ∃ m, VX11_finds_23 d (VX11_finds_11 d Q n) Q m x0 x1 0 0 S))
theorem JX11_finds_11 {d : Nat} {S0 : MS} {Q : Out → MS → Prop} : ∀ (n : Nat) (x0 : Nat) (x1 : Int) (S : MS), VX11_finds_11 d Q n x0 x1 S → Jw FinM RX11 cX11_finds 5 none [] yX11_finds (d + 1) S0 S 11 [(0, vA x0), (1, vI x1)] [] Q := by
  intro n
  induction n with
  | zero => intro x0 x1 S h; exact h.elim
  | succ n ih =>
    intro x0 x1 S h
    exact j_iload_n 1 dX11_finds_11 rfl (j_aload_n 0 dX11_finds_12 rfl (j_getI 11 13 f_RX11_225 dX11_finds_13 h (fun h => j_icmp_ge (tgt := 130) dX11_finds_16 (by decide) h (fun h => j_vret rfl dX11_finds_130 h) (fun h => j_iconst dX11_finds_19 (j_istore_n (lv2 := [(2, vI 0), (0, vA x0), (1, vI x1)]) dX11_finds_20 (by decide) rfl (j_iconst dX11_finds_21 (j_istore_n (lv2 := [(3, vI 0), (2, vI 0), (0, vA x0), (1, vI x1)]) dX11_finds_22 (by decide) rfl (Exists.elim h (fun m h => j_sub [2, 3, 1, 0] rfl (JX11_finds_23 ih m _ _ _ _ _ h))))))))))
def VX11_finds_0 (d : Nat) (Q : Out → MS → Prop) (x0 : Nat) (S : MS) : Prop :=
  S.K x0 = 11 ∧ Mw hX11_fills yX11_fills d [vA x0] S (oV (fun S1 => S1.K x0 = 11 ∧ (∃ m, VX11_finds_11 d Q m x0 0 (S1.setI x0 20 0))))
theorem JX11_finds_0 {d : Nat} {S0 : MS} {Q : Out → MS → Prop} (x0 : Nat) (S : MS) (h : VX11_finds_0 d Q x0 S) : Jw FinM RX11 cX11_finds 5 none [] yX11_finds (d + 1) S0 S 0 [(0, vA x0)] [] Q :=
  j_aload_n 0 dX11_finds_0 rfl (j_callV (rest := []) 11 [] k_RX11_241 ⟨w_8_46, p_5_5⟩ ⟨_, _, rfl⟩ (by decide) rfl rfl (Nat.le_of_ble_eq_true rfl) dX11_finds_1 h (kV (fun S1 h => j_aload_n 0 dX11_finds_4 rfl (j_iconst dX11_finds_5 (j_putI 11 20 f_RX11_289 dX11_finds_6 h (fun h => j_iconst dX11_finds_9 (j_istore_n (lv2 := [(1, vI 0), (0, vA x0)]) dX11_finds_10 (by decide) rfl (Exists.elim h (fun m h => j_sub [1, 0] rfl (JX11_finds_11 m _ _ _ h))))))))) (fun _ _ h => h.elim))
theorem MX11_finds {d : Nat} {x0 : Nat} {S : MS} {Q : Out → MS → Prop} (h : VX11_finds_0 d Q x0 S) : Mw hX11_finds yX11_finds (d + 1) [vA x0] S Q := Mw.ofJ (by decide) (Nat.le_of_ble_eq_true rfl) (JX11_finds_0 _ S h)
theorem dX11_isAgainst_0 : decode cX11_isAgainst 0 = .ok (.iconst 1, 1) := by decide +kernel
theorem dX11_isAgainst_1 : decode cX11_isAgainst 1 = .ok (.istore_n 2, 1) := by decide +kernel
theorem dX11_isAgainst_2 : decode cX11_isAgainst 2 = .ok (.iconst 0, 1) := by decide +kernel
theorem dX11_isAgainst_3 : decode cX11_isAgainst 3 = .ok (.istore_n 3, 1) := by decide +kernel
theorem dX11_isAgainst_4 : decode cX11_isAgainst 4 = .ok (.iload_n 3, 1) := by decide +kernel
theorem dX11_isAgainst_5 : decode cX11_isAgainst 5 = .ok (.aload_n 0, 1) := by decide +kernel
theorem dX11_isAgainst_6 : decode cX11_isAgainst 6 = .ok (.getfield 289, 3) := by decide +kernel
theorem dX11_isAgainst_9 : decode cX11_isAgainst 9 = .ok (.if_icmp .ge 30, 3) := by decide +kernel
theorem dX11_isAgainst_12 : decode cX11_isAgainst 12 = .ok (.iload_n 2, 1) := by decide +kernel
theorem dX11_isAgainst_13 : decode cX11_isAgainst 13 = .ok (.ifCond .eq 26, 3) := by decide +kernel
theorem dX11_isAgainst_16 : decode cX11_isAgainst 16 = .ok (.aload_n 0, 1) := by decide +kernel
theorem dX11_isAgainst_17 : decode cX11_isAgainst 17 = .ok (.getfield 52, 3) := by decide +kernel
theorem dX11_isAgainst_20 : decode cX11_isAgainst 20 = .ok (.iload_n 3, 1) := by decide +kernel
theorem dX11_isAgainst_21 : decode cX11_isAgainst 21 = .ok (.iaload, 1) := by decide +kernel
theorem dX11_isAgainst_22 : decode cX11_isAgainst 22 = .ok (.iload_n 1, 1) := by decide +kernel
theorem dX11_isAgainst_23 : decode cX11_isAgainst 23 = .ok (.iand, 1) := by decide +kernel
theorem dX11_isAgainst_24 : decode cX11_isAgainst 24 = .ok (.ifCond .eq 7, 3) := by decide +kernel
theorem dX11_isAgainst_27 : decode cX11_isAgainst 27 = .ok (.iconst 1, 1) := by decide +kernel
theorem dX11_isAgainst_28 : decode cX11_isAgainst 28 = .ok (.goto 4, 3) := by decide +kernel
theorem dX11_isAgainst_31 : decode cX11_isAgainst 31 = .ok (.iconst 0, 1) := by decide +kernel
theorem dX11_isAgainst_32 : decode cX11_isAgainst 32 = .ok (.istore_n 2, 1) := by decide +kernel
theorem dX11_isAgainst_33 : decode cX11_isAgainst 33 = .ok (.iinc 3 1, 3) := by decide +kernel
theorem dX11_isAgainst_36 : decode cX11_isAgainst 36 = .ok (.goto (-32), 3) := by decide +kernel
theorem dX11_isAgainst_39 : decode cX11_isAgainst 39 = .ok (.iload_n 2, 1) := by decide +kernel
theorem dX11_isAgainst_40 : decode cX11_isAgainst 40 = .ok (.ireturn, 1) := by decide +kernel
def VX11_isAgainst_32 (d : Nat) (c4 : Nat → Int → Int → Int → MS → Prop) (Q : Out → MS → Prop) (x0 : Nat) (x1 : Int) (x3 : Int) (t0 : Int) (S : MS) : Prop :=
  c4 x0 x1 t0 (x3 + 1) S
theorem JX11_isAgainst_32 {d : Nat} {c4 : Nat → Int → Int → Int → MS → Prop} {S0 : MS} {Q : Out → MS → Prop} (hc4 : ∀ (x0 : Nat) (x1 : Int) (x2 : Int) (x3 : Int) (S : MS), c4 x0 x1 x2 x3 S → Jw FinM RX11 cX11_isAgainst 4 (some .boolean) [] yX11_isAgainst (d + 1) S0 S 4 [(0, vA x0), (1, vI x1), (2, vI x2), (3, vI x3)] [] Q) (x0 : Nat) (x1 : Int) (x3 : Int) (t0 : Int) (S : MS) (h : VX11_isAgainst_32 d c4 Q x0 x1 x3 t0 S) : Jw FinM RX11 cX11_isAgainst 4 (some .boolean) [] yX11_isAgainst (d + 1) S0 S 32 [(0, vA x0), (1, vI x1), (3, vI x3)] [vI t0] Q :=
  j_istore_n (lv2 := [(2, vI t0), (0, vA x0), (1, vI x1), (3, vI x3)]) dX11_isAgainst_32 (by decide) rfl (j_iinc 3 (lv2 := [(3, vI (x3 + 1)), (2, vI t0), (0, vA x0), (1, vI x1)]) dX11_isAgainst_33 rfl (by decide) rfl (j_goto (tgt := 4) dX11_isAgainst_36 (by decide) (j_sub [2, 3, 1, 0] rfl (hc4 _ _ _ _ _ h))))
def VX11_isAgainst_39 (d : Nat) (Q : Out → MS → Prop) (x2 : Int) (S : MS) : Prop :=
  B01 x2 ∧ Q (.inl (some (vI x2))) S
theorem JX11_isAgainst_39 {d : Nat} {S0 : MS} {Q : Out → MS → Prop} (x2 : Int) (S : MS) (h : VX11_isAgainst_39 d Q x2 S) : Jw FinM RX11 cX11_isAgainst 4 (some .boolean) [] yX11_isAgainst (d + 1) S0 S 39 [(2, vI x2)] [] Q :=
  j_iload_n 0 dX11_isAgainst_39 rfl (j_zret rfl dX11_isAgainst_40 h)
def VX11_isAgainst_4 (d : Nat) (Q : Out → MS → Prop) : Nat → Nat → Int → Int → Int → MS → Prop
  | 0, _, _, _, _, _ => False
  | n + 1, x0, x1, x2, x3, S => S.K x0 = 11 ∧ ((R32 x3 ∧ R32 (S.I x0 20)) ∧ (((S.I x0 20) ≤ x3) → VX11_isAgainst_39 d Q x2 S) ∧ (¬ ((S.I x0 20) ≤ x3) → R32 x2 ∧ ((x2 = 0) → VX11_isAgainst_39 d Q x2 S) ∧ (¬ (x2 = 0) → S.K x0 = 11 ∧ ∃ b1, S.R x0 19 = some b1 ∧ ((S.K b1 = 13 ∧ 0 ≤ x3 ∧ x3 < S.N b1) ∧ (R32 (iAnd (S.I b1 (x3).toNat) x1) ∧ (((iAnd (S.I b1 (x3).toNat) x1) = 0) → VX11_isAgainst_32 d (VX11_isAgainst_4 d Q n) Q x0 x1 x3 0 S) ∧ (¬ ((iAnd (S.I b1 (x3).toNat) x1) = 0) → VX11_isAgainst_32 d (VX11_isAgainst_4 d Q n) Q x0 x1 x3 1 S))))))
theorem JX11_isAgainst_4 {d : Nat} {S0 : MS} {Q : Out → MS → Prop} : ∀ (n : Nat) (x0 : Nat) (x1 : Int) (x2 : Int) (x3 : Int) (S : MS), VX11_isAgainst_4 d Q n x0 x1 x2 x3 S → Jw FinM RX11 cX11_isAgainst 4 (some .boolean) [] yX11_isAgainst (d + 1) S0 S 4 [(0, vA x0), (1, vI x1), (2, vI x2), (3, vI x3)] [] Q := by
  intro n
  induction n with
  | zero => intro x0 x1 x2 x3 S h; exact h.elim
  | succ n ih =>
    intro x0 x1 x2 x3 S h
    exact j_iload_n 3 dX11_isAgainst_4 rfl (j_aload_n 0 dX11_isAgainst_5 rfl (j_getI 11 20 f_RX11_289 dX11_isAgainst_6 h (fun h => j_icmp_ge (tgt := 39) dX11_isAgainst_9 (by decide) h (fun h => j_sub [2] rfl (JX11_isAgainst_39 _ _ h)) (fun h => j_iload_n 2 dX11_isAgainst_12 rfl (j_if_eq (tgt := 39) dX11_isAgainst_13 (by decide) h (fun h => j_sub [2] rfl (JX11_isAgainst_39 _ _ h)) (fun h => j_aload_n 0 dX11_isAgainst_16 rfl (j_getR 11 19 f_RX11_52 dX11_isAgainst_17 h (fun b1 h => j_iload_n 3 dX11_isAgainst_20 rfl (j_iald dX11_isAgainst_21 h (fun h => j_iload_n 1 dX11_isAgainst_22 rfl (j_iand dX11_isAgainst_23 (j_if_eq (tgt := 31) dX11_isAgainst_24 (by decide) h (fun h => j_iconst dX11_isAgainst_31 (j_sub [0, 1, 3] rfl (JX11_isAgainst_32 ih _ _ _ _ _ h))) (fun h => j_iconst dX11_isAgainst_27 (j_goto (tgt := 32) dX11_isAgainst_28 (by decide) (j_sub [0, 1, 3] rfl (JX11_isAgainst_32 ih _ _ _ _ _ h))))))))))))))))
def VX11_isAgainst_0 (d : Nat) (Q : Out → MS → Prop) (x0 : Nat) (x1 : Int) (S : MS) : Prop :=
  ∃ m, VX11_isAgainst_4 d Q m x0 x1 1 0 S
theorem JX11_isAgainst_0 {d : Nat} {S0 : MS} {Q : Out → MS → Prop} (x0 : Nat) (x1 : Int) (S : MS) (h : VX11_isAgainst_0 d Q x0 x1 S) : Jw FinM RX11 cX11_isAgainst 4 (some .boolean) [] yX11_isAgainst (d + 1) S0 S 0 [(0, vA x0), (1, vI x1)] [] Q :=
  j_iconst dX11_isAgainst_0 (j_istore_n (lv2 := [(2, vI 1), (0, vA x0), (1, vI x1)]) dX11_isAgainst_1 (by decide) rfl (j_iconst dX11_isAgainst_2 (j_istore_n (lv2 := [(3, vI 0), (2, vI 1), (0, vA x0), (1, vI x1)]) dX11_isAgainst_3 (by decide) rfl (Exists.elim h (fun m h => j_sub [2, 3, 1, 0] rfl (JX11_isAgainst_4 m _ _ _ _ _ h))))))
theorem MX11_isAgainst {d : Nat} {x0 : Nat} {x1 : Int} {S : MS} {Q : Out → MS → Prop} (h : VX11_isAgainst_0 d Q x0 x1 S) : Mw hX11_isAgainst yX11_isAgainst (d + 1) [vA x0, vI x1] S Q := Mw.ofJ (by decide) (Nat.le_of_ble_eq_true rfl) (JX11_isAgainst_0 _ _ S h)
theorem dX11_quarrels_0 : decode cX11_quarrels 0 = .ok (.aload_n 0, 1) := by decide +kernel
theorem dX11_quarrels_1 : decode cX11_quarrels 1 = .ok (.iconst 0, 1) := by decide +kernel
theorem dX11_quarrels_2 : decode cX11_quarrels 2 = .ok (.putfield 3, 3) := by decide +kernel
theorem dX11_quarrels_5 : decode cX11_quarrels 5 = .ok (.aload_n 0, 1) := by decide +kernel
theorem dX11_quarrels_6 : decode cX11_quarrels 6 = .ok (.invokevirtual 292, 3) := by decide +kernel
theorem dX11_quarrels_9 : decode cX11_quarrels 9 = .ok (.iconst 0, 1) := by decide +kernel
theorem dX11_quarrels_10 : decode cX11_quarrels 10 = .ok (.istore_n 1, 1) := by decide +kernel
theorem dX11_quarrels_11 : decode cX11_quarrels 11 = .ok (.iconst 0, 1) := by decide +kernel
theorem dX11_quarrels_12 : decode cX11_quarrels 12 = .ok (.istore_n 2, 1) := by decide +kernel
theorem dX11_quarrels_13 : decode cX11_quarrels 13 = .ok (.iload_n 2, 1) := by decide +kernel
theorem dX11_quarrels_14 : decode cX11_quarrels 14 = .ok (.aload_n 0, 1) := by decide +kernel
theorem dX11_quarrels_15 : decode cX11_quarrels 15 = .ok (.invokevirtual 91, 3) := by decide +kernel
theorem dX11_quarrels_18 : decode cX11_quarrels 18 = .ok (.if_icmp .ge 44, 3) := by decide +kernel
theorem dX11_quarrels_21 : decode cX11_quarrels 21 = .ok (.iconst 0, 1) := by decide +kernel
theorem dX11_quarrels_22 : decode cX11_quarrels 22 = .ok (.istore_n 3, 1) := by decide +kernel
theorem dX11_quarrels_23 : decode cX11_quarrels 23 = .ok (.iload_n 3, 1) := by decide +kernel
theorem dX11_quarrels_24 : decode cX11_quarrels 24 = .ok (.iload_n 2, 1) := by decide +kernel
theorem dX11_quarrels_25 : decode cX11_quarrels 25 = .ok (.if_icmp .ge 31, 3) := by decide +kernel
theorem dX11_quarrels_28 : decode cX11_quarrels 28 = .ok (.iload_n 1, 1) := by decide +kernel
theorem dX11_quarrels_29 : decode cX11_quarrels 29 = .ok (.aload_n 0, 1) := by decide +kernel
theorem dX11_quarrels_30 : decode cX11_quarrels 30 = .ok (.iconst 1, 1) := by decide +kernel
theorem dX11_quarrels_31 : decode cX11_quarrels 31 = .ok (.iload_n 2, 1) := by decide +kernel
theorem dX11_quarrels_32 : decode cX11_quarrels 32 = .ok (.ishl, 1) := by decide +kernel
theorem dX11_quarrels_33 : decode cX11_quarrels 33 = .ok (.iconst 1, 1) := by decide +kernel
theorem dX11_quarrels_34 : decode cX11_quarrels 34 = .ok (.iload_n 3, 1) := by decide +kernel
theorem dX11_quarrels_35 : decode cX11_quarrels 35 = .ok (.ishl, 1) := by decide +kernel
theorem dX11_quarrels_36 : decode cX11_quarrels 36 = .ok (.ior, 1) := by decide +kernel
theorem dX11_quarrels_37 : decode cX11_quarrels 37 = .ok (.invokevirtual 295, 3) := by decide +kernel
theorem dX11_quarrels_40 : decode cX11_quarrels 40 = .ok (.ifCond .eq 7, 3) := by decide +kernel
theorem dX11_quarrels_43 : decode cX11_quarrels 43 = .ok (.iconst 1, 1) := by decide +kernel
theorem dX11_quarrels_44 : decode cX11_quarrels 44 = .ok (.goto 4, 3) := by decide +kernel
theorem dX11_quarrels_47 : decode cX11_quarrels 47 = .ok (.iconst 0, 1) := by decide +kernel
theorem dX11_quarrels_48 : decode cX11_quarrels 48 = .ok (.iadd, 1) := by decide +kernel
theorem dX11_quarrels_49 : decode cX11_quarrels 49 = .ok (.istore_n 1, 1) := by decide +kernel
theorem dX11_quarrels_50 : decode cX11_quarrels 50 = .ok (.iinc 3 1, 3) := by decide +kernel
theorem dX11_quarrels_53 : decode cX11_quarrels 53 = .ok (.goto (-30), 3) := by decide +kernel
theorem dX11_quarrels_56 : decode cX11_quarrels 56 = .ok (.iinc 2 1, 3) := by decide +kernel
theorem dX11_quarrels_59 : decode cX11_quarrels 59 = .ok (.goto (-46), 3) := by decide +kernel
theorem dX11_quarrels_62 : decode cX11_quarrels 62 = .ok (.iload_n 1, 1) := by decide +kernel
theorem dX11_quarrels_63 : decode cX11_quarrels 63 = .ok (.ireturn, 1) := by decide +kernel
def VX11_quarrels_48 (d : Nat) (c13 : Nat → Int → Int → MS → Prop) (c23 : Nat → Int → Int → Int → MS → Prop) (Q : Out → MS → Prop) (x0 : Nat) (x2 : Int) (x3 : Int) (t0 : Int) (t1 : Int) (S : MS) : Prop :=
  c23 x0 (t1 + t0) x2 (x3 + 1) S
theorem JX11_quarrels_48 {d : Nat} {c13 : Nat → Int → Int → MS → Prop} {c23 : Nat → Int → Int → Int → MS → Prop} {S0 : MS} {Q : Out → MS → Prop} (hc13 : ∀ (x0 : Nat) (x1 : Int) (x2 : Int) (S : MS), c13 x0 x1 x2 S → Jw FinM RX11 cX11_quarrels 4 (some .int) [] yX11_quarrels (d + 1) S0 S 13 [(0, vA x0), (1, vI x1), (2, vI x2)] [] Q) (hc23 : ∀ (x0 : Nat) (x1 : Int) (x2 : Int) (x3 : Int) (S : MS), c23 x0 x1 x2 x3 S → Jw FinM RX11 cX11_quarrels 4 (some .int) [] yX11_quarrels (d + 1) S0 S 23 [(0, vA x0), (1, vI x1), (2, vI x2), (3, vI x3)] [] Q) (x0 : Nat) (x2 : Int) (x3 : Int) (t0 : Int) (t1 : Int) (S : MS) (h : VX11_quarrels_48 d c13 c23 Q x0 x2 x3 t0 t1 S) : Jw FinM RX11 cX11_quarrels 4 (some .int) [] yX11_quarrels (d + 1) S0 S 48 [(0, vA x0), (2, vI x2), (3, vI x3)] [vI t0, vI t1] Q :=
  j_iadd dX11_quarrels_48 (j_istore_n (lv2 := [(1, vI (t1 + t0)), (0, vA x0), (2, vI x2), (3, vI x3)]) dX11_quarrels_49 (by decide) rfl (j_iinc 3 (lv2 := [(3, vI (x3 + 1)), (1, vI (t1 + t0)), (0, vA x0), (2, vI x2)]) dX11_quarrels_50 rfl (by decide) rfl (j_goto (tgt := 23) dX11_quarrels_53 (by decide) (j_sub [2, 1, 3, 0] rfl (hc23 _ _ _ _ _ h)))))
def VX11_quarrels_23 (d : Nat) (c13 : Nat → Int → Int → MS → Prop) (Q : Out → MS → Prop) : Nat → Nat → Int → Int → Int → MS → Prop
  | 0, _, _, _, _, _ => False
  | n + 1, x0, x1, x2, x3, S => (R32 x3 ∧ R32 x2) ∧ ((x2 ≤ x3) → c13 x0 x1 (x2 + 1) S) ∧ (¬ (x2 ≤ x3) → S.K x0 = 11 ∧ Mw hX11_isAgainst yX11_isAgainst d [vA x0, vI (iOr (iShl 1 x2) (iShl 1 x3))] S (oI (fun r1 S1 => R32 r1 ∧ ((r1 = 0) → VX11_quarrels_48 d c13 (VX11_quarrels_23 d c13 Q n) Q x0 x2 x3 0 x1 S1) ∧ (¬ (r1 = 0) → VX11_quarrels_48 d c13 (VX11_quarrels_23 d c13 Q n) Q x0 x2 x3 1 x1 S1))))
theorem JX11_quarrels_23 {d : Nat} {c13 : Nat → Int → Int → MS → Prop} {S0 : MS} {Q : Out → MS → Prop} (hc13 : ∀ (x0 : Nat) (x1 : Int) (x2 : Int) (S : MS), c13 x0 x1 x2 S → Jw FinM RX11 cX11_quarrels 4 (some .int) [] yX11_quarrels (d + 1) S0 S 13 [(0, vA x0), (1, vI x1), (2, vI x2)] [] Q) : ∀ (n : Nat) (x0 : Nat) (x1 : Int) (x2 : Int) (x3 : Int) (S : MS), VX11_quarrels_23 d c13 Q n x0 x1 x2 x3 S → Jw FinM RX11 cX11_quarrels 4 (some .int) [] yX11_quarrels (d + 1) S0 S 23 [(0, vA x0), (1, vI x1), (2, vI x2), (3, vI x3)] [] Q := by
  intro n
  induction n with
  | zero => intro x0 x1 x2 x3 S h; exact h.elim
  | succ n ih =>
    intro x0 x1 x2 x3 S h
    exact j_iload_n 3 dX11_quarrels_23 rfl (j_iload_n 2 dX11_quarrels_24 rfl (j_icmp_ge (tgt := 56) dX11_quarrels_25 (by decide) h (fun h => j_iinc 2 (lv2 := [(2, vI (x2 + 1)), (0, vA x0), (1, vI x1), (3, vI x3)]) dX11_quarrels_56 rfl (by decide) rfl (j_goto (tgt := 13) dX11_quarrels_59 (by decide) (j_sub [1, 2, 0] rfl (hc13 _ _ _ _ h)))) (fun h => j_iload_n 1 dX11_quarrels_28 rfl (j_aload_n 0 dX11_quarrels_29 rfl (j_iconst dX11_quarrels_30 (j_iload_n 2 dX11_quarrels_31 rfl (j_ishl dX11_quarrels_32 (j_iconst dX11_quarrels_33 (j_iload_n 3 dX11_quarrels_34 rfl (j_ishl dX11_quarrels_35 (j_ior dX11_quarrels_36 (j_callV (rest := [vI x1]) 11 [vI (iOr (iShl 1 x2) (iShl 1 x3))] k_RX11_295 ⟨w_8_178, p_6_10⟩ ⟨_, _, rfl⟩ (by decide) rfl rfl (Nat.le_of_ble_eq_true rfl) dX11_quarrels_37 h (kI (fun r1 S1 h => j_if_eq (tgt := 47) dX11_quarrels_40 (by decide) h (fun h => j_iconst dX11_quarrels_47 (j_sub [0, 2, 3] rfl (JX11_quarrels_48 hc13 ih _ _ _ _ _ _ h))) (fun h => j_iconst dX11_quarrels_43 (j_goto (tgt := 48) dX11_quarrels_44 (by decide) (j_sub [0, 2, 3] rfl (JX11_quarrels_48 hc13 ih _ _ _ _ _ _ h)))))) (fun _ _ h => h.elim)))))))))))))
def VX11_quarrels_13 (d : Nat) (Q : Out → MS → Prop) : Nat → Nat → Int → Int → MS → Prop
  | 0, _, _, _, _ => False
  | n + 1, x0, x1, x2, S => S.K x0 = 11 ∧ Mw hX11_notes yX11_notes d [vA x0] S (oI (fun r1 S1 => (R32 x2 ∧ R32 r1) ∧ ((r1 ≤ x2) → Q (.inl (some (vI x1))) S1) ∧ (¬ (r1 ≤ x2) → ∃ m, VX11_quarrels_23 d (VX11_quarrels_13 d Q n) Q m x0 x1 x2 0 S1)))
theorem JX11_quarrels_13 {d : Nat} {S0 : MS} {Q : Out → MS → Prop} : ∀ (n : Nat) (x0 : Nat) (x1 : Int) (x2 : Int) (S : MS), VX11_quarrels_13 d Q n x0 x1 x2 S → Jw FinM RX11 cX11_quarrels 4 (some .int) [] yX11_quarrels (d + 1) S0 S 13 [(0, vA x0), (1, vI x1), (2, vI x2)] [] Q := by
  intro n
  induction n with
  | zero => intro x0 x1 x2 S h; exact h.elim
  | succ n ih =>
    intro x0 x1 x2 S h
    exact j_iload_n 2 dX11_quarrels_13 rfl (j_aload_n 0 dX11_quarrels_14 rfl (j_callV (rest := [vI x2]) 11 [] k_RX11_91 ⟨w_7_202, p_4_8⟩ ⟨_, _, rfl⟩ (by decide) rfl rfl (Nat.le_of_ble_eq_true rfl) dX11_quarrels_15 h (kI (fun r1 S1 h => j_icmp_ge (tgt := 62) dX11_quarrels_18 (by decide) h (fun h => j_iload_n 1 dX11_quarrels_62 rfl (j_iret rfl dX11_quarrels_63 h)) (fun h => j_iconst dX11_quarrels_21 (j_istore_n (lv2 := [(3, vI 0), (0, vA x0), (1, vI x1), (2, vI x2)]) dX11_quarrels_22 (by decide) rfl (Exists.elim h (fun m h => j_sub [1, 2, 3, 0] rfl (JX11_quarrels_23 ih m _ _ _ _ _ h))))))) (fun _ _ h => h.elim)))
def VX11_quarrels_0 (d : Nat) (Q : Out → MS → Prop) (x0 : Nat) (S : MS) : Prop :=
  S.K x0 = 11 ∧ ((S.setI x0 0 0).K x0 = 11 ∧ Mw hX11_finds yX11_finds d [vA x0] (S.setI x0 0 0) (oV (fun S1 => ∃ m, VX11_quarrels_13 d Q m x0 0 0 S1)))
theorem JX11_quarrels_0 {d : Nat} {S0 : MS} {Q : Out → MS → Prop} (x0 : Nat) (S : MS) (h : VX11_quarrels_0 d Q x0 S) : Jw FinM RX11 cX11_quarrels 4 (some .int) [] yX11_quarrels (d + 1) S0 S 0 [(0, vA x0)] [] Q :=
  j_aload_n 0 dX11_quarrels_0 rfl (j_iconst dX11_quarrels_1 (j_putI 11 0 f_RX11_3 dX11_quarrels_2 h (fun h => j_aload_n 0 dX11_quarrels_5 rfl (j_callV (rest := []) 11 [] k_RX11_292 ⟨w_8_174, p_6_9⟩ ⟨_, _, rfl⟩ (by decide) rfl rfl (Nat.le_of_ble_eq_true rfl) dX11_quarrels_6 h (kV (fun S1 h => j_iconst dX11_quarrels_9 (j_istore_n (lv2 := [(1, vI 0), (0, vA x0)]) dX11_quarrels_10 (by decide) rfl (j_iconst dX11_quarrels_11 (j_istore_n (lv2 := [(2, vI 0), (1, vI 0), (0, vA x0)]) dX11_quarrels_12 (by decide) rfl (Exists.elim h (fun m h => j_sub [2, 1, 0] rfl (JX11_quarrels_13 m _ _ _ _ h)))))))) (fun _ _ h => h.elim)))))
theorem MX11_quarrels {d : Nat} {x0 : Nat} {S : MS} {Q : Out → MS → Prop} (h : VX11_quarrels_0 d Q x0 S) : Mw hX11_quarrels yX11_quarrels (d + 1) [vA x0] S Q := Mw.ofJ (by decide) (Nat.le_of_ble_eq_true rfl) (JX11_quarrels_0 _ S h)
theorem dX11_chooses_0 : decode cX11_chooses 0 = .ok (.iload_n 1, 1) := by decide +kernel
theorem dX11_chooses_1 : decode cX11_chooses 1 = .ok (.iconst 1, 1) := by decide +kernel
theorem dX11_chooses_2 : decode cX11_chooses 2 = .ok (.isub, 1) := by decide +kernel
theorem dX11_chooses_3 : decode cX11_chooses 3 = .ok (.istore_n 3, 1) := by decide +kernel
theorem dX11_chooses_4 : decode cX11_chooses 4 = .ok (.iload_n 3, 1) := by decide +kernel
theorem dX11_chooses_5 : decode cX11_chooses 5 = .ok (.ifCond .lt 23, 3) := by decide +kernel
theorem dX11_chooses_8 : decode cX11_chooses 8 = .ok (.aload_n 0, 1) := by decide +kernel
theorem dX11_chooses_9 : decode cX11_chooses 9 = .ok (.getfield 55, 3) := by decide +kernel
theorem dX11_chooses_12 : decode cX11_chooses 12 = .ok (.iload_n 3, 1) := by decide +kernel
theorem dX11_chooses_13 : decode cX11_chooses 13 = .ok (.iaload, 1) := by decide +kernel
theorem dX11_chooses_14 : decode cX11_chooses 14 = .ok (.iload_n 2, 1) := by decide +kernel
theorem dX11_chooses_15 : decode cX11_chooses 15 = .ok (.iload_n 1, 1) := by decide +kernel
theorem dX11_chooses_16 : decode cX11_chooses 16 = .ok (.isub, 1) := by decide +kernel
theorem dX11_chooses_17 : decode cX11_chooses 17 = .ok (.iload_n 3, 1) := by decide +kernel
theorem dX11_chooses_18 : decode cX11_chooses 18 = .ok (.iadd, 1) := by decide +kernel
theorem dX11_chooses_19 : decode cX11_chooses 19 = .ok (.if_icmp .ne 9, 3) := by decide +kernel
theorem dX11_chooses_22 : decode cX11_chooses 22 = .ok (.iinc 3 (-1), 3) := by decide +kernel
theorem dX11_chooses_25 : decode cX11_chooses 25 = .ok (.goto (-21), 3) := by decide +kernel
theorem dX11_chooses_28 : decode cX11_chooses 28 = .ok (.iload_n 3, 1) := by decide +kernel
theorem dX11_chooses_29 : decode cX11_chooses 29 = .ok (.ifCond .ge 5, 3) := by decide +kernel
theorem dX11_chooses_32 : decode cX11_chooses 32 = .ok (.iconst 0, 1) := by decide +kernel
theorem dX11_chooses_33 : decode cX11_chooses 33 = .ok (.ireturn, 1) := by decide +kernel
theorem dX11_chooses_34 : decode cX11_chooses 34 = .ok (.aload_n 0, 1) := by decide +kernel
theorem dX11_chooses_35 : decode cX11_chooses 35 = .ok (.getfield 55, 3) := by decide +kernel
theorem dX11_chooses_38 : decode cX11_chooses 38 = .ok (.iload_n 3, 1) := by decide +kernel
theorem dX11_chooses_39 : decode cX11_chooses 39 = .ok (.dup2, 1) := by decide +kernel
theorem dX11_chooses_40 : decode cX11_chooses 40 = .ok (.iaload, 1) := by decide +kernel
theorem dX11_chooses_41 : decode cX11_chooses 41 = .ok (.iconst 1, 1) := by decide +kernel
theorem dX11_chooses_42 : decode cX11_chooses 42 = .ok (.iadd, 1) := by decide +kernel
theorem dX11_chooses_43 : decode cX11_chooses 43 = .ok (.iastore, 1) := by decide +kernel
theorem dX11_chooses_44 : decode cX11_chooses 44 = .ok (.iload_n 3, 1) := by decide +kernel
theorem dX11_chooses_45 : decode cX11_chooses 45 = .ok (.iconst 1, 1) := by decide +kernel
theorem dX11_chooses_46 : decode cX11_chooses 46 = .ok (.iadd, 1) := by decide +kernel
theorem dX11_chooses_47 : decode cX11_chooses 47 = .ok (.istore 4, 2) := by decide +kernel
theorem dX11_chooses_49 : decode cX11_chooses 49 = .ok (.iload 4, 2) := by decide +kernel
theorem dX11_chooses_51 : decode cX11_chooses 51 = .ok (.iload_n 1, 1) := by decide +kernel
theorem dX11_chooses_52 : decode cX11_chooses 52 = .ok (.if_icmp .ge 27, 3) := by decide +kernel
theorem dX11_chooses_55 : decode cX11_chooses 55 = .ok (.aload_n 0, 1) := by decide +kernel
theorem dX11_chooses_56 : decode cX11_chooses 56 = .ok (.getfield 55, 3) := by decide +kernel
theorem dX11_chooses_59 : decode cX11_chooses 59 = .ok (.iload 4, 2) := by decide +kernel
theorem dX11_chooses_61 : decode cX11_chooses 61 = .ok (.aload_n 0, 1) := by decide +kernel
theorem dX11_chooses_62 : decode cX11_chooses 62 = .ok (.getfield 55, 3) := by decide +kernel
theorem dX11_chooses_65 : decode cX11_chooses 65 = .ok (.iload 4, 2) := by decide +kernel
theorem dX11_chooses_67 : decode cX11_chooses 67 = .ok (.iconst 1, 1) := by decide +kernel
theorem dX11_chooses_68 : decode cX11_chooses 68 = .ok (.isub, 1) := by decide +kernel
theorem dX11_chooses_69 : decode cX11_chooses 69 = .ok (.iaload, 1) := by decide +kernel
theorem dX11_chooses_70 : decode cX11_chooses 70 = .ok (.iconst 1, 1) := by decide +kernel
theorem dX11_chooses_71 : decode cX11_chooses 71 = .ok (.iadd, 1) := by decide +kernel
theorem dX11_chooses_72 : decode cX11_chooses 72 = .ok (.iastore, 1) := by decide +kernel
theorem dX11_chooses_73 : decode cX11_chooses 73 = .ok (.iinc 4 1, 3) := by decide +kernel
theorem dX11_chooses_76 : decode cX11_chooses 76 = .ok (.goto (-27), 3) := by decide +kernel
theorem dX11_chooses_79 : decode cX11_chooses 79 = .ok (.iconst 1, 1) := by decide +kernel
theorem dX11_chooses_80 : decode cX11_chooses 80 = .ok (.ireturn, 1) := by decide +kernel
def VX11_chooses_49 (d : Nat) (Q : Out → MS → Prop) : Nat → Nat → Int → Int → MS → Prop
  | 0, _, _, _, _ => False
  | n + 1, x0, x1, x4, S => (R32 x4 ∧ R32 x1) ∧ ((x1 ≤ x4) → B01 1 ∧ Q (.inl (some (vI 1))) S) ∧ (¬ (x1 ≤ x4) → S.K x0 = 11 ∧ ∃ b1, S.R x0 21 = some b1 ∧ (S.K x0 = 11 ∧ ∃ b2, S.R x0 21 = some b2 ∧ ((S.K b2 = 13 ∧ 0 ≤ (x4 - 1) ∧ (x4 - 1) < S.N b2) ∧ ((S.K b1 = 13 ∧ 0 ≤ x4 ∧ x4 < S.N b1) ∧ ((VX11_chooses_49 d Q n) x0 x1 (x4 + 1) (S.setI b1 (x4).toNat ((S.I b2 ((x4 - 1)).toNat) + 1)))))))
theorem JX11_chooses_49 {d : Nat} {S0 : MS} {Q : Out → MS → Prop} : ∀ (n : Nat) (x0 : Nat) (x1 : Int) (x4 : Int) (S : MS), VX11_chooses_49 d Q n x0 x1 x4 S → Jw FinM RX11 cX11_chooses 5 (some .boolean) [] yX11_chooses (d + 1) S0 S 49 [(0, vA x0), (1, vI x1), (4, vI x4)] [] Q := by
  intro n
  induction n with
  | zero => intro x0 x1 x4 S h; exact h.elim
  | succ n ih =>
    intro x0 x1 x4 S h
    exact j_iload 2 dX11_chooses_49 rfl (j_iload_n 1 dX11_chooses_51 rfl (j_icmp_ge (tgt := 79) dX11_chooses_52 (by decide) h (fun h => j_iconst dX11_chooses_79 (j_zret rfl dX11_chooses_80 h)) (fun h => j_aload_n 0 dX11_chooses_55 rfl (j_getR 11 21 f_RX11_55 dX11_chooses_56 h (fun b1 h => j_iload 2 dX11_chooses_59 rfl (j_aload_n 0 dX11_chooses_61 rfl (j_getR 11 21 f_RX11_55 dX11_chooses_62 h (fun b2 h => j_iload 2 dX11_chooses_65 rfl (j_iconst dX11_chooses_67 (j_isub dX11_chooses_68 (j_iald dX11_chooses_69 h (fun h => j_iconst dX11_chooses_70 (j_iadd dX11_chooses_71 (j_iast dX11_chooses_72 h (fun h => j_iinc 2 (lv2 := [(4, vI (x4 + 1)), (0, vA x0), (1, vI x1)]) dX11_chooses_73 rfl (by decide) rfl (j_goto (tgt := 49) dX11_chooses_76 (by decide) (j_sub [1, 2, 0] rfl (ih _ _ _ _ h))))))))))))))))))
def VX11_chooses_28 (d : Nat) (Q : Out → MS → Prop) (x0 : Nat) (x1 : Int) (x3 : Int) (S : MS) : Prop :=
  R32 x3 ∧ ((0 ≤ x3) → S.K x0 = 11 ∧ ∃ b1, S.R x0 21 = some b1 ∧ ((S.K b1 = 13 ∧ 0 ≤ x3 ∧ x3 < S.N b1) ∧ ((S.K b1 = 13 ∧ 0 ≤ x3 ∧ x3 < S.N b1) ∧ (∃ m, VX11_chooses_49 d Q m x0 x1 (x3 + 1) (S.setI b1 (x3).toNat ((S.I b1 (x3).toNat) + 1)))))) ∧ (¬ (0 ≤ x3) → B01 0 ∧ Q (.inl (some (vI 0))) S)
theorem JX11_chooses_28 {d : Nat} {S0 : MS} {Q : Out → MS → Prop} (x0 : Nat) (x1 : Int) (x3 : Int) (S : MS) (h : VX11_chooses_28 d Q x0 x1 x3 S) : Jw FinM RX11 cX11_chooses 5 (some .boolean) [] yX11_chooses (d + 1) S0 S 28 [(0, vA x0), (1, vI x1), (3, vI x3)] [] Q :=
  j_iload_n 2 dX11_chooses_28 rfl (j_if_ge (tgt := 34) dX11_chooses_29 (by decide) h (fun h => j_aload_n 0 dX11_chooses_34 rfl (j_getR 11 21 f_RX11_55 dX11_chooses_35 h (fun b1 h => j_iload_n 2 dX11_chooses_38 rfl (j_dup2 rfl rfl dX11_chooses_39 (j_iald dX11_chooses_40 h (fun h => j_iconst dX11_chooses_41 (j_iadd dX11_chooses_42 (j_iast dX11_chooses_43 h (fun h => j_iload_n 2 dX11_chooses_44 rfl (j_iconst dX11_chooses_45 (j_iadd dX11_chooses_46 (j_istore (lv2 := [(4, vI (x3 + 1)), (0, vA x0), (1, vI x1), (3, vI x3)]) dX11_chooses_47 (by decide) rfl (Exists.elim h (fun m h => j_sub [1, 2, 0] rfl (JX11_chooses_49 m _ _ _ _ h))))))))))))))) (fun h => j_iconst dX11_chooses_32 (j_zret rfl dX11_chooses_33 h)))
def VX11_chooses_4 (d : Nat) (Q : Out → MS → Prop) : Nat → Nat → Int → Int → Int → MS → Prop
  | 0, _, _, _, _, _ => False
  | n + 1, x0, x1, x2, x3, S => R32 x3 ∧ ((x3 < 0) → VX11_chooses_28 d Q x0 x1 x3 S) ∧ (¬ (x3 < 0) → S.K x0 = 11 ∧ ∃ b1, S.R x0 21 = some b1 ∧ ((S.K b1 = 13 ∧ 0 ≤ x3 ∧ x3 < S.N b1) ∧ ((R32 (S.I b1 (x3).toNat) ∧ R32 ((x2 - x1) + x3)) ∧ (¬ ((S.I b1 (x3).toNat) = ((x2 - x1) + x3)) → VX11_chooses_28 d Q x0 x1 x3 S) ∧ (((S.I b1 (x3).toNat) = ((x2 - x1) + x3)) → (VX11_chooses_4 d Q n) x0 x1 x2 (x3 + (-1)) S))))
theorem JX11_chooses_4 {d : Nat} {S0 : MS} {Q : Out → MS → Prop} : ∀ (n : Nat) (x0 : Nat) (x1 : Int) (x2 : Int) (x3 : Int) (S : MS), VX11_chooses_4 d Q n x0 x1 x2 x3 S → Jw FinM RX11 cX11_chooses 5 (some .boolean) [] yX11_chooses (d + 1) S0 S 4 [(0, vA x0), (1, vI x1), (2, vI x2), (3, vI x3)] [] Q := by
  intro n
  induction n with
  | zero => intro x0 x1 x2 x3 S h; exact h.elim
  | succ n ih =>
    intro x0 x1 x2 x3 S h
    exact j_iload_n 3 dX11_chooses_4 rfl (j_if_lt (tgt := 28) dX11_chooses_5 (by decide) h (fun h => j_sub [0, 1, 3] rfl (JX11_chooses_28 _ _ _ _ h)) (fun h => j_aload_n 0 dX11_chooses_8 rfl (j_getR 11 21 f_RX11_55 dX11_chooses_9 h (fun b1 h => j_iload_n 3 dX11_chooses_12 rfl (j_iald dX11_chooses_13 h (fun h => j_iload_n 2 dX11_chooses_14 rfl (j_iload_n 1 dX11_chooses_15 rfl (j_isub dX11_chooses_16 (j_iload_n 3 dX11_chooses_17 rfl (j_iadd dX11_chooses_18 (j_icmp_ne (tgt := 28) dX11_chooses_19 (by decide) h (fun h => j_sub [0, 1, 3] rfl (JX11_chooses_28 _ _ _ _ h)) (fun h => j_iinc 3 (lv2 := [(3, vI (x3 + (-1))), (0, vA x0), (1, vI x1), (2, vI x2)]) dX11_chooses_22 rfl (by decide) rfl (j_goto (tgt := 4) dX11_chooses_25 (by decide) (j_sub [1, 2, 3, 0] rfl (ih _ _ _ _ _ h)))))))))))))))
def VX11_chooses_0 (d : Nat) (Q : Out → MS → Prop) (x0 : Nat) (x1 : Int) (x2 : Int) (S : MS) : Prop :=
  ∃ m, VX11_chooses_4 d Q m x0 x1 x2 (x1 - 1) S
theorem JX11_chooses_0 {d : Nat} {S0 : MS} {Q : Out → MS → Prop} (x0 : Nat) (x1 : Int) (x2 : Int) (S : MS) (h : VX11_chooses_0 d Q x0 x1 x2 S) : Jw FinM RX11 cX11_chooses 5 (some .boolean) [] yX11_chooses (d + 1) S0 S 0 [(0, vA x0), (1, vI x1), (2, vI x2)] [] Q :=
  j_iload_n 1 dX11_chooses_0 rfl (j_iconst dX11_chooses_1 (j_isub dX11_chooses_2 (j_istore_n (lv2 := [(3, vI (x1 - 1)), (0, vA x0), (1, vI x1), (2, vI x2)]) dX11_chooses_3 (by decide) rfl (Exists.elim h (fun m h => j_sub [1, 2, 3, 0] rfl (JX11_chooses_4 m _ _ _ _ _ h))))))
theorem MX11_chooses {d : Nat} {x0 : Nat} {x1 : Int} {x2 : Int} {S : MS} {Q : Out → MS → Prop} (h : VX11_chooses_0 d Q x0 x1 x2 S) : Mw hX11_chooses yX11_chooses (d + 1) [vA x0, vI x1, vI x2] S Q := Mw.ofJ (by decide) (Nat.le_of_ble_eq_true rfl) (JX11_chooses_0 _ _ _ S h)
theorem dX11_chosenBits_0 : decode cX11_chosenBits 0 = .ok (.iconst 0, 1) := by decide +kernel
theorem dX11_chosenBits_1 : decode cX11_chosenBits 1 = .ok (.istore_n 2, 1) := by decide +kernel
theorem dX11_chosenBits_2 : decode cX11_chosenBits 2 = .ok (.iconst 0, 1) := by decide +kernel
theorem dX11_chosenBits_3 : decode cX11_chosenBits 3 = .ok (.istore_n 3, 1) := by decide +kernel
theorem dX11_chosenBits_4 : decode cX11_chosenBits 4 = .ok (.iload_n 3, 1) := by decide +kernel
theorem dX11_chosenBits_5 : decode cX11_chosenBits 5 = .ok (.iload_n 1, 1) := by decide +kernel
theorem dX11_chosenBits_6 : decode cX11_chosenBits 6 = .ok (.if_icmp .ge 20, 3) := by decide +kernel
theorem dX11_chosenBits_9 : decode cX11_chosenBits 9 = .ok (.iload_n 2, 1) := by decide +kernel
theorem dX11_chosenBits_10 : decode cX11_chosenBits 10 = .ok (.iconst 1, 1) := by decide +kernel
theorem dX11_chosenBits_11 : decode cX11_chosenBits 11 = .ok (.aload_n 0, 1) := by decide +kernel
theorem dX11_chosenBits_12 : decode cX11_chosenBits 12 = .ok (.getfield 55, 3) := by decide +kernel
theorem dX11_chosenBits_15 : decode cX11_chosenBits 15 = .ok (.iload_n 3, 1) := by decide +kernel
theorem dX11_chosenBits_16 : decode cX11_chosenBits 16 = .ok (.iaload, 1) := by decide +kernel
theorem dX11_chosenBits_17 : decode cX11_chosenBits 17 = .ok (.ishl, 1) := by decide +kernel
theorem dX11_chosenBits_18 : decode cX11_chosenBits 18 = .ok (.ior, 1) := by decide +kernel
theorem dX11_chosenBits_19 : decode cX11_chosenBits 19 = .ok (.istore_n 2, 1) := by decide +kernel
theorem dX11_chosenBits_20 : decode cX11_chosenBits 20 = .ok (.iinc 3 1, 3) := by decide +kernel
theorem dX11_chosenBits_23 : decode cX11_chosenBits 23 = .ok (.goto (-19), 3) := by decide +kernel
theorem dX11_chosenBits_26 : decode cX11_chosenBits 26 = .ok (.iload_n 2, 1) := by decide +kernel
theorem dX11_chosenBits_27 : decode cX11_chosenBits 27 = .ok (.ireturn, 1) := by decide +kernel
def VX11_chosenBits_4 (d : Nat) (Q : Out → MS → Prop) : Nat → Nat → Int → Int → Int → MS → Prop
  | 0, _, _, _, _, _ => False
  | n + 1, x0, x1, x2, x3, S => (R32 x3 ∧ R32 x1) ∧ ((x1 ≤ x3) → Q (.inl (some (vI x2))) S) ∧ (¬ (x1 ≤ x3) → S.K x0 = 11 ∧ ∃ b1, S.R x0 21 = some b1 ∧ ((S.K b1 = 13 ∧ 0 ≤ x3 ∧ x3 < S.N b1) ∧ ((VX11_chosenBits_4 d Q n) x0 x1 (iOr x2 (iShl 1 (S.I b1 (x3).toNat))) (x3 + 1) S)))
theorem JX11_chosenBits_4 {d : Nat} {S0 : MS} {Q : Out → MS → Prop} : ∀ (n : Nat) (x0 : Nat) (x1 : Int) (x2 : Int) (x3 : Int) (S : MS), VX11_chosenBits_4 d Q n x0 x1 x2 x3 S → Jw FinM RX11 cX11_chosenBits 4 (some .int) [] yX11_chosenBits (d + 1) S0 S 4 [(0, vA x0), (1, vI x1), (2, vI x2), (3, vI x3)] [] Q := by
  intro n
  induction n with
  | zero => intro x0 x1 x2 x3 S h; exact h.elim
  | succ n ih =>
    intro x0 x1 x2 x3 S h
    exact j_iload_n 3 dX11_chosenBits_4 rfl (j_iload_n 1 dX11_chosenBits_5 rfl (j_icmp_ge (tgt := 26) dX11_chosenBits_6 (by decide) h (fun h => j_iload_n 2 dX11_chosenBits_26 rfl (j_iret rfl dX11_chosenBits_27 h)) (fun h => j_iload_n 2 dX11_chosenBits_9 rfl (j_iconst dX11_chosenBits_10 (j_aload_n 0 dX11_chosenBits_11 rfl (j_getR 11 21 f_RX11_55 dX11_chosenBits_12 h (fun b1 h => j_iload_n 3 dX11_chosenBits_15 rfl (j_iald dX11_chosenBits_16 h (fun h => j_ishl dX11_chosenBits_17 (j_ior dX11_chosenBits_18 (j_istore_n (lv2 := [(2, vI (iOr x2 (iShl 1 (S.I b1 (x3).toNat)))), (0, vA x0), (1, vI x1), (3, vI x3)]) dX11_chosenBits_19 (by decide) rfl (j_iinc 3 (lv2 := [(3, vI (x3 + 1)), (2, vI (iOr x2 (iShl 1 (S.I b1 (x3).toNat)))), (0, vA x0), (1, vI x1)]) dX11_chosenBits_20 rfl (by decide) rfl (j_goto (tgt := 4) dX11_chosenBits_23 (by decide) (j_sub [2, 3, 1, 0] rfl (ih _ _ _ _ _ h)))))))))))))))
def VX11_chosenBits_0 (d : Nat) (Q : Out → MS → Prop) (x0 : Nat) (x1 : Int) (S : MS) : Prop :=
  ∃ m, VX11_chosenBits_4 d Q m x0 x1 0 0 S
theorem JX11_chosenBits_0 {d : Nat} {S0 : MS} {Q : Out → MS → Prop} (x0 : Nat) (x1 : Int) (S : MS) (h : VX11_chosenBits_0 d Q x0 x1 S) : Jw FinM RX11 cX11_chosenBits 4 (some .int) [] yX11_chosenBits (d + 1) S0 S 0 [(0, vA x0), (1, vI x1)] [] Q :=
  j_iconst dX11_chosenBits_0 (j_istore_n (lv2 := [(2, vI 0), (0, vA x0), (1, vI x1)]) dX11_chosenBits_1 (by decide) rfl (j_iconst dX11_chosenBits_2 (j_istore_n (lv2 := [(3, vI 0), (2, vI 0), (0, vA x0), (1, vI x1)]) dX11_chosenBits_3 (by decide) rfl (Exists.elim h (fun m h => j_sub [2, 3, 1, 0] rfl (JX11_chosenBits_4 m _ _ _ _ _ h))))))
theorem MX11_chosenBits {d : Nat} {x0 : Nat} {x1 : Int} {S : MS} {Q : Out → MS → Prop} (h : VX11_chosenBits_0 d Q x0 x1 S) : Mw hX11_chosenBits yX11_chosenBits (d + 1) [vA x0, vI x1] S Q := Mw.ofJ (by decide) (Nat.le_of_ble_eq_true rfl) (JX11_chosenBits_0 _ _ S h)
theorem dX11_proof_0 : decode cX11_proof 0 = .ok (.aload_n 0, 1) := by decide +kernel
theorem dX11_proof_1 : decode cX11_proof 1 = .ok (.iconst 0, 1) := by decide +kernel
theorem dX11_proof_2 : decode cX11_proof 2 = .ok (.putfield 3, 3) := by decide +kernel
theorem dX11_proof_5 : decode cX11_proof 5 = .ok (.aload_n 0, 1) := by decide +kernel
theorem dX11_proof_6 : decode cX11_proof 6 = .ok (.invokevirtual 292, 3) := by decide +kernel
theorem dX11_proof_9 : decode cX11_proof 9 = .ok (.aload_n 0, 1) := by decide +kernel
theorem dX11_proof_10 : decode cX11_proof 10 = .ok (.iconst 1, 1) := by decide +kernel
theorem dX11_proof_11 : decode cX11_proof 11 = .ok (.aload_n 0, 1) := by decide +kernel
theorem dX11_proof_12 : decode cX11_proof 12 = .ok (.invokevirtual 91, 3) := by decide +kernel
theorem dX11_proof_15 : decode cX11_proof 15 = .ok (.ishl, 1) := by decide +kernel
theorem dX11_proof_16 : decode cX11_proof 16 = .ok (.iconst 1, 1) := by decide +kernel
theorem dX11_proof_17 : decode cX11_proof 17 = .ok (.isub, 1) := by decide +kernel
theorem dX11_proof_18 : decode cX11_proof 18 = .ok (.invokevirtual 295, 3) := by decide +kernel
theorem dX11_proof_21 : decode cX11_proof 21 = .ok (.ifCond .ne 5, 3) := by decide +kernel
theorem dX11_proof_24 : decode cX11_proof 24 = .ok (.iconst 0, 1) := by decide +kernel
theorem dX11_proof_25 : decode cX11_proof 25 = .ok (.ireturn, 1) := by decide +kernel
theorem dX11_proof_26 : decode cX11_proof 26 = .ok (.iconst 1, 1) := by decide +kernel
theorem dX11_proof_27 : decode cX11_proof 27 = .ok (.istore_n 1, 1) := by decide +kernel
theorem dX11_proof_28 : decode cX11_proof 28 = .ok (.iload_n 1, 1) := by decide +kernel
theorem dX11_proof_29 : decode cX11_proof 29 = .ok (.aload_n 0, 1) := by decide +kernel
theorem dX11_proof_30 : decode cX11_proof 30 = .ok (.invokevirtual 91, 3) := by decide +kernel
theorem dX11_proof_33 : decode cX11_proof 33 = .ok (.if_icmp .gt 66, 3) := by decide +kernel
theorem dX11_proof_36 : decode cX11_proof 36 = .ok (.iconst 0, 1) := by decide +kernel
theorem dX11_proof_37 : decode cX11_proof 37 = .ok (.istore_n 2, 1) := by decide +kernel
theorem dX11_proof_38 : decode cX11_proof 38 = .ok (.iload_n 2, 1) := by decide +kernel
theorem dX11_proof_39 : decode cX11_proof 39 = .ok (.iload_n 1, 1) := by decide +kernel
theorem dX11_proof_40 : decode cX11_proof 40 = .ok (.if_icmp .ge 16, 3) := by decide +kernel
theorem dX11_proof_43 : decode cX11_proof 43 = .ok (.aload_n 0, 1) := by decide +kernel
theorem dX11_proof_44 : decode cX11_proof 44 = .ok (.getfield 55, 3) := by decide +kernel
theorem dX11_proof_47 : decode cX11_proof 47 = .ok (.iload_n 2, 1) := by decide +kernel
theorem dX11_proof_48 : decode cX11_proof 48 = .ok (.iload_n 2, 1) := by decide +kernel
theorem dX11_proof_49 : decode cX11_proof 49 = .ok (.iastore, 1) := by decide +kernel
theorem dX11_proof_50 : decode cX11_proof 50 = .ok (.iinc 2 1, 3) := by decide +kernel
theorem dX11_proof_53 : decode cX11_proof 53 = .ok (.goto (-15), 3) := by decide +kernel
theorem dX11_proof_56 : decode cX11_proof 56 = .ok (.iconst 1, 1) := by decide +kernel
theorem dX11_proof_57 : decode cX11_proof 57 = .ok (.istore_n 2, 1) := by decide +kernel
theorem dX11_proof_58 : decode cX11_proof 58 = .ok (.iload_n 2, 1) := by decide +kernel
theorem dX11_proof_59 : decode cX11_proof 59 = .ok (.ifCond .eq 34, 3) := by decide +kernel
theorem dX11_proof_62 : decode cX11_proof 62 = .ok (.aload_n 0, 1) := by decide +kernel
theorem dX11_proof_63 : decode cX11_proof 63 = .ok (.aload_n 0, 1) := by decide +kernel
theorem dX11_proof_64 : decode cX11_proof 64 = .ok (.iload_n 1, 1) := by decide +kernel
theorem dX11_proof_65 : decode cX11_proof 65 = .ok (.invokevirtual 298, 3) := by decide +kernel
theorem dX11_proof_68 : decode cX11_proof 68 = .ok (.invokevirtual 295, 3) := by decide +kernel
theorem dX11_proof_71 : decode cX11_proof 71 = .ok (.ifCond .eq 9, 3) := by decide +kernel
theorem dX11_proof_74 : decode cX11_proof 74 = .ok (.aload_n 0, 1) := by decide +kernel
theorem dX11_proof_75 : decode cX11_proof 75 = .ok (.iload_n 1, 1) := by decide +kernel
theorem dX11_proof_76 : decode cX11_proof 76 = .ok (.invokevirtual 298, 3) := by decide +kernel
theorem dX11_proof_79 : decode cX11_proof 79 = .ok (.ireturn, 1) := by decide +kernel
theorem dX11_proof_80 : decode cX11_proof 80 = .ok (.aload_n 0, 1) := by decide +kernel
theorem dX11_proof_81 : decode cX11_proof 81 = .ok (.iload_n 1, 1) := by decide +kernel
theorem dX11_proof_82 : decode cX11_proof 82 = .ok (.aload_n 0, 1) := by decide +kernel
theorem dX11_proof_83 : decode cX11_proof 83 = .ok (.invokevirtual 91, 3) := by decide +kernel
theorem dX11_proof_86 : decode cX11_proof 86 = .ok (.invokevirtual 301, 3) := by decide +kernel
theorem dX11_proof_89 : decode cX11_proof 89 = .ok (.istore_n 2, 1) := by decide +kernel
theorem dX11_proof_90 : decode cX11_proof 90 = .ok (.goto (-32), 3) := by decide +kernel
theorem dX11_proof_93 : decode cX11_proof 93 = .ok (.iinc 1 1, 3) := by decide +kernel
theorem dX11_proof_96 : decode cX11_proof 96 = .ok (.goto (-68), 3) := by decide +kernel
theorem dX11_proof_99 : decode cX11_proof 99 = .ok (.iconst 0, 1) := by decide +kernel
theorem dX11_proof_100 : decode cX11_proof 100 = .ok (.ireturn, 1) := by decide +kernel
def VX11_proof_58 (d : Nat) (c28 : Nat → Int → MS → Prop) (Q : Out → MS → Prop) : Nat → Nat → Int → Int → MS → Prop
  | 0, _, _, _, _ => False
  | n + 1, x0, x1, x2, S => R32 x2 ∧ ((x2 = 0) → c28 x0 (x1 + 1) S) ∧ (¬ (x2 = 0) → S.K x0 = 11 ∧ Mw hX11_chosenBits yX11_chosenBits d [vA x0, vI x1] S (oI (fun r1 S1 => S1.K x0 = 11 ∧ Mw hX11_isAgainst yX11_isAgainst d [vA x0, vI r1] S1 (oI (fun r2 S2 => R32 r2 ∧ ((r2 = 0) → S2.K x0 = 11 ∧ Mw hX11_notes yX11_notes d [vA x0] S2 (oI (fun r3 S3 => S3.K x0 = 11 ∧ Mw hX11_chooses yX11_chooses d [vA x0, vI x1, vI r3] S3 (oI (fun r4 S4 => (VX11_proof_58 d c28 Q n) x0 x1 r4 S4))))) ∧ (¬ (r2 = 0) → S2.K x0 = 11 ∧ Mw hX11_chosenBits yX11_chosenBits d [vA x0, vI x1] S2 (oI (fun r5 S5 => Q (.inl (some (vI r5))) S5))))))))
theorem JX11_proof_58 {d : Nat} {c28 : Nat → Int → MS → Prop} {S0 : MS} {Q : Out → MS → Prop} (hc28 : ∀ (x0 : Nat) (x1 : Int) (S : MS), c28 x0 x1 S → Jw FinM RX11 cX11_proof 3 (some .int) [] yX11_proof (d + 1) S0 S 28 [(0, vA x0), (1, vI x1)] [] Q) : ∀ (n : Nat) (x0 : Nat) (x1 : Int) (x2 : Int) (S : MS), VX11_proof_58 d c28 Q n x0 x1 x2 S → Jw FinM RX11 cX11_proof 3 (some .int) [] yX11_proof (d + 1) S0 S 58 [(0, vA x0), (1, vI x1), (2, vI x2)] [] Q := by
  intro n
  induction n with
  | zero => intro x0 x1 x2 S h; exact h.elim
  | succ n ih =>
    intro x0 x1 x2 S h
    exact j_iload_n 2 dX11_proof_58 rfl (j_if_eq (tgt := 93) dX11_proof_59 (by decide) h (fun h => j_iinc 1 (lv2 := [(1, vI (x1 + 1)), (0, vA x0), (2, vI x2)]) dX11_proof_93 rfl (by decide) rfl (j_goto (tgt := 28) dX11_proof_96 (by decide) (j_sub [1, 0] rfl (hc28 _ _ _ h)))) (fun h => j_aload_n 0 dX11_proof_62 rfl (j_aload_n 0 dX11_proof_63 rfl (j_iload_n 1 dX11_proof_64 rfl (j_callV (rest := [vA x0]) 11 [vI x1] k_RX11_298 ⟨w_8_134, p_6_3⟩ ⟨_, _, rfl⟩ (by decide) rfl rfl (Nat.le_of_ble_eq_true rfl) dX11_proof_65 h (kI (fun r1 S1 h => j_callV (rest := []) 11 [vI r1] k_RX11_295 ⟨w_8_178, p_6_10⟩ ⟨_, _, rfl⟩ (by decide) rfl rfl (Nat.le_of_ble_eq_true rfl) dX11_proof_68 h (kI (fun r2 S2 h => j_if_eq (tgt := 80) dX11_proof_71 (by decide) h (fun h => j_aload_n 0 dX11_proof_80 rfl (j_iload_n 1 dX11_proof_81 rfl (j_aload_n 0 dX11_proof_82 rfl (j_callV (rest := [vI x1, vA x0]) 11 [] k_RX11_91 ⟨w_7_202, p_4_8⟩ ⟨_, _, rfl⟩ (by decide) rfl rfl (Nat.le_of_ble_eq_true rfl) dX11_proof_83 h (kI (fun r3 S3 h => j_callV (rest := []) 11 [vI x1, vI r3] k_RX11_301 ⟨w_8_138, p_6_4⟩ ⟨_, _, rfl⟩ (by decide) rfl rfl (Nat.le_of_ble_eq_true rfl) dX11_proof_86 h (kI (fun r4 S4 h => j_istore_n (lv2 := [(2, vI r4), (0, vA x0), (1, vI x1)]) dX11_proof_89 (by decide) rfl (j_goto (tgt := 58) dX11_proof_90 (by decide) (j_sub [1, 2, 0] rfl (ih _ _ _ _ h))))) (fun _ _ h => h.elim))) (fun _ _ h => h.elim))))) (fun h => j_aload_n 0 dX11_proof_74 rfl (j_iload_n 1 dX11_proof_75 rfl (j_callV (rest := []) 11 [vI x1] k_RX11_298 ⟨w_8_134, p_6_3⟩ ⟨_, _, rfl⟩ (by decide) rfl rfl (Nat.le_of_ble_eq_true rfl) dX11_proof_76 h (kI (fun r5 S5 h => j_iret rfl dX11_proof_79 h)) (fun _ _ h => h.elim)))))) (fun _ _ h => h.elim))) (fun _ _ h => h.elim))))))
def VX11_proof_38 (d : Nat) (c28 : Nat → Int → MS → Prop) (Q : Out → MS → Prop) : Nat → Nat → Int → Int → MS → Prop
  | 0, _, _, _, _ => False
  | n + 1, x0, x1, x2, S => (R32 x2 ∧ R32 x1) ∧ ((x1 ≤ x2) → ∃ m, VX11_proof_58 d c28 Q m x0 x1 1 S) ∧ (¬ (x1 ≤ x2) → S.K x0 = 11 ∧ ∃ b1, S.R x0 21 = some b1 ∧ ((S.K b1 = 13 ∧ 0 ≤ x2 ∧ x2 < S.N b1) ∧ ((VX11_proof_38 d c28 Q n) x0 x1 (x2 + 1) (S.setI b1 (x2).toNat x2))))
theorem JX11_proof_38 {d : Nat} {c28 : Nat → Int → MS → Prop} {S0 : MS} {Q : Out → MS → Prop} (hc28 : ∀ (x0 : Nat) (x1 : Int) (S : MS), c28 x0 x1 S → Jw FinM RX11 cX11_proof 3 (some .int) [] yX11_proof (d + 1) S0 S 28 [(0, vA x0), (1, vI x1)] [] Q) : ∀ (n : Nat) (x0 : Nat) (x1 : Int) (x2 : Int) (S : MS), VX11_proof_38 d c28 Q n x0 x1 x2 S → Jw FinM RX11 cX11_proof 3 (some .int) [] yX11_proof (d + 1) S0 S 38 [(0, vA x0), (1, vI x1), (2, vI x2)] [] Q := by
  intro n
  induction n with
  | zero => intro x0 x1 x2 S h; exact h.elim
  | succ n ih =>
    intro x0 x1 x2 S h
    exact j_iload_n 2 dX11_proof_38 rfl (j_iload_n 1 dX11_proof_39 rfl (j_icmp_ge (tgt := 56) dX11_proof_40 (by decide) h (fun h => j_iconst dX11_proof_56 (j_istore_n (lv2 := [(2, vI 1), (0, vA x0), (1, vI x1)]) dX11_proof_57 (by decide) rfl (Exists.elim h (fun m h => j_sub [1, 2, 0] rfl (JX11_proof_58 hc28 m _ _ _ _ h))))) (fun h => j_aload_n 0 dX11_proof_43 rfl (j_getR 11 21 f_RX11_55 dX11_proof_44 h (fun b1 h => j_iload_n 2 dX11_proof_47 rfl (j_iload_n 2 dX11_proof_48 rfl (j_iast dX11_proof_49 h (fun h => j_iinc 2 (lv2 := [(2, vI (x2 + 1)), (0, vA x0), (1, vI x1)]) dX11_proof_50 rfl (by decide) rfl (j_goto (tgt := 38) dX11_proof_53 (by decide) (j_sub [1, 2, 0] rfl (ih _ _ _ _ h)))))))))))
def VX11_proof_28 (d : Nat) (Q : Out → MS → Prop) : Nat → Nat → Int → MS → Prop
  | 0, _, _, _ => False
  | n + 1, x0, x1, S => S.K x0 = 11 ∧ Mw hX11_notes yX11_notes d [vA x0] S (oI (fun r1 S1 => (R32 x1 ∧ R32 r1) ∧ ((r1 < x1) → Q (.inl (some (vI 0))) S1) ∧ (¬ (r1 < x1) → ∃ m, VX11_proof_38 d (VX11_proof_28 d Q n) Q m x0 x1 0 S1)))
theorem JX11_proof_28 {d : Nat} {S0 : MS} {Q : Out → MS → Prop} : ∀ (n : Nat) (x0 : Nat) (x1 : Int) (S : MS), VX11_proof_28 d Q n x0 x1 S → Jw FinM RX11 cX11_proof 3 (some .int) [] yX11_proof (d + 1) S0 S 28 [(0, vA x0), (1, vI x1)] [] Q := by
  intro n
  induction n with
  | zero => intro x0 x1 S h; exact h.elim
  | succ n ih =>
    intro x0 x1 S h
    exact j_iload_n 1 dX11_proof_28 rfl (j_aload_n 0 dX11_proof_29 rfl (j_callV (rest := [vI x1]) 11 [] k_RX11_91 ⟨w_7_202, p_4_8⟩ ⟨_, _, rfl⟩ (by decide) rfl rfl (Nat.le_of_ble_eq_true rfl) dX11_proof_30 h (kI (fun r1 S1 h => j_icmp_gt (tgt := 99) dX11_proof_33 (by decide) h (fun h => j_iconst dX11_proof_99 (j_iret rfl dX11_proof_100 h)) (fun h => j_iconst dX11_proof_36 (j_istore_n (lv2 := [(2, vI 0), (0, vA x0), (1, vI x1)]) dX11_proof_37 (by decide) rfl (Exists.elim h (fun m h => j_sub [1, 2, 0] rfl (JX11_proof_38 ih m _ _ _ _ h))))))) (fun _ _ h => h.elim)))
def VX11_proof_0 (d : Nat) (Q : Out → MS → Prop) (x0 : Nat) (S : MS) : Prop :=
  S.K x0 = 11 ∧ ((S.setI x0 0 0).K x0 = 11 ∧ Mw hX11_finds yX11_finds d [vA x0] (S.setI x0 0 0) (oV (fun S1 => S1.K x0 = 11 ∧ Mw hX11_notes yX11_notes d [vA x0] S1 (oI (fun r2 S2 => S2.K x0 = 11 ∧ Mw hX11_isAgainst yX11_isAgainst d [vA x0, vI ((iShl 1 r2) - 1)] S2 (oI (fun r3 S3 => R32 r3 ∧ (¬ (r3 = 0) → ∃ m, VX11_proof_28 d Q m x0 1 S3) ∧ ((r3 = 0) → Q (.inl (some (vI 0))) S3))))))))
theorem JX11_proof_0 {d : Nat} {S0 : MS} {Q : Out → MS → Prop} (x0 : Nat) (S : MS) (h : VX11_proof_0 d Q x0 S) : Jw FinM RX11 cX11_proof 3 (some .int) [] yX11_proof (d + 1) S0 S 0 [(0, vA x0)] [] Q :=
  j_aload_n 0 dX11_proof_0 rfl (j_iconst dX11_proof_1 (j_putI 11 0 f_RX11_3 dX11_proof_2 h (fun h => j_aload_n 0 dX11_proof_5 rfl (j_callV (rest := []) 11 [] k_RX11_292 ⟨w_8_174, p_6_9⟩ ⟨_, _, rfl⟩ (by decide) rfl rfl (Nat.le_of_ble_eq_true rfl) dX11_proof_6 h (kV (fun S1 h => j_aload_n 0 dX11_proof_9 rfl (j_iconst dX11_proof_10 (j_aload_n 0 dX11_proof_11 rfl (j_callV (rest := [vI 1, vA x0]) 11 [] k_RX11_91 ⟨w_7_202, p_4_8⟩ ⟨_, _, rfl⟩ (by decide) rfl rfl (Nat.le_of_ble_eq_true rfl) dX11_proof_12 h (kI (fun r2 S2 h => j_ishl dX11_proof_15 (j_iconst dX11_proof_16 (j_isub dX11_proof_17 (j_callV (rest := []) 11 [vI ((iShl 1 r2) - 1)] k_RX11_295 ⟨w_8_178, p_6_10⟩ ⟨_, _, rfl⟩ (by decide) rfl rfl (Nat.le_of_ble_eq_true rfl) dX11_proof_18 h (kI (fun r3 S3 h => j_if_ne (tgt := 26) dX11_proof_21 (by decide) h (fun h => j_iconst dX11_proof_26 (j_istore_n (lv2 := [(1, vI 1), (0, vA x0)]) dX11_proof_27 (by decide) rfl (Exists.elim h (fun m h => j_sub [1, 0] rfl (JX11_proof_28 m _ _ _ h))))) (fun h => j_iconst dX11_proof_24 (j_iret rfl dX11_proof_25 h)))) (fun _ _ h => h.elim)))))) (fun _ _ h => h.elim)))))) (fun _ _ h => h.elim)))))
theorem MX11_proof {d : Nat} {x0 : Nat} {S : MS} {Q : Out → MS → Prop} (h : VX11_proof_0 d Q x0 S) : Mw hX11_proof yX11_proof (d + 1) [vA x0] S Q := Mw.ofJ (by decide) (Nat.le_of_ble_eq_true rfl) (JX11_proof_0 _ S h)
theorem dX11_hasRows_0 : decode cX11_hasRows 0 = .ok (.aload_n 0, 1) := by decide +kernel
theorem dX11_hasRows_1 : decode cX11_hasRows 1 = .ok (.invokevirtual 241, 3) := by decide +kernel
theorem dX11_hasRows_4 : decode cX11_hasRows 4 = .ok (.iconst 0, 1) := by decide +kernel
theorem dX11_hasRows_5 : decode cX11_hasRows 5 = .ok (.istore_n 2, 1) := by decide +kernel
theorem dX11_hasRows_6 : decode cX11_hasRows 6 = .ok (.iconst 0, 1) := by decide +kernel
theorem dX11_hasRows_7 : decode cX11_hasRows 7 = .ok (.istore_n 3, 1) := by decide +kernel
theorem dX11_hasRows_8 : decode cX11_hasRows 8 = .ok (.iload_n 3, 1) := by decide +kernel
theorem dX11_hasRows_9 : decode cX11_hasRows 9 = .ok (.aload_n 0, 1) := by decide +kernel
theorem dX11_hasRows_10 : decode cX11_hasRows 10 = .ok (.getfield 225, 3) := by decide +kernel
theorem dX11_hasRows_13 : decode cX11_hasRows 13 = .ok (.if_icmp .ge 20, 3) := by decide +kernel
theorem dX11_hasRows_16 : decode cX11_hasRows 16 = .ok (.iload_n 2, 1) := by decide +kernel
theorem dX11_hasRows_17 : decode cX11_hasRows 17 = .ok (.ifCond .ne 16, 3) := by decide +kernel
theorem dX11_hasRows_20 : decode cX11_hasRows 20 = .ok (.aload_n 0, 1) := by decide +kernel
theorem dX11_hasRows_21 : decode cX11_hasRows 21 = .ok (.iload_n 3, 1) := by decide +kernel
theorem dX11_hasRows_22 : decode cX11_hasRows 22 = .ok (.iload_n 1, 1) := by decide +kernel
theorem dX11_hasRows_23 : decode cX11_hasRows 23 = .ok (.invokevirtual 244, 3) := by decide +kernel
theorem dX11_hasRows_26 : decode cX11_hasRows 26 = .ok (.istore_n 2, 1) := by decide +kernel
theorem dX11_hasRows_27 : decode cX11_hasRows 27 = .ok (.iinc 3 1, 3) := by decide +kernel
theorem dX11_hasRows_30 : decode cX11_hasRows 30 = .ok (.goto (-22), 3) := by decide +kernel
theorem dX11_hasRows_33 : decode cX11_hasRows 33 = .ok (.iload_n 2, 1) := by decide +kernel
theorem dX11_hasRows_34 : decode cX11_hasRows 34 = .ok (.ireturn, 1) := by decide +kernel
def VX11_hasRows_33 (d : Nat) (Q : Out → MS → Prop) (x2 : Int) (S : MS) : Prop :=
  B01 x2 ∧ Q (.inl (some (vI x2))) S
theorem JX11_hasRows_33 {d : Nat} {S0 : MS} {Q : Out → MS → Prop} (x2 : Int) (S : MS) (h : VX11_hasRows_33 d Q x2 S) : Jw FinM RX11 cX11_hasRows 4 (some .boolean) [] yX11_hasRows (d + 1) S0 S 33 [(2, vI x2)] [] Q :=
  j_iload_n 0 dX11_hasRows_33 rfl (j_zret rfl dX11_hasRows_34 h)
def VX11_hasRows_8 (d : Nat) (Q : Out → MS → Prop) : Nat → Nat → Int → Int → Int → MS → Prop
  | 0, _, _, _, _, _ => False
  | n + 1, x0, x1, x2, x3, S => S.K x0 = 11 ∧ ((R32 x3 ∧ R32 (S.I x0 13)) ∧ (((S.I x0 13) ≤ x3) → VX11_hasRows_33 d Q x2 S) ∧ (¬ ((S.I x0 13) ≤ x3) → R32 x2 ∧ (¬ (x2 = 0) → VX11_hasRows_33 d Q x2 S) ∧ ((x2 = 0) → S.K x0 = 11 ∧ Mw hX11_fitsAll yX11_fitsAll d [vA x0, vI x3, vI x1] S (oI (fun r1 S1 => (VX11_hasRows_8 d Q n) x0 x1 r1 (x3 + 1) S1)))))
theorem JX11_hasRows_8 {d : Nat} {S0 : MS} {Q : Out → MS → Prop} : ∀ (n : Nat) (x0 : Nat) (x1 : Int) (x2 : Int) (x3 : Int) (S : MS), VX11_hasRows_8 d Q n x0 x1 x2 x3 S → Jw FinM RX11 cX11_hasRows 4 (some .boolean) [] yX11_hasRows (d + 1) S0 S 8 [(0, vA x0), (1, vI x1), (2, vI x2), (3, vI x3)] [] Q := by
  intro n
  induction n with
  | zero => intro x0 x1 x2 x3 S h; exact h.elim
  | succ n ih =>
    intro x0 x1 x2 x3 S h
    exact j_iload_n 3 dX11_hasRows_8 rfl (j_aload_n 0 dX11_hasRows_9 rfl (j_getI 11 13 f_RX11_225 dX11_hasRows_10 h (fun h => j_icmp_ge (tgt := 33) dX11_hasRows_13 (by decide) h (fun h => j_sub [2] rfl (JX11_hasRows_33 _ _ h)) (fun h => j_iload_n 2 dX11_hasRows_16 rfl (j_if_ne (tgt := 33) dX11_hasRows_17 (by decide) h (fun h => j_sub [2] rfl (JX11_hasRows_33 _ _ h)) (fun h => j_aload_n 0 dX11_hasRows_20 rfl (j_iload_n 3 dX11_hasRows_21 rfl (j_iload_n 1 dX11_hasRows_22 rfl (j_callV (rest := []) 11 [vI x3, vI x1] k_RX11_244 ⟨w_8_54, p_5_7⟩ ⟨_, _, rfl⟩ (by decide) rfl rfl (Nat.le_of_ble_eq_true rfl) dX11_hasRows_23 h (kI (fun r1 S1 h => j_istore_n (lv2 := [(2, vI r1), (0, vA x0), (1, vI x1), (3, vI x3)]) dX11_hasRows_26 (by decide) rfl (j_iinc 3 (lv2 := [(3, vI (x3 + 1)), (2, vI r1), (0, vA x0), (1, vI x1)]) dX11_hasRows_27 rfl (by decide) rfl (j_goto (tgt := 8) dX11_hasRows_30 (by decide) (j_sub [2, 3, 1, 0] rfl (ih _ _ _ _ _ h)))))) (fun _ _ h => h.elim))))))))))
def VX11_hasRows_0 (d : Nat) (Q : Out → MS → Prop) (x0 : Nat) (x1 : Int) (S : MS) : Prop :=
  S.K x0 = 11 ∧ Mw hX11_fills yX11_fills d [vA x0] S (oV (fun S1 => ∃ m, VX11_hasRows_8 d Q m x0 x1 0 0 S1))
theorem JX11_hasRows_0 {d : Nat} {S0 : MS} {Q : Out → MS → Prop} (x0 : Nat) (x1 : Int) (S : MS) (h : VX11_hasRows_0 d Q x0 x1 S) : Jw FinM RX11 cX11_hasRows 4 (some .boolean) [] yX11_hasRows (d + 1) S0 S 0 [(0, vA x0), (1, vI x1)] [] Q :=
  j_aload_n 0 dX11_hasRows_0 rfl (j_callV (rest := []) 11 [] k_RX11_241 ⟨w_8_46, p_5_5⟩ ⟨_, _, rfl⟩ (by decide) rfl rfl (Nat.le_of_ble_eq_true rfl) dX11_hasRows_1 h (kV (fun S1 h => j_iconst dX11_hasRows_4 (j_istore_n (lv2 := [(2, vI 0), (0, vA x0), (1, vI x1)]) dX11_hasRows_5 (by decide) rfl (j_iconst dX11_hasRows_6 (j_istore_n (lv2 := [(3, vI 0), (2, vI 0), (0, vA x0), (1, vI x1)]) dX11_hasRows_7 (by decide) rfl (Exists.elim h (fun m h => j_sub [2, 3, 1, 0] rfl (JX11_hasRows_8 m _ _ _ _ _ h)))))))) (fun _ _ h => h.elim))
theorem MX11_hasRows {d : Nat} {x0 : Nat} {x1 : Int} {S : MS} {Q : Out → MS → Prop} (h : VX11_hasRows_0 d Q x0 x1 S) : Mw hX11_hasRows yX11_hasRows (d + 1) [vA x0, vI x1] S Q := Mw.ofJ (by decide) (Nat.le_of_ble_eq_true rfl) (JX11_hasRows_0 _ _ S h)
theorem dX11_wrongly_0 : decode cX11_wrongly 0 = .ok (.aload_n 0, 1) := by decide +kernel
theorem dX11_wrongly_1 : decode cX11_wrongly 1 = .ok (.iconst 0, 1) := by decide +kernel
theorem dX11_wrongly_2 : decode cX11_wrongly 2 = .ok (.putfield 3, 3) := by decide +kernel
theorem dX11_wrongly_5 : decode cX11_wrongly 5 = .ok (.iconst 0, 1) := by decide +kernel
theorem dX11_wrongly_6 : decode cX11_wrongly 6 = .ok (.istore_n 1, 1) := by decide +kernel
theorem dX11_wrongly_7 : decode cX11_wrongly 7 = .ok (.iconst 0, 1) := by decide +kernel
theorem dX11_wrongly_8 : decode cX11_wrongly 8 = .ok (.istore_n 2, 1) := by decide +kernel
theorem dX11_wrongly_9 : decode cX11_wrongly 9 = .ok (.iload_n 2, 1) := by decide +kernel
theorem dX11_wrongly_10 : decode cX11_wrongly 10 = .ok (.aload_n 0, 1) := by decide +kernel
theorem dX11_wrongly_11 : decode cX11_wrongly 11 = .ok (.invokevirtual 91, 3) := by decide +kernel
theorem dX11_wrongly_14 : decode cX11_wrongly 14 = .ok (.if_icmp .ge 29, 3) := by decide +kernel
theorem dX11_wrongly_17 : decode cX11_wrongly 17 = .ok (.iload_n 1, 1) := by decide +kernel
theorem dX11_wrongly_18 : decode cX11_wrongly 18 = .ok (.aload_n 0, 1) := by decide +kernel
theorem dX11_wrongly_19 : decode cX11_wrongly 19 = .ok (.iconst 1, 1) := by decide +kernel
theorem dX11_wrongly_20 : decode cX11_wrongly 20 = .ok (.iload_n 2, 1) := by decide +kernel
theorem dX11_wrongly_21 : decode cX11_wrongly 21 = .ok (.ishl, 1) := by decide +kernel
theorem dX11_wrongly_22 : decode cX11_wrongly 22 = .ok (.invokevirtual 304, 3) := by decide +kernel
theorem dX11_wrongly_25 : decode cX11_wrongly 25 = .ok (.ifCond .eq 9, 3) := by decide +kernel
theorem dX11_wrongly_28 : decode cX11_wrongly 28 = .ok (.iconst 1, 1) := by decide +kernel
theorem dX11_wrongly_29 : decode cX11_wrongly 29 = .ok (.iload_n 2, 1) := by decide +kernel
theorem dX11_wrongly_30 : decode cX11_wrongly 30 = .ok (.ishl, 1) := by decide +kernel
theorem dX11_wrongly_31 : decode cX11_wrongly 31 = .ok (.goto 4, 3) := by decide +kernel
theorem dX11_wrongly_34 : decode cX11_wrongly 34 = .ok (.iconst 0, 1) := by decide +kernel
theorem dX11_wrongly_35 : decode cX11_wrongly 35 = .ok (.ior, 1) := by decide +kernel
theorem dX11_wrongly_36 : decode cX11_wrongly 36 = .ok (.istore_n 1, 1) := by decide +kernel
theorem dX11_wrongly_37 : decode cX11_wrongly 37 = .ok (.iinc 2 1, 3) := by decide +kernel
theorem dX11_wrongly_40 : decode cX11_wrongly 40 = .ok (.goto (-31), 3) := by decide +kernel
theorem dX11_wrongly_43 : decode cX11_wrongly 43 = .ok (.iload_n 1, 1) := by decide +kernel
theorem dX11_wrongly_44 : decode cX11_wrongly 44 = .ok (.ireturn, 1) := by decide +kernel
def VX11_wrongly_35 (d : Nat) (c9 : Nat → Int → Int → MS → Prop) (Q : Out → MS → Prop) (x0 : Nat) (x2 : Int) (t0 : Int) (t1 : Int) (S : MS) : Prop :=
  c9 x0 (iOr t1 t0) (x2 + 1) S
theorem JX11_wrongly_35 {d : Nat} {c9 : Nat → Int → Int → MS → Prop} {S0 : MS} {Q : Out → MS → Prop} (hc9 : ∀ (x0 : Nat) (x1 : Int) (x2 : Int) (S : MS), c9 x0 x1 x2 S → Jw FinM RX11 cX11_wrongly 3 (some .int) [] yX11_wrongly (d + 1) S0 S 9 [(0, vA x0), (1, vI x1), (2, vI x2)] [] Q) (x0 : Nat) (x2 : Int) (t0 : Int) (t1 : Int) (S : MS) (h : VX11_wrongly_35 d c9 Q x0 x2 t0 t1 S) : Jw FinM RX11 cX11_wrongly 3 (some .int) [] yX11_wrongly (d + 1) S0 S 35 [(0, vA x0), (2, vI x2)] [vI t0, vI t1] Q :=
  j_ior dX11_wrongly_35 (j_istore_n (lv2 := [(1, vI (iOr t1 t0)), (0, vA x0), (2, vI x2)]) dX11_wrongly_36 (by decide) rfl (j_iinc 2 (lv2 := [(2, vI (x2 + 1)), (1, vI (iOr t1 t0)), (0, vA x0)]) dX11_wrongly_37 rfl (by decide) rfl (j_goto (tgt := 9) dX11_wrongly_40 (by decide) (j_sub [2, 1, 0] rfl (hc9 _ _ _ _ h)))))
def VX11_wrongly_9 (d : Nat) (Q : Out → MS → Prop) : Nat → Nat → Int → Int → MS → Prop
  | 0, _, _, _, _ => False
  | n + 1, x0, x1, x2, S => S.K x0 = 11 ∧ Mw hX11_notes yX11_notes d [vA x0] S (oI (fun r1 S1 => (R32 x2 ∧ R32 r1) ∧ ((r1 ≤ x2) → Q (.inl (some (vI x1))) S1) ∧ (¬ (r1 ≤ x2) → S1.K x0 = 11 ∧ Mw hX11_hasRows yX11_hasRows d [vA x0, vI (iShl 1 x2)] S1 (oI (fun r2 S2 => R32 r2 ∧ ((r2 = 0) → VX11_wrongly_35 d (VX11_wrongly_9 d Q n) Q x0 x2 0 x1 S2) ∧ (¬ (r2 = 0) → VX11_wrongly_35 d (VX11_wrongly_9 d Q n) Q x0 x2 (iShl 1 x2) x1 S2))))))
theorem JX11_wrongly_9 {d : Nat} {S0 : MS} {Q : Out → MS → Prop} : ∀ (n : Nat) (x0 : Nat) (x1 : Int) (x2 : Int) (S : MS), VX11_wrongly_9 d Q n x0 x1 x2 S → Jw FinM RX11 cX11_wrongly 3 (some .int) [] yX11_wrongly (d + 1) S0 S 9 [(0, vA x0), (1, vI x1), (2, vI x2)] [] Q := by
  intro n
  induction n with
  | zero => intro x0 x1 x2 S h; exact h.elim
  | succ n ih =>
    intro x0 x1 x2 S h
    exact j_iload_n 2 dX11_wrongly_9 rfl (j_aload_n 0 dX11_wrongly_10 rfl (j_callV (rest := [vI x2]) 11 [] k_RX11_91 ⟨w_7_202, p_4_8⟩ ⟨_, _, rfl⟩ (by decide) rfl rfl (Nat.le_of_ble_eq_true rfl) dX11_wrongly_11 h (kI (fun r1 S1 h => j_icmp_ge (tgt := 43) dX11_wrongly_14 (by decide) h (fun h => j_iload_n 1 dX11_wrongly_43 rfl (j_iret rfl dX11_wrongly_44 h)) (fun h => j_iload_n 1 dX11_wrongly_17 rfl (j_aload_n 0 dX11_wrongly_18 rfl (j_iconst dX11_wrongly_19 (j_iload_n 2 dX11_wrongly_20 rfl (j_ishl dX11_wrongly_21 (j_callV (rest := [vI x1]) 11 [vI (iShl 1 x2)] k_RX11_304 ⟨w_8_190, p_6_11⟩ ⟨_, _, rfl⟩ (by decide) rfl rfl (Nat.le_of_ble_eq_true rfl) dX11_wrongly_22 h (kI (fun r2 S2 h => j_if_eq (tgt := 34) dX11_wrongly_25 (by decide) h (fun h => j_iconst dX11_wrongly_34 (j_sub [0, 2] rfl (JX11_wrongly_35 ih _ _ _ _ _ h))) (fun h => j_iconst dX11_wrongly_28 (j_iload_n 2 dX11_wrongly_29 rfl (j_ishl dX11_wrongly_30 (j_goto (tgt := 35) dX11_wrongly_31 (by decide) (j_sub [0, 2] rfl (JX11_wrongly_35 ih _ _ _ _ _ h)))))))) (fun _ _ h => h.elim))))))))) (fun _ _ h => h.elim)))
def VX11_wrongly_0 (d : Nat) (Q : Out → MS → Prop) (x0 : Nat) (S : MS) : Prop :=
  S.K x0 = 11 ∧ (∃ m, VX11_wrongly_9 d Q m x0 0 0 (S.setI x0 0 0))
theorem JX11_wrongly_0 {d : Nat} {S0 : MS} {Q : Out → MS → Prop} (x0 : Nat) (S : MS) (h : VX11_wrongly_0 d Q x0 S) : Jw FinM RX11 cX11_wrongly 3 (some .int) [] yX11_wrongly (d + 1) S0 S 0 [(0, vA x0)] [] Q :=
  j_aload_n 0 dX11_wrongly_0 rfl (j_iconst dX11_wrongly_1 (j_putI 11 0 f_RX11_3 dX11_wrongly_2 h (fun h => j_iconst dX11_wrongly_5 (j_istore_n (lv2 := [(1, vI 0), (0, vA x0)]) dX11_wrongly_6 (by decide) rfl (j_iconst dX11_wrongly_7 (j_istore_n (lv2 := [(2, vI 0), (1, vI 0), (0, vA x0)]) dX11_wrongly_8 (by decide) rfl (Exists.elim h (fun m h => j_sub [2, 1, 0] rfl (JX11_wrongly_9 m _ _ _ _ h)))))))))
theorem MX11_wrongly {d : Nat} {x0 : Nat} {S : MS} {Q : Out → MS → Prop} (h : VX11_wrongly_0 d Q x0 S) : Mw hX11_wrongly yX11_wrongly (d + 1) [vA x0] S Q := Mw.ofJ (by decide) (Nat.le_of_ble_eq_true rfl) (JX11_wrongly_0 _ S h)
theorem dX11_mends_0 : decode cX11_mends 0 = .ok (.aload_n 0, 1) := by decide +kernel
theorem dX11_mends_1 : decode cX11_mends 1 = .ok (.iconst 0, 1) := by decide +kernel
theorem dX11_mends_2 : decode cX11_mends 2 = .ok (.putfield 3, 3) := by decide +kernel
theorem dX11_mends_5 : decode cX11_mends 5 = .ok (.aload_n 0, 1) := by decide +kernel
theorem dX11_mends_6 : decode cX11_mends 6 = .ok (.aload_n 0, 1) := by decide +kernel
theorem dX11_mends_7 : decode cX11_mends 7 = .ok (.iload_n 1, 1) := by decide +kernel
theorem dX11_mends_8 : decode cX11_mends 8 = .ok (.invokevirtual 212, 3) := by decide +kernel
theorem dX11_mends_11 : decode cX11_mends 11 = .ok (.iconst 1, 1) := by decide +kernel
theorem dX11_mends_12 : decode cX11_mends 12 = .ok (.invokevirtual 190, 3) := by decide +kernel
theorem dX11_mends_15 : decode cX11_mends 15 = .ok (.ifCond .eq 5, 3) := by decide +kernel
theorem dX11_mends_18 : decode cX11_mends 18 = .ok (.iconst 0, 1) := by decide +kernel
theorem dX11_mends_19 : decode cX11_mends 19 = .ok (.ireturn, 1) := by decide +kernel
theorem dX11_mends_20 : decode cX11_mends 20 = .ok (.aload_n 0, 1) := by decide +kernel
theorem dX11_mends_21 : decode cX11_mends 21 = .ok (.iload_n 1, 1) := by decide +kernel
theorem dX11_mends_22 : decode cX11_mends 22 = .ok (.iconst 2, 1) := by decide +kernel
theorem dX11_mends_23 : decode cX11_mends 23 = .ok (.invokevirtual 215, 3) := by decide +kernel
theorem dX11_mends_26 : decode cX11_mends 26 = .ok (.istore_n 2, 1) := by decide +kernel
theorem dX11_mends_27 : decode cX11_mends 27 = .ok (.iconst 0, 1) := by decide +kernel
theorem dX11_mends_28 : decode cX11_mends 28 = .ok (.istore_n 3, 1) := by decide +kernel
theorem dX11_mends_29 : decode cX11_mends 29 = .ok (.iconst 0, 1) := by decide +kernel
theorem dX11_mends_30 : decode cX11_mends 30 = .ok (.istore 4, 2) := by decide +kernel
theorem dX11_mends_32 : decode cX11_mends 32 = .ok (.iload 4, 2) := by decide +kernel
theorem dX11_mends_34 : decode cX11_mends 34 = .ok (.aload_n 0, 1) := by decide +kernel
theorem dX11_mends_35 : decode cX11_mends 35 = .ok (.invokevirtual 83, 3) := by decide +kernel
theorem dX11_mends_38 : decode cX11_mends 38 = .ok (.if_icmp .ge 66, 3) := by decide +kernel
theorem dX11_mends_41 : decode cX11_mends 41 = .ok (.iload 4, 2) := by decide +kernel
theorem dX11_mends_43 : decode cX11_mends 43 = .ok (.iload_n 2, 1) := by decide +kernel
theorem dX11_mends_44 : decode cX11_mends 44 = .ok (.if_icmp .eq 54, 3) := by decide +kernel
theorem dX11_mends_47 : decode cX11_mends 47 = .ok (.aload_n 0, 1) := by decide +kernel
theorem dX11_mends_48 : decode cX11_mends 48 = .ok (.iload_n 1, 1) := by decide +kernel
theorem dX11_mends_49 : decode cX11_mends 49 = .ok (.iconst 1, 1) := by decide +kernel
theorem dX11_mends_50 : decode cX11_mends 50 = .ok (.invokevirtual 215, 3) := by decide +kernel
theorem dX11_mends_53 : decode cX11_mends 53 = .ok (.iload 4, 2) := by decide +kernel
theorem dX11_mends_55 : decode cX11_mends 55 = .ok (.ishr, 1) := by decide +kernel
theorem dX11_mends_56 : decode cX11_mends 56 = .ok (.iconst 1, 1) := by decide +kernel
theorem dX11_mends_57 : decode cX11_mends 57 = .ok (.iand, 1) := by decide +kernel
theorem dX11_mends_58 : decode cX11_mends 58 = .ok (.ifCond .ne 6, 3) := by decide +kernel
theorem dX11_mends_61 : decode cX11_mends 61 = .ok (.goto 37, 3) := by decide +kernel
theorem dX11_mends_64 : decode cX11_mends 64 = .ok (.aload_n 0, 1) := by decide +kernel
theorem dX11_mends_65 : decode cX11_mends 65 = .ok (.getfield 13, 3) := by decide +kernel
theorem dX11_mends_68 : decode cX11_mends 68 = .ok (.bipush 23, 2) := by decide +kernel
theorem dX11_mends_70 : decode cX11_mends 70 = .ok (.iconst 3, 1) := by decide +kernel
theorem dX11_mends_71 : decode cX11_mends 71 = .ok (.iload_n 1, 1) := by decide +kernel
theorem dX11_mends_72 : decode cX11_mends 72 = .ok (.imul, 1) := by decide +kernel
theorem dX11_mends_73 : decode cX11_mends 73 = .ok (.iadd, 1) := by decide +kernel
theorem dX11_mends_74 : decode cX11_mends 74 = .ok (.iconst 2, 1) := by decide +kernel
theorem dX11_mends_75 : decode cX11_mends 75 = .ok (.iadd, 1) := by decide +kernel
theorem dX11_mends_76 : decode cX11_mends 76 = .ok (.iload 4, 2) := by decide +kernel
theorem dX11_mends_78 : decode cX11_mends 78 = .ok (.iastore, 1) := by decide +kernel
theorem dX11_mends_79 : decode cX11_mends 79 = .ok (.iload_n 3, 1) := by decide +kernel
theorem dX11_mends_80 : decode cX11_mends 80 = .ok (.aload_n 0, 1) := by decide +kernel
theorem dX11_mends_81 : decode cX11_mends 81 = .ok (.iconst 0, 1) := by decide +kernel
theorem dX11_mends_82 : decode cX11_mends 82 = .ok (.invokevirtual 304, 3) := by decide +kernel
theorem dX11_mends_85 : decode cX11_mends 85 = .ok (.ifCond .eq 10, 3) := by decide +kernel
theorem dX11_mends_88 : decode cX11_mends 88 = .ok (.iconst 1, 1) := by decide +kernel
theorem dX11_mends_89 : decode cX11_mends 89 = .ok (.iload 4, 2) := by decide +kernel
theorem dX11_mends_91 : decode cX11_mends 91 = .ok (.ishl, 1) := by decide +kernel
theorem dX11_mends_92 : decode cX11_mends 92 = .ok (.goto 4, 3) := by decide +kernel
theorem dX11_mends_95 : decode cX11_mends 95 = .ok (.iconst 0, 1) := by decide +kernel
theorem dX11_mends_96 : decode cX11_mends 96 = .ok (.ior, 1) := by decide +kernel
theorem dX11_mends_97 : decode cX11_mends 97 = .ok (.istore_n 3, 1) := by decide +kernel
theorem dX11_mends_98 : decode cX11_mends 98 = .ok (.iinc 4 1, 3) := by decide +kernel
theorem dX11_mends_101 : decode cX11_mends 101 = .ok (.goto (-69), 3) := by decide +kernel
theorem dX11_mends_104 : decode cX11_mends 104 = .ok (.aload_n 0, 1) := by decide +kernel
theorem dX11_mends_105 : decode cX11_mends 105 = .ok (.getfield 13, 3) := by decide +kernel
theorem dX11_mends_108 : decode cX11_mends 108 = .ok (.bipush 23, 2) := by decide +kernel
theorem dX11_mends_110 : decode cX11_mends 110 = .ok (.iconst 3, 1) := by decide +kernel
theorem dX11_mends_111 : decode cX11_mends 111 = .ok (.iload_n 1, 1) := by decide +kernel
theorem dX11_mends_112 : decode cX11_mends 112 = .ok (.imul, 1) := by decide +kernel
theorem dX11_mends_113 : decode cX11_mends 113 = .ok (.iadd, 1) := by decide +kernel
theorem dX11_mends_114 : decode cX11_mends 114 = .ok (.iconst 2, 1) := by decide +kernel
theorem dX11_mends_115 : decode cX11_mends 115 = .ok (.iadd, 1) := by decide +kernel
theorem dX11_mends_116 : decode cX11_mends 116 = .ok (.iload_n 2, 1) := by decide +kernel
theorem dX11_mends_117 : decode cX11_mends 117 = .ok (.iastore, 1) := by decide +kernel
theorem dX11_mends_118 : decode cX11_mends 118 = .ok (.iload_n 3, 1) := by decide +kernel
theorem dX11_mends_119 : decode cX11_mends 119 = .ok (.ireturn, 1) := by decide +kernel
def VX11_mends_98 (d : Nat) (c32 : Nat → Int → Int → Int → Int → MS → Prop) (Q : Out → MS → Prop) (x0 : Nat) (x1 : Int) (x2 : Int) (x3 : Int) (x4 : Int) (S : MS) : Prop :=
  c32 x0 x1 x2 x3 (x4 + 1) S
theorem JX11_mends_98 {d : Nat} {c32 : Nat → Int → Int → Int → Int → MS → Prop} {S0 : MS} {Q : Out → MS → Prop} (hc32 : ∀ (x0 : Nat) (x1 : Int) (x2 : Int) (x3 : Int) (x4 : Int) (S : MS), c32 x0 x1 x2 x3 x4 S → Jw FinM RX11 cX11_mends 5 (some .int) [] yX11_mends (d + 1) S0 S 32 [(0, vA x0), (1, vI x1), (2, vI x2), (3, vI x3), (4, vI x4)] [] Q) (x0 : Nat) (x1 : Int) (x2 : Int) (x3 : Int) (x4 : Int) (S : MS) (h : VX11_mends_98 d c32 Q x0 x1 x2 x3 x4 S) : Jw FinM RX11 cX11_mends 5 (some .int) [] yX11_mends (d + 1) S0 S 98 [(0, vA x0), (1, vI x1), (2, vI x2), (3, vI x3), (4, vI x4)] [] Q :=
  j_iinc 4 (lv2 := [(4, vI (x4 + 1)), (0, vA x0), (1, vI x1), (2, vI x2), (3, vI x3)]) dX11_mends_98 rfl (by decide) rfl (j_goto (tgt := 32) dX11_mends_101 (by decide) (j_sub [1, 2, 3, 4, 0] rfl (hc32 _ _ _ _ _ _ h)))
def VX11_mends_96 (d : Nat) (c32 : Nat → Int → Int → Int → Int → MS → Prop) (Q : Out → MS → Prop) (x0 : Nat) (x1 : Int) (x2 : Int) (x4 : Int) (t0 : Int) (t1 : Int) (S : MS) : Prop :=
  VX11_mends_98 d c32 Q x0 x1 x2 (iOr t1 t0) x4 S
theorem JX11_mends_96 {d : Nat} {c32 : Nat → Int → Int → Int → Int → MS → Prop} {S0 : MS} {Q : Out → MS → Prop} (hc32 : ∀ (x0 : Nat) (x1 : Int) (x2 : Int) (x3 : Int) (x4 : Int) (S : MS), c32 x0 x1 x2 x3 x4 S → Jw FinM RX11 cX11_mends 5 (some .int) [] yX11_mends (d + 1) S0 S 32 [(0, vA x0), (1, vI x1), (2, vI x2), (3, vI x3), (4, vI x4)] [] Q) (x0 : Nat) (x1 : Int) (x2 : Int) (x4 : Int) (t0 : Int) (t1 : Int) (S : MS) (h : VX11_mends_96 d c32 Q x0 x1 x2 x4 t0 t1 S) : Jw FinM RX11 cX11_mends 5 (some .int) [] yX11_mends (d + 1) S0 S 96 [(0, vA x0), (1, vI x1), (2, vI x2), (4, vI x4)] [vI t0, vI t1] Q :=
  j_ior dX11_mends_96 (j_istore_n (lv2 := [(3, vI (iOr t1 t0)), (0, vA x0), (1, vI x1), (2, vI x2), (4, vI x4)]) dX11_mends_97 (by decide) rfl (j_sub [1, 2, 3, 0, 4] rfl (JX11_mends_98 hc32 _ _ _ _ _ _ h)))
def VX11_mends_32 (d : Nat) (Q : Out → MS → Prop) : Nat → Nat → Int → Int → Int → Int → MS → Prop
  | 0, _, _, _, _, _, _ => False
  | n + 1, x0, x1, x2, x3, x4, S => S.K x0 = 11 ∧ Mw hX11_things yX11_things d [vA x0] S (oI (fun r1 S1 => (R32 x4 ∧ R32 r1) ∧ ((r1 ≤ x4) → S1.K x0 = 11 ∧ ∃ b2, S1.R x0 1 = some b2 ∧ ((S1.K b2 = 13 ∧ 0 ≤ ((23 + (3 * x1)) + 2) ∧ ((23 + (3 * x1)) + 2) < S1.N b2) ∧ (Q (.inl (some (vI x3))) (S1.setI b2 (((23 + (3 * x1)) + 2)).toNat x2)))) ∧ (¬ (r1 ≤ x4) → (R32 x4 ∧ R32 x2) ∧ ((x4 = x2) → VX11_mends_98 d (VX11_mends_32 d Q n) Q x0 x1 x2 x3 x4 S1) ∧ (¬ (x4 = x2) → S1.K x0 = 11 ∧ Mw hX11_ofNote yX11_ofNote d [vA x0, vI x1, vI 1] S1 (oI (fun r3 S3 => R32 (iAnd (iShr r3 x4) 1) ∧ (¬ ((iAnd (iShr r3 x4) 1) = 0) → S3.K x0 = 11 ∧ ∃ b4, S3.R x0 1 = some b4 ∧ ((S3.K b4 = 13 ∧ 0 ≤ ((23 + (3 * x1)) + 2) ∧ ((23 + (3 * x1)) + 2) < S3.N b4) ∧ ((S3.setI b4 (((23 + (3 * x1)) + 2)).toNat x4).K x0 = 11 ∧ Mw hX11_hasRows yX11_hasRows d [vA x0, vI 0] (S3.setI b4 (((23 + (3 * x1)) + 2)).toNat x4) (oI (fun r5 S5 => R32 r5 ∧ ((r5 = 0) → VX11_mends_96 d (VX11_mends_32 d Q n) Q x0 x1 x2 x4 0 x3 S5) ∧ (¬ (r5 = 0) → VX11_mends_96 d (VX11_mends_32 d Q n) Q x0 x1 x2 x4 (iShl 1 x4) x3 S5)))))) ∧ (((iAnd (iShr r3 x4) 1) = 0) → VX11_mends_98 d (VX11_mends_32 d Q n) Q x0 x1 x2 x3 x4 S3)))))))
theorem JX11_mends_32 {d : Nat} {S0 : MS} {Q : Out → MS → Prop} : ∀ (n : Nat) (x0 : Nat) (x1 : Int) (x2 : Int) (x3 : Int) (x4 : Int) (S : MS), VX11_mends_32 d Q n x0 x1 x2 x3 x4 S → Jw FinM RX11 cX11_mends 5 (some .int) [] yX11_mends (d + 1) S0 S 32 [(0, vA x0), (1, vI x1), (2, vI x2), (3, vI x3), (4, vI x4)] [] Q := by
  intro n
  induction n with
  | zero => intro x0 x1 x2 x3 x4 S h; exact h.elim
  | succ n ih =>
    intro x0 x1 x2 x3 x4 S h
    exact j_iload 4 dX11_mends_32 rfl (j_aload_n 0 dX11_mends_34 rfl (j_callV (rest := [vI x4]) 11 [] k_RX11_83 ⟨w_7_218, p_4_10⟩ ⟨_, _, rfl⟩ (by decide) rfl rfl (Nat.le_of_ble_eq_true rfl) dX11_mends_35 h (kI (fun r1 S1 h => j_icmp_ge (tgt := 104) dX11_mends_38 (by decide) h (fun h => j_aload_n 0 dX11_mends_104 rfl (j_getR 11 1 f_RX11_13 dX11_mends_105 h (fun b2 h => j_bipush dX11_mends_108 rfl (j_iconst dX11_mends_110 (j_iload_n 1 dX11_mends_111 rfl (j_imul dX11_mends_112 (j_iadd dX11_mends_113 (j_iconst dX11_mends_114 (j_iadd dX11_mends_115 (j_iload_n 2 dX11_mends_116 rfl (j_iast dX11_mends_117 h (fun h => j_iload_n 3 dX11_mends_118 rfl (j_iret rfl dX11_mends_119 h))))))))))))) (fun h => j_iload 4 dX11_mends_41 rfl (j_iload_n 2 dX11_mends_43 rfl (j_icmp_eq (tgt := 98) dX11_mends_44 (by decide) h (fun h => JX11_mends_98 ih _ _ _ _ _ _ h) (fun h => j_aload_n 0 dX11_mends_47 rfl (j_iload_n 1 dX11_mends_48 rfl (j_iconst dX11_mends_49 (j_callV (rest := []) 11 [vI x1, vI 1] k_RX11_215 ⟨w_8_26, p_5_2⟩ ⟨_, _, rfl⟩ (by decide) rfl rfl (Nat.le_of_ble_eq_true rfl) dX11_mends_50 h (kI (fun r3 S3 h => j_iload 4 dX11_mends_53 rfl (j_ishr dX11_mends_55 (j_iconst dX11_mends_56 (j_iand dX11_mends_57 (j_if_ne (tgt := 64) dX11_mends_58 (by decide) h (fun h => j_aload_n 0 dX11_mends_64 rfl (j_getR 11 1 f_RX11_13 dX11_mends_65 h (fun b4 h => j_bipush dX11_mends_68 rfl (j_iconst dX11_mends_70 (j_iload_n 1 dX11_mends_71 rfl (j_imul dX11_mends_72 (j_iadd dX11_mends_73 (j_iconst dX11_mends_74 (j_iadd dX11_mends_75 (j_iload 4 dX11_mends_76 rfl (j_iast dX11_mends_78 h (fun h => j_iload_n 3 dX11_mends_79 rfl (j_aload_n 0 dX11_mends_80 rfl (j_iconst dX11_mends_81 (j_callV (rest := [vI x3]) 11 [vI 0] k_RX11_304 ⟨w_8_190, p_6_11⟩ ⟨_, _, rfl⟩ (by decide) rfl rfl (Nat.le_of_ble_eq_true rfl) dX11_mends_82 h (kI (fun r5 S5 h => j_if_eq (tgt := 95) dX11_mends_85 (by decide) h (fun h => j_iconst dX11_mends_95 (j_sub [0, 1, 2, 4] rfl (JX11_mends_96 ih _ _ _ _ _ _ _ h))) (fun h => j_iconst dX11_mends_88 (j_iload 4 dX11_mends_89 rfl (j_ishl dX11_mends_91 (j_goto (tgt := 96) dX11_mends_92 (by decide) (j_sub [0, 1, 2, 4] rfl (JX11_mends_96 ih _ _ _ _ _ _ _ h)))))))) (fun _ _ h => h.elim)))))))))))))))) (fun h => j_goto (tgt := 98) dX11_mends_61 (by decide) (JX11_mends_98 ih _ _ _ _ _ _ h)))))))) (fun _ _ h => h.elim)))))))))) (fun _ _ h => h.elim)))
def VX11_mends_0 (d : Nat) (Q : Out → MS → Prop) (x0 : Nat) (x1 : Int) (S : MS) : Prop :=
  S.K x0 = 11 ∧ ((S.setI x0 0 0).K x0 = 11 ∧ Mw hX11_noNote yX11_noNote d [vA x0, vI x1] (S.setI x0 0 0) (oI (fun r1 S1 => S1.K x0 = 11 ∧ Mw hX11_throwsIf yX11_throwsIf d [vA x0, vI r1, vI 1] S1 (oI (fun r2 S2 => R32 r2 ∧ ((r2 = 0) → S2.K x0 = 11 ∧ Mw hX11_ofNote yX11_ofNote d [vA x0, vI x1, vI 2] S2 (oI (fun r3 S3 => ∃ m, VX11_mends_32 d Q m x0 x1 r3 0 0 S3))) ∧ (¬ (r2 = 0) → Q (.inl (some (vI 0))) S2))))))
theorem JX11_mends_0 {d : Nat} {S0 : MS} {Q : Out → MS → Prop} (x0 : Nat) (x1 : Int) (S : MS) (h : VX11_mends_0 d Q x0 x1 S) : Jw FinM RX11 cX11_mends 5 (some .int) [] yX11_mends (d + 1) S0 S 0 [(0, vA x0), (1, vI x1)] [] Q :=
  j_aload_n 0 dX11_mends_0 rfl (j_iconst dX11_mends_1 (j_putI 11 0 f_RX11_3 dX11_mends_2 h (fun h => j_aload_n 0 dX11_mends_5 rfl (j_aload_n 0 dX11_mends_6 rfl (j_iload_n 1 dX11_mends_7 rfl (j_callV (rest := [vA x0]) 11 [vI x1] k_RX11_212 ⟨w_8_22, p_5_1⟩ ⟨_, _, rfl⟩ (by decide) rfl rfl (Nat.le_of_ble_eq_true rfl) dX11_mends_8 h (kI (fun r1 S1 h => j_iconst dX11_mends_11 (j_callV (rest := []) 11 [vI r1, vI 1] k_RX11_190 ⟨w_7_191, p_4_7⟩ ⟨_, _, rfl⟩ (by decide) rfl rfl (Nat.le_of_ble_eq_true rfl) dX11_mends_12 h (kI (fun r2 S2 h => j_if_eq (tgt := 20) dX11_mends_15 (by decide) h (fun h => j_aload_n 0 dX11_mends_20 rfl (j_iload_n 1 dX11_mends_21 rfl (j_iconst dX11_mends_22 (j_callV (rest := []) 11 [vI x1, vI 2] k_RX11_215 ⟨w_8_26, p_5_2⟩ ⟨_, _, rfl⟩ (by decide) rfl rfl (Nat.le_of_ble_eq_true rfl) dX11_mends_23 h (kI (fun r3 S3 h => j_istore_n (lv2 := [(2, vI r3), (0, vA x0), (1, vI x1)]) dX11_mends_26 (by decide) rfl (j_iconst dX11_mends_27 (j_istore_n (lv2 := [(3, vI 0), (2, vI r3), (0, vA x0), (1, vI x1)]) dX11_mends_28 (by decide) rfl (j_iconst dX11_mends_29 (j_istore (lv2 := [(4, vI 0), (3, vI 0), (2, vI r3), (0, vA x0), (1, vI x1)]) dX11_mends_30 (by decide) rfl (Exists.elim h (fun m h => j_sub [3, 4, 2, 1, 0] rfl (JX11_mends_32 m _ _ _ _ _ _ h))))))))) (fun _ _ h => h.elim))))) (fun h => j_iconst dX11_mends_18 (j_iret rfl dX11_mends_19 h)))) (fun _ _ h => h.elim)))) (fun _ _ h => h.elim)))))))
theorem MX11_mends {d : Nat} {x0 : Nat} {x1 : Int} {S : MS} {Q : Out → MS → Prop} (h : VX11_mends_0 d Q x0 x1 S) : Mw hX11_mends yX11_mends (d + 1) [vA x0, vI x1] S Q := Mw.ofJ (by decide) (Nat.le_of_ble_eq_true rfl) (JX11_mends_0 _ _ S h)
theorem dX11_needless_0 : decode cX11_needless 0 = .ok (.aload_n 0, 1) := by decide +kernel
theorem dX11_needless_1 : decode cX11_needless 1 = .ok (.iconst 0, 1) := by decide +kernel
theorem dX11_needless_2 : decode cX11_needless 2 = .ok (.putfield 3, 3) := by decide +kernel
theorem dX11_needless_5 : decode cX11_needless 5 = .ok (.aload_n 0, 1) := by decide +kernel
theorem dX11_needless_6 : decode cX11_needless 6 = .ok (.invokevirtual 253, 3) := by decide +kernel
theorem dX11_needless_9 : decode cX11_needless 9 = .ok (.iconst 0, 1) := by decide +kernel
theorem dX11_needless_10 : decode cX11_needless 10 = .ok (.istore_n 1, 1) := by decide +kernel
theorem dX11_needless_11 : decode cX11_needless 11 = .ok (.iconst 0, 1) := by decide +kernel
theorem dX11_needless_12 : decode cX11_needless 12 = .ok (.istore_n 2, 1) := by decide +kernel
theorem dX11_needless_13 : decode cX11_needless 13 = .ok (.iload_n 2, 1) := by decide +kernel
theorem dX11_needless_14 : decode cX11_needless 14 = .ok (.aload_n 0, 1) := by decide +kernel
theorem dX11_needless_15 : decode cX11_needless 15 = .ok (.invokevirtual 91, 3) := by decide +kernel
theorem dX11_needless_18 : decode cX11_needless 18 = .ok (.if_icmp .ge 69, 3) := by decide +kernel
theorem dX11_needless_21 : decode cX11_needless 21 = .ok (.iconst 0, 1) := by decide +kernel
theorem dX11_needless_22 : decode cX11_needless 22 = .ok (.istore_n 3, 1) := by decide +kernel
theorem dX11_needless_23 : decode cX11_needless 23 = .ok (.iconst 0, 1) := by decide +kernel
theorem dX11_needless_24 : decode cX11_needless 24 = .ok (.istore 4, 2) := by decide +kernel
theorem dX11_needless_26 : decode cX11_needless 26 = .ok (.iload 4, 2) := by decide +kernel
theorem dX11_needless_28 : decode cX11_needless 28 = .ok (.aload_n 0, 1) := by decide +kernel
theorem dX11_needless_29 : decode cX11_needless 29 = .ok (.getfield 225, 3) := by decide +kernel
theorem dX11_needless_32 : decode cX11_needless 32 = .ok (.if_icmp .ge 29, 3) := by decide +kernel
theorem dX11_needless_35 : decode cX11_needless 35 = .ok (.iload_n 3, 1) := by decide +kernel
theorem dX11_needless_36 : decode cX11_needless 36 = .ok (.aload_n 0, 1) := by decide +kernel
theorem dX11_needless_37 : decode cX11_needless 37 = .ok (.iload 4, 2) := by decide +kernel
theorem dX11_needless_39 : decode cX11_needless 39 = .ok (.iconst 1, 1) := by decide +kernel
theorem dX11_needless_40 : decode cX11_needless 40 = .ok (.iload_n 2, 1) := by decide +kernel
theorem dX11_needless_41 : decode cX11_needless 41 = .ok (.ishl, 1) := by decide +kernel
theorem dX11_needless_42 : decode cX11_needless 42 = .ok (.invokevirtual 244, 3) := by decide +kernel
theorem dX11_needless_45 : decode cX11_needless 45 = .ok (.ifCond .eq 7, 3) := by decide +kernel
theorem dX11_needless_48 : decode cX11_needless 48 = .ok (.iconst 1, 1) := by decide +kernel
theorem dX11_needless_49 : decode cX11_needless 49 = .ok (.goto 4, 3) := by decide +kernel
theorem dX11_needless_52 : decode cX11_needless 52 = .ok (.iconst 0, 1) := by decide +kernel
theorem dX11_needless_53 : decode cX11_needless 53 = .ok (.iadd, 1) := by decide +kernel
theorem dX11_needless_54 : decode cX11_needless 54 = .ok (.istore_n 3, 1) := by decide +kernel
theorem dX11_needless_55 : decode cX11_needless 55 = .ok (.iinc 4 1, 3) := by decide +kernel
theorem dX11_needless_58 : decode cX11_needless 58 = .ok (.goto (-32), 3) := by decide +kernel
theorem dX11_needless_61 : decode cX11_needless 61 = .ok (.iload_n 1, 1) := by decide +kernel
theorem dX11_needless_62 : decode cX11_needless 62 = .ok (.iload_n 3, 1) := by decide +kernel
theorem dX11_needless_63 : decode cX11_needless 63 = .ok (.aload_n 0, 1) := by decide +kernel
theorem dX11_needless_64 : decode cX11_needless 64 = .ok (.getfield 45, 3) := by decide +kernel
theorem dX11_needless_67 : decode cX11_needless 67 = .ok (.iconst 0, 1) := by decide +kernel
theorem dX11_needless_68 : decode cX11_needless 68 = .ok (.iaload, 1) := by decide +kernel
theorem dX11_needless_69 : decode cX11_needless 69 = .ok (.if_icmp .ne 9, 3) := by decide +kernel
theorem dX11_needless_72 : decode cX11_needless 72 = .ok (.iconst 1, 1) := by decide +kernel
theorem dX11_needless_73 : decode cX11_needless 73 = .ok (.iload_n 2, 1) := by decide +kernel
theorem dX11_needless_74 : decode cX11_needless 74 = .ok (.ishl, 1) := by decide +kernel
theorem dX11_needless_75 : decode cX11_needless 75 = .ok (.goto 4, 3) := by decide +kernel
theorem dX11_needless_78 : decode cX11_needless 78 = .ok (.iconst 0, 1) := by decide +kernel
theorem dX11_needless_79 : decode cX11_needless 79 = .ok (.ior, 1) := by decide +kernel
theorem dX11_needless_80 : decode cX11_needless 80 = .ok (.istore_n 1, 1) := by decide +kernel
theorem dX11_needless_81 : decode cX11_needless 81 = .ok (.iinc 2 1, 3) := by decide +kernel
theorem dX11_needless_84 : decode cX11_needless 84 = .ok (.goto (-71), 3) := by decide +kernel
theorem dX11_needless_87 : decode cX11_needless 87 = .ok (.iload_n 1, 1) := by decide +kernel
theorem dX11_needless_88 : decode cX11_needless 88 = .ok (.ireturn, 1) := by decide +kernel
def VX11_needless_53 (d : Nat) (c13 : Nat → Int → Int → MS → Prop) (c26 : Nat → Int → Int → Int → Int → MS → Prop) (Q : Out → MS → Prop) (x0 : Nat) (x1 : Int) (x2 : Int) (x4 : Int) (t0 : Int) (t1 : Int) (S : MS) : Prop :=
  c26 x0 x1 x2 (t1 + t0) (x4 + 1) S
theorem JX11_needless_53 {d : Nat} {c13 : Nat → Int → Int → MS → Prop} {c26 : Nat → Int → Int → Int → Int → MS → Prop} {S0 : MS} {Q : Out → MS → Prop} (hc13 : ∀ (x0 : Nat) (x1 : Int) (x2 : Int) (S : MS), c13 x0 x1 x2 S → Jw FinM RX11 cX11_needless 5 (some .int) [] yX11_needless (d + 1) S0 S 13 [(0, vA x0), (1, vI x1), (2, vI x2)] [] Q) (hc26 : ∀ (x0 : Nat) (x1 : Int) (x2 : Int) (x3 : Int) (x4 : Int) (S : MS), c26 x0 x1 x2 x3 x4 S → Jw FinM RX11 cX11_needless 5 (some .int) [] yX11_needless (d + 1) S0 S 26 [(0, vA x0), (1, vI x1), (2, vI x2), (3, vI x3), (4, vI x4)] [] Q) (x0 : Nat) (x1 : Int) (x2 : Int) (x4 : Int) (t0 : Int) (t1 : Int) (S : MS) (h : VX11_needless_53 d c13 c26 Q x0 x1 x2 x4 t0 t1 S) : Jw FinM RX11 cX11_needless 5 (some .int) [] yX11_needless (d + 1) S0 S 53 [(0, vA x0), (1, vI x1), (2, vI x2), (4, vI x4)] [vI t0, vI t1] Q :=
  j_iadd dX11_needless_53 (j_istore_n (lv2 := [(3, vI (t1 + t0)), (0, vA x0), (1, vI x1), (2, vI x2), (4, vI x4)]) dX11_needless_54 (by decide) rfl (j_iinc 4 (lv2 := [(4, vI (x4 + 1)), (3, vI (t1 + t0)), (0, vA x0), (1, vI x1), (2, vI x2)]) dX11_needless_55 rfl (by decide) rfl (j_goto (tgt := 26) dX11_needless_58 (by decide) (j_sub [2, 3, 4, 1, 0] rfl (hc26 _ _ _ _ _ _ h)))))
def VX11_needless_79 (d : Nat) (c13 : Nat → Int → Int → MS → Prop) (Q : Out → MS → Prop) (x0 : Nat) (x2 : Int) (t0 : Int) (t1 : Int) (S : MS) : Prop :=
  c13 x0 (iOr t1 t0) (x2 + 1) S
theorem JX11_needless_79 {d : Nat} {c13 : Nat → Int → Int → MS → Prop} {S0 : MS} {Q : Out → MS → Prop} (hc13 : ∀ (x0 : Nat) (x1 : Int) (x2 : Int) (S : MS), c13 x0 x1 x2 S → Jw FinM RX11 cX11_needless 5 (some .int) [] yX11_needless (d + 1) S0 S 13 [(0, vA x0), (1, vI x1), (2, vI x2)] [] Q) (x0 : Nat) (x2 : Int) (t0 : Int) (t1 : Int) (S : MS) (h : VX11_needless_79 d c13 Q x0 x2 t0 t1 S) : Jw FinM RX11 cX11_needless 5 (some .int) [] yX11_needless (d + 1) S0 S 79 [(0, vA x0), (2, vI x2)] [vI t0, vI t1] Q :=
  j_ior dX11_needless_79 (j_istore_n (lv2 := [(1, vI (iOr t1 t0)), (0, vA x0), (2, vI x2)]) dX11_needless_80 (by decide) rfl (j_iinc 2 (lv2 := [(2, vI (x2 + 1)), (1, vI (iOr t1 t0)), (0, vA x0)]) dX11_needless_81 rfl (by decide) rfl (j_goto (tgt := 13) dX11_needless_84 (by decide) (j_sub [2, 1, 0] rfl (hc13 _ _ _ _ h)))))
def VX11_needless_26 (d : Nat) (c13 : Nat → Int → Int → MS → Prop) (Q : Out → MS → Prop) : Nat → Nat → Int → Int → Int → Int → MS → Prop
  | 0, _, _, _, _, _, _ => False
  | n + 1, x0, x1, x2, x3, x4, S => S.K x0 = 11 ∧ ((R32 x4 ∧ R32 (S.I x0 13)) ∧ (((S.I x0 13) ≤ x4) → S.K x0 = 11 ∧ ∃ b1, S.R x0 17 = some b1 ∧ ((S.K b1 = 13 ∧ 0 ≤ (0 : Int) ∧ (0 : Int) < S.N b1) ∧ ((R32 x3 ∧ R32 (S.I b1 ((0 : Int)).toNat)) ∧ (¬ (x3 = (S.I b1 ((0 : Int)).toNat)) → VX11_needless_79 d c13 Q x0 x2 0 x1 S) ∧ ((x3 = (S.I b1 ((0 : Int)).toNat)) → VX11_needless_79 d c13 Q x0 x2 (iShl 1 x2) x1 S)))) ∧ (¬ ((S.I x0 13) ≤ x4) → S.K x0 = 11 ∧ Mw hX11_fitsAll yX11_fitsAll d [vA x0, vI x4, vI (iShl 1 x2)] S (oI (fun r2 S2 => R32 r2 ∧ ((r2 = 0) → VX11_needless_53 d c13 (VX11_needless_26 d c13 Q n) Q x0 x1 x2 x4 0 x3 S2) ∧ (¬ (r2 = 0) → VX11_needless_53 d c13 (VX11_needless_26 d c13 Q n) Q x0 x1 x2 x4 1 x3 S2)))))
theorem JX11_needless_26 {d : Nat} {c13 : Nat → Int → Int → MS → Prop} {S0 : MS} {Q : Out → MS → Prop} (hc13 : ∀ (x0 : Nat) (x1 : Int) (x2 : Int) (S : MS), c13 x0 x1 x2 S → Jw FinM RX11 cX11_needless 5 (some .int) [] yX11_needless (d + 1) S0 S 13 [(0, vA x0), (1, vI x1), (2, vI x2)] [] Q) : ∀ (n : Nat) (x0 : Nat) (x1 : Int) (x2 : Int) (x3 : Int) (x4 : Int) (S : MS), VX11_needless_26 d c13 Q n x0 x1 x2 x3 x4 S → Jw FinM RX11 cX11_needless 5 (some .int) [] yX11_needless (d + 1) S0 S 26 [(0, vA x0), (1, vI x1), (2, vI x2), (3, vI x3), (4, vI x4)] [] Q := by
  intro n
  induction n with
  | zero => intro x0 x1 x2 x3 x4 S h; exact h.elim
  | succ n ih =>
    intro x0 x1 x2 x3 x4 S h
    exact j_iload 4 dX11_needless_26 rfl (j_aload_n 0 dX11_needless_28 rfl (j_getI 11 13 f_RX11_225 dX11_needless_29 h (fun h => j_icmp_ge (tgt := 61) dX11_needless_32 (by decide) h (fun h => j_iload_n 1 dX11_needless_61 rfl (j_iload_n 3 dX11_needless_62 rfl (j_aload_n 0 dX11_needless_63 rfl (j_getR 11 17 f_RX11_45 dX11_needless_64 h (fun b1 h => j_iconst dX11_needless_67 (j_iald dX11_needless_68 h (fun h => j_icmp_ne (tgt := 78) dX11_needless_69 (by decide) h (fun h => j_iconst dX11_needless_78 (j_sub [0, 2] rfl (JX11_needless_79 hc13 _ _ _ _ _ h))) (fun h => j_iconst dX11_needless_72 (j_iload_n 2 dX11_needless_73 rfl (j_ishl dX11_needless_74 (j_goto (tgt := 79) dX11_needless_75 (by decide) (j_sub [0, 2] rfl (JX11_needless_79 hc13 _ _ _ _ _ h))))))))))))) (fun h => j_iload_n 3 dX11_needless_35 rfl (j_aload_n 0 dX11_needless_36 rfl (j_iload 4 dX11_needless_37 rfl (j_iconst dX11_needless_39 (j_iload_n 2 dX11_needless_40 rfl (j_ishl dX11_needless_41 (j_callV (rest := [vI x3]) 11 [vI x4, vI (iShl 1 x2)] k_RX11_244 ⟨w_8_54, p_5_7⟩ ⟨_, _, rfl⟩ (by decide) rfl rfl (Nat.le_of_ble_eq_true rfl) dX11_needless_42 h (kI (fun r2 S2 h => j_if_eq (tgt := 52) dX11_needless_45 (by decide) h (fun h => j_iconst dX11_needless_52 (j_sub [0, 1, 2, 4] rfl (JX11_needless_53 hc13 ih _ _ _ _ _ _ _ h))) (fun h => j_iconst dX11_needless_48 (j_goto (tgt := 53) dX11_needless_49 (by decide) (j_sub [0, 1, 2, 4] rfl (JX11_needless_53 hc13 ih _ _ _ _ _ _ _ h)))))) (fun _ _ h => h.elim)))))))))))
def VX11_needless_13 (d : Nat) (Q : Out → MS → Prop) : Nat → Nat → Int → Int → MS → Prop
  | 0, _, _, _, _ => False
  | n + 1, x0, x1, x2, S => S.K x0 = 11 ∧ Mw hX11_notes yX11_notes d [vA x0] S (oI (fun r1 S1 => (R32 x2 ∧ R32 r1) ∧ ((r1 ≤ x2) → Q (.inl (some (vI x1))) S1) ∧ (¬ (r1 ≤ x2) → ∃ m, VX11_needless_26 d (VX11_needless_13 d Q n) Q m x0 x1 x2 0 0 S1)))
theorem JX11_needless_13 {d : Nat} {S0 : MS} {Q : Out → MS → Prop} : ∀ (n : Nat) (x0 : Nat) (x1 : Int) (x2 : Int) (S : MS), VX11_needless_13 d Q n x0 x1 x2 S → Jw FinM RX11 cX11_needless 5 (some .int) [] yX11_needless (d + 1) S0 S 13 [(0, vA x0), (1, vI x1), (2, vI x2)] [] Q := by
  intro n
  induction n with
  | zero => intro x0 x1 x2 S h; exact h.elim
  | succ n ih =>
    intro x0 x1 x2 S h
    exact j_iload_n 2 dX11_needless_13 rfl (j_aload_n 0 dX11_needless_14 rfl (j_callV (rest := [vI x2]) 11 [] k_RX11_91 ⟨w_7_202, p_4_8⟩ ⟨_, _, rfl⟩ (by decide) rfl rfl (Nat.le_of_ble_eq_true rfl) dX11_needless_15 h (kI (fun r1 S1 h => j_icmp_ge (tgt := 87) dX11_needless_18 (by decide) h (fun h => j_iload_n 1 dX11_needless_87 rfl (j_iret rfl dX11_needless_88 h)) (fun h => j_iconst dX11_needless_21 (j_istore_n (lv2 := [(3, vI 0), (0, vA x0), (1, vI x1), (2, vI x2)]) dX11_needless_22 (by decide) rfl (j_iconst dX11_needless_23 (j_istore (lv2 := [(4, vI 0), (3, vI 0), (0, vA x0), (1, vI x1), (2, vI x2)]) dX11_needless_24 (by decide) rfl (Exists.elim h (fun m h => j_sub [2, 3, 4, 1, 0] rfl (JX11_needless_26 ih m _ _ _ _ _ _ h))))))))) (fun _ _ h => h.elim)))
def VX11_needless_0 (d : Nat) (Q : Out → MS → Prop) (x0 : Nat) (S : MS) : Prop :=
  S.K x0 = 11 ∧ ((S.setI x0 0 0).K x0 = 11 ∧ Mw hX11_leaves yX11_leaves d [vA x0] (S.setI x0 0 0) (oV (fun S1 => ∃ m, VX11_needless_13 d Q m x0 0 0 S1)))
theorem JX11_needless_0 {d : Nat} {S0 : MS} {Q : Out → MS → Prop} (x0 : Nat) (S : MS) (h : VX11_needless_0 d Q x0 S) : Jw FinM RX11 cX11_needless 5 (some .int) [] yX11_needless (d + 1) S0 S 0 [(0, vA x0)] [] Q :=
  j_aload_n 0 dX11_needless_0 rfl (j_iconst dX11_needless_1 (j_putI 11 0 f_RX11_3 dX11_needless_2 h (fun h => j_aload_n 0 dX11_needless_5 rfl (j_callV (rest := []) 11 [] k_RX11_253 ⟨w_8_42, p_5_4⟩ ⟨_, _, rfl⟩ (by decide) rfl rfl (Nat.le_of_ble_eq_true rfl) dX11_needless_6 h (kV (fun S1 h => j_iconst dX11_needless_9 (j_istore_n (lv2 := [(1, vI 0), (0, vA x0)]) dX11_needless_10 (by decide) rfl (j_iconst dX11_needless_11 (j_istore_n (lv2 := [(2, vI 0), (1, vI 0), (0, vA x0)]) dX11_needless_12 (by decide) rfl (Exists.elim h (fun m h => j_sub [2, 1, 0] rfl (JX11_needless_13 m _ _ _ _ h)))))))) (fun _ _ h => h.elim)))))
theorem MX11_needless {d : Nat} {x0 : Nat} {S : MS} {Q : Out → MS → Prop} (h : VX11_needless_0 d Q x0 S) : Mw hX11_needless yX11_needless (d + 1) [vA x0] S Q := Mw.ofJ (by decide) (Nat.le_of_ble_eq_true rfl) (JX11_needless_0 _ S h)
theorem dX11_stands_0 : decode cX11_stands 0 = .ok (.aload_n 0, 1) := by decide +kernel
theorem dX11_stands_1 : decode cX11_stands 1 = .ok (.iconst 0, 1) := by decide +kernel
theorem dX11_stands_2 : decode cX11_stands 2 = .ok (.putfield 3, 3) := by decide +kernel
theorem dX11_stands_5 : decode cX11_stands 5 = .ok (.aload_n 0, 1) := by decide +kernel
theorem dX11_stands_6 : decode cX11_stands 6 = .ok (.aload_n 0, 1) := by decide +kernel
theorem dX11_stands_7 : decode cX11_stands 7 = .ok (.iload_n 1, 1) := by decide +kernel
theorem dX11_stands_8 : decode cX11_stands 8 = .ok (.invokevirtual 194, 3) := by decide +kernel
theorem dX11_stands_11 : decode cX11_stands 11 = .ok (.iconst 1, 1) := by decide +kernel
theorem dX11_stands_12 : decode cX11_stands 12 = .ok (.invokevirtual 190, 3) := by decide +kernel
theorem dX11_stands_15 : decode cX11_stands 15 = .ok (.ifCond .eq 5, 3) := by decide +kernel
theorem dX11_stands_18 : decode cX11_stands 18 = .ok (.iconst 0, 1) := by decide +kernel
theorem dX11_stands_19 : decode cX11_stands 19 = .ok (.ireturn, 1) := by decide +kernel
theorem dX11_stands_20 : decode cX11_stands 20 = .ok (.aload_n 0, 1) := by decide +kernel
theorem dX11_stands_21 : decode cX11_stands 21 = .ok (.invokevirtual 253, 3) := by decide +kernel
theorem dX11_stands_24 : decode cX11_stands 24 = .ok (.iconst 0, 1) := by decide +kernel
theorem dX11_stands_25 : decode cX11_stands 25 = .ok (.istore_n 3, 1) := by decide +kernel
theorem dX11_stands_26 : decode cX11_stands 26 = .ok (.iconst 0, 1) := by decide +kernel
theorem dX11_stands_27 : decode cX11_stands 27 = .ok (.istore 4, 2) := by decide +kernel
theorem dX11_stands_29 : decode cX11_stands 29 = .ok (.iload 4, 2) := by decide +kernel
theorem dX11_stands_31 : decode cX11_stands 31 = .ok (.aload_n 0, 1) := by decide +kernel
theorem dX11_stands_32 : decode cX11_stands 32 = .ok (.getfield 45, 3) := by decide +kernel
theorem dX11_stands_35 : decode cX11_stands 35 = .ok (.iconst 0, 1) := by decide +kernel
theorem dX11_stands_36 : decode cX11_stands 36 = .ok (.iaload, 1) := by decide +kernel
theorem dX11_stands_37 : decode cX11_stands 37 = .ok (.if_icmp .ge 24, 3) := by decide +kernel
theorem dX11_stands_40 : decode cX11_stands 40 = .ok (.iload_n 3, 1) := by decide +kernel
theorem dX11_stands_41 : decode cX11_stands 41 = .ok (.aload_n 0, 1) := by decide +kernel
theorem dX11_stands_42 : decode cX11_stands 42 = .ok (.aload_n 0, 1) := by decide +kernel
theorem dX11_stands_43 : decode cX11_stands 43 = .ok (.iconst 0, 1) := by decide +kernel
theorem dX11_stands_44 : decode cX11_stands 44 = .ok (.iload 4, 2) := by decide +kernel
theorem dX11_stands_46 : decode cX11_stands 46 = .ok (.invokevirtual 247, 3) := by decide +kernel
theorem dX11_stands_49 : decode cX11_stands 49 = .ok (.iload_n 1, 1) := by decide +kernel
theorem dX11_stands_50 : decode cX11_stands 50 = .ok (.invokevirtual 262, 3) := by decide +kernel
theorem dX11_stands_53 : decode cX11_stands 53 = .ok (.iadd, 1) := by decide +kernel
theorem dX11_stands_54 : decode cX11_stands 54 = .ok (.istore_n 3, 1) := by decide +kernel
theorem dX11_stands_55 : decode cX11_stands 55 = .ok (.iinc 4 1, 3) := by decide +kernel
theorem dX11_stands_58 : decode cX11_stands 58 = .ok (.goto (-29), 3) := by decide +kernel
theorem dX11_stands_61 : decode cX11_stands 61 = .ok (.aload_n 0, 1) := by decide +kernel
theorem dX11_stands_62 : decode cX11_stands 62 = .ok (.getfield 45, 3) := by decide +kernel
theorem dX11_stands_65 : decode cX11_stands 65 = .ok (.iconst 0, 1) := by decide +kernel
theorem dX11_stands_66 : decode cX11_stands 66 = .ok (.iaload, 1) := by decide +kernel
theorem dX11_stands_67 : decode cX11_stands 67 = .ok (.ifCond .ne 5, 3) := by decide +kernel
theorem dX11_stands_70 : decode cX11_stands 70 = .ok (.iconst (-1), 1) := by decide +kernel
theorem dX11_stands_71 : decode cX11_stands 71 = .ok (.ireturn, 1) := by decide +kernel
theorem dX11_stands_72 : decode cX11_stands 72 = .ok (.aload_n 0, 1) := by decide +kernel
theorem dX11_stands_73 : decode cX11_stands 73 = .ok (.getfield 45, 3) := by decide +kernel
theorem dX11_stands_76 : decode cX11_stands 76 = .ok (.iconst 0, 1) := by decide +kernel
theorem dX11_stands_77 : decode cX11_stands 77 = .ok (.iaload, 1) := by decide +kernel
theorem dX11_stands_78 : decode cX11_stands 78 = .ok (.istore 4, 2) := by decide +kernel
theorem dX11_stands_80 : decode cX11_stands 80 = .ok (.iload_n 3, 1) := by decide +kernel
theorem dX11_stands_81 : decode cX11_stands 81 = .ok (.istore 5, 2) := by decide +kernel
theorem dX11_stands_83 : decode cX11_stands 83 = .ok (.iload 5, 2) := by decide +kernel
theorem dX11_stands_85 : decode cX11_stands 85 = .ok (.ifCond .le 21, 3) := by decide +kernel
theorem dX11_stands_88 : decode cX11_stands 88 = .ok (.iload 4, 2) := by decide +kernel
theorem dX11_stands_90 : decode cX11_stands 90 = .ok (.iload 5, 2) := by decide +kernel
theorem dX11_stands_92 : decode cX11_stands 92 = .ok (.irem, 1) := by decide +kernel
theorem dX11_stands_93 : decode cX11_stands 93 = .ok (.istore 6, 2) := by decide +kernel
theorem dX11_stands_95 : decode cX11_stands 95 = .ok (.iload 5, 2) := by decide +kernel
theorem dX11_stands_97 : decode cX11_stands 97 = .ok (.istore 4, 2) := by decide +kernel
theorem dX11_stands_99 : decode cX11_stands 99 = .ok (.iload 6, 2) := by decide +kernel
theorem dX11_stands_101 : decode cX11_stands 101 = .ok (.istore 5, 2) := by decide +kernel
theorem dX11_stands_103 : decode cX11_stands 103 = .ok (.goto (-20), 3) := by decide +kernel
theorem dX11_stands_106 : decode cX11_stands 106 = .ok (.iload_n 2, 1) := by decide +kernel
theorem dX11_stands_107 : decode cX11_stands 107 = .ok (.ifCond .eq 15, 3) := by decide +kernel
theorem dX11_stands_110 : decode cX11_stands 110 = .ok (.aload_n 0, 1) := by decide +kernel
theorem dX11_stands_111 : decode cX11_stands 111 = .ok (.getfield 45, 3) := by decide +kernel
theorem dX11_stands_114 : decode cX11_stands 114 = .ok (.iconst 0, 1) := by decide +kernel
theorem dX11_stands_115 : decode cX11_stands 115 = .ok (.iaload, 1) := by decide +kernel
theorem dX11_stands_116 : decode cX11_stands 116 = .ok (.iload 4, 2) := by decide +kernel
theorem dX11_stands_118 : decode cX11_stands 118 = .ok (.idiv, 1) := by decide +kernel
theorem dX11_stands_119 : decode cX11_stands 119 = .ok (.goto 7, 3) := by decide +kernel
theorem dX11_stands_122 : decode cX11_stands 122 = .ok (.iload_n 3, 1) := by decide +kernel
theorem dX11_stands_123 : decode cX11_stands 123 = .ok (.iload 4, 2) := by decide +kernel
theorem dX11_stands_125 : decode cX11_stands 125 = .ok (.idiv, 1) := by decide +kernel
theorem dX11_stands_126 : decode cX11_stands 126 = .ok (.ireturn, 1) := by decide +kernel
def VX11_stands_83 (d : Nat) (Q : Out → MS → Prop) : Nat → Nat → Int → Int → Int → Int → MS → Prop
  | 0, _, _, _, _, _, _ => False
  | n + 1, x0, x2, x3, x4, x5, S => R32 x5 ∧ ((x5 ≤ 0) → R32 x2 ∧ ((x2 = 0) → (R32 x4 ∧ x4 ≠ 0) ∧ (Q (.inl (some (vI (iDiv x3 x4)))) S)) ∧ (¬ (x2 = 0) → S.K x0 = 11 ∧ ∃ b1, S.R x0 17 = some b1 ∧ ((S.K b1 = 13 ∧ 0 ≤ (0 : Int) ∧ (0 : Int) < S.N b1) ∧ ((R32 x4 ∧ x4 ≠ 0) ∧ (Q (.inl (some (vI (iDiv (S.I b1 ((0 : Int)).toNat) x4)))) S))))) ∧ (¬ (x5 ≤ 0) → (R32 x5 ∧ x5 ≠ 0) ∧ ((VX11_stands_83 d Q n) x0 x2 x3 x5 (iRem x4 x5) S))
theorem JX11_stands_83 {d : Nat} {S0 : MS} {Q : Out → MS → Prop} : ∀ (n : Nat) (x0 : Nat) (x2 : Int) (x3 : Int) (x4 : Int) (x5 : Int) (S : MS), VX11_stands_83 d Q n x0 x2 x3 x4 x5 S → Jw FinM RX11 cX11_stands 7 (some .int) [] yX11_stands (d + 1) S0 S 83 [(0, vA x0), (2, vI x2), (3, vI x3), (4, vI x4), (5, vI x5)] [] Q := by
  intro n
  induction n with
  | zero => intro x0 x2 x3 x4 x5 S h; exact h.elim
  | succ n ih =>
    intro x0 x2 x3 x4 x5 S h
    exact j_iload 4 dX11_stands_83 rfl (j_if_le (tgt := 106) dX11_stands_85 (by decide) h (fun h => j_iload_n 1 dX11_stands_106 rfl (j_if_eq (tgt := 122) dX11_stands_107 (by decide) h (fun h => j_iload_n 2 dX11_stands_122 rfl (j_iload 3 dX11_stands_123 rfl (j_idiv dX11_stands_125 h (fun h => j_iret rfl dX11_stands_126 h)))) (fun h => j_aload_n 0 dX11_stands_110 rfl (j_getR 11 17 f_RX11_45 dX11_stands_111 h (fun b1 h => j_iconst dX11_stands_114 (j_iald dX11_stands_115 h (fun h => j_iload 3 dX11_stands_116 rfl (j_idiv dX11_stands_118 h (fun h => j_goto (tgt := 126) dX11_stands_119 (by decide) (j_iret rfl dX11_stands_126 h)))))))))) (fun h => j_iload 3 dX11_stands_88 rfl (j_iload 4 dX11_stands_90 rfl (j_irem dX11_stands_92 h (fun h => j_istore (lv2 := [(6, vI (iRem x4 x5)), (0, vA x0), (2, vI x2), (3, vI x3), (4, vI x4), (5, vI x5)]) dX11_stands_93 (by decide) rfl (j_iload 5 dX11_stands_95 rfl (j_istore (lv2 := [(4, vI x5), (6, vI (iRem x4 x5)), (0, vA x0), (2, vI x2), (3, vI x3), (5, vI x5)]) dX11_stands_97 (by decide) rfl (j_iload 1 dX11_stands_99 rfl (j_istore (lv2 := [(5, vI (iRem x4 x5)), (4, vI x5), (6, vI (iRem x4 x5)), (0, vA x0), (2, vI x2), (3, vI x3)]) dX11_stands_101 (by decide) rfl (j_goto (tgt := 83) dX11_stands_103 (by decide) (j_sub [3, 4, 5, 1, 0] rfl (ih _ _ _ _ _ _ h))))))))))))
def VX11_stands_29 (d : Nat) (Q : Out → MS → Prop) : Nat → Nat → Int → Int → Int → Int → MS → Prop
  | 0, _, _, _, _, _, _ => False
  | n + 1, x0, x1, x2, x3, x4, S => S.K x0 = 11 ∧ ∃ b1, S.R x0 17 = some b1 ∧ ((S.K b1 = 13 ∧ 0 ≤ (0 : Int) ∧ (0 : Int) < S.N b1) ∧ ((R32 x4 ∧ R32 (S.I b1 ((0 : Int)).toNat)) ∧ (((S.I b1 ((0 : Int)).toNat) ≤ x4) → S.K x0 = 11 ∧ ∃ b2, S.R x0 17 = some b2 ∧ ((S.K b2 = 13 ∧ 0 ≤ (0 : Int) ∧ (0 : Int) < S.N b2) ∧ (R32 (S.I b2 ((0 : Int)).toNat) ∧ (¬ ((S.I b2 ((0 : Int)).toNat) = 0) → S.K x0 = 11 ∧ ∃ b3, S.R x0 17 = some b3 ∧ ((S.K b3 = 13 ∧ 0 ≤ (0 : Int) ∧ (0 : Int) < S.N b3) ∧ (∃ m, VX11_stands_83 d Q m x0 x2 x3 (S.I b3 ((0 : Int)).toNat) x3 S))) ∧ (((S.I b2 ((0 : Int)).toNat) = 0) → Q (.inl (some (vI ((-1))))) S)))) ∧ (¬ ((S.I b1 ((0 : Int)).toNat) ≤ x4) → S.K x0 = 11 ∧ Mw hX11_rowAt yX11_rowAt d [vA x0, vI 0, vI x4] S (oI (fun r4 S4 => S4.K x0 = 11 ∧ Mw hX11_placeOf yX11_placeOf d [vA x0, vI r4, vI x1] S4 (oI (fun r5 S5 => (VX11_stands_29 d Q n) x0 x1 x2 (x3 + r5) (x4 + 1) S5)))))))
theorem JX11_stands_29 {d : Nat} {S0 : MS} {Q : Out → MS → Prop} : ∀ (n : Nat) (x0 : Nat) (x1 : Int) (x2 : Int) (x3 : Int) (x4 : Int) (S : MS), VX11_stands_29 d Q n x0 x1 x2 x3 x4 S → Jw FinM RX11 cX11_stands 7 (some .int) [] yX11_stands (d + 1) S0 S 29 [(0, vA x0), (1, vI x1), (2, vI x2), (3, vI x3), (4, vI x4)] [] Q := by
  intro n
  induction n with
  | zero => intro x0 x1 x2 x3 x4 S h; exact h.elim
  | succ n ih =>
    intro x0 x1 x2 x3 x4 S h
    exact j_iload 4 dX11_stands_29 rfl (j_aload_n 0 dX11_stands_31 rfl (j_getR 11 17 f_RX11_45 dX11_stands_32 h (fun b1 h => j_iconst dX11_stands_35 (j_iald dX11_stands_36 h (fun h => j_icmp_ge (tgt := 61) dX11_stands_37 (by decide) h (fun h => j_aload_n 0 dX11_stands_61 rfl (j_getR 11 17 f_RX11_45 dX11_stands_62 h (fun b2 h => j_iconst dX11_stands_65 (j_iald dX11_stands_66 h (fun h => j_if_ne (tgt := 72) dX11_stands_67 (by decide) h (fun h => j_aload_n 0 dX11_stands_72 rfl (j_getR 11 17 f_RX11_45 dX11_stands_73 h (fun b3 h => j_iconst dX11_stands_76 (j_iald dX11_stands_77 h (fun h => j_istore (lv2 := [(4, vI (S.I b3 ((0 : Int)).toNat)), (0, vA x0), (1, vI x1), (2, vI x2), (3, vI x3)]) dX11_stands_78 (by decide) rfl (j_iload_n 4 dX11_stands_80 rfl (j_istore (lv2 := [(5, vI x3), (4, vI (S.I b3 ((0 : Int)).toNat)), (0, vA x0), (1, vI x1), (2, vI x2), (3, vI x3)]) dX11_stands_81 (by decide) rfl (Exists.elim h (fun m h => j_sub [2, 4, 5, 1, 0] rfl (JX11_stands_83 m _ _ _ _ _ _ h)))))))))) (fun h => j_iconst dX11_stands_70 (j_iret rfl dX11_stands_71 h))))))) (fun h => j_iload_n 3 dX11_stands_40 rfl (j_aload_n 0 dX11_stands_41 rfl (j_aload_n 0 dX11_stands_42 rfl (j_iconst dX11_stands_43 (j_iload 4 dX11_stands_44 rfl (j_callV (rest := [vA x0, vI x3]) 11 [vI 0, vI x4] k_RX11_247 ⟨w_8_74, p_5_11⟩ ⟨_, _, rfl⟩ (by decide) rfl rfl (Nat.le_of_ble_eq_true rfl) dX11_stands_46 h (kI (fun r4 S4 h => j_iload_n 1 dX11_stands_49 rfl (j_callV (rest := [vI x3]) 11 [vI r4, vI x1] k_RX11_262 ⟨w_8_102, p_5_15⟩ ⟨_, _, rfl⟩ (by decide) rfl rfl (Nat.le_of_ble_eq_true rfl) dX11_stands_50 h (kI (fun r5 S5 h => j_iadd dX11_stands_53 (j_istore_n (lv2 := [(3, vI (x3 + r5)), (0, vA x0), (1, vI x1), (2, vI x2), (4, vI x4)]) dX11_stands_54 (by decide) rfl (j_iinc 4 (lv2 := [(4, vI (x4 + 1)), (3, vI (x3 + r5)), (0, vA x0), (1, vI x1), (2, vI x2)]) dX11_stands_55 rfl (by decide) rfl (j_goto (tgt := 29) dX11_stands_58 (by decide) (j_sub [2, 3, 4, 1, 0] rfl (ih _ _ _ _ _ _ h))))))) (fun _ _ h => h.elim)))) (fun _ _ h => h.elim))))))))))))
def VX11_stands_0 (d : Nat) (Q : Out → MS → Prop) (x0 : Nat) (x1 : Int) (x2 : Int) (S : MS) : Prop :=
  S.K x0 = 11 ∧ ((S.setI x0 0 0).K x0 = 11 ∧ Mw hX11_noThing yX11_noThing d [vA x0, vI x1] (S.setI x0 0 0) (oI (fun r1 S1 => S1.K x0 = 11 ∧ Mw hX11_throwsIf yX11_throwsIf d [vA x0, vI r1, vI 1] S1 (oI (fun r2 S2 => R32 r2 ∧ ((r2 = 0) → S2.K x0 = 11 ∧ Mw hX11_leaves yX11_leaves d [vA x0] S2 (oV (fun S3 => ∃ m, VX11_stands_29 d Q m x0 x1 x2 0 0 S3))) ∧ (¬ (r2 = 0) → Q (.inl (some (vI 0))) S2))))))
theorem JX11_stands_0 {d : Nat} {S0 : MS} {Q : Out → MS → Prop} (x0 : Nat) (x1 : Int) (x2 : Int) (S : MS) (h : VX11_stands_0 d Q x0 x1 x2 S) : Jw FinM RX11 cX11_stands 7 (some .int) [] yX11_stands (d + 1) S0 S 0 [(0, vA x0), (1, vI x1), (2, vI x2)] [] Q :=
  j_aload_n 0 dX11_stands_0 rfl (j_iconst dX11_stands_1 (j_putI 11 0 f_RX11_3 dX11_stands_2 h (fun h => j_aload_n 0 dX11_stands_5 rfl (j_aload_n 0 dX11_stands_6 rfl (j_iload_n 1 dX11_stands_7 rfl (j_callV (rest := [vA x0]) 11 [vI x1] k_RX11_194 ⟨w_7_214, p_4_9⟩ ⟨_, _, rfl⟩ (by decide) rfl rfl (Nat.le_of_ble_eq_true rfl) dX11_stands_8 h (kI (fun r1 S1 h => j_iconst dX11_stands_11 (j_callV (rest := []) 11 [vI r1, vI 1] k_RX11_190 ⟨w_7_191, p_4_7⟩ ⟨_, _, rfl⟩ (by decide) rfl rfl (Nat.le_of_ble_eq_true rfl) dX11_stands_12 h (kI (fun r2 S2 h => j_if_eq (tgt := 20) dX11_stands_15 (by decide) h (fun h => j_aload_n 0 dX11_stands_20 rfl (j_callV (rest := []) 11 [] k_RX11_253 ⟨w_8_42, p_5_4⟩ ⟨_, _, rfl⟩ (by decide) rfl rfl (Nat.le_of_ble_eq_true rfl) dX11_stands_21 h (kV (fun S3 h => j_iconst dX11_stands_24 (j_istore_n (lv2 := [(3, vI 0), (0, vA x0), (1, vI x1), (2, vI x2)]) dX11_stands_25 (by decide) rfl (j_iconst dX11_stands_26 (j_istore (lv2 := [(4, vI 0), (3, vI 0), (0, vA x0), (1, vI x1), (2, vI x2)]) dX11_stands_27 (by decide) rfl (Exists.elim h (fun m h => j_sub [2, 3, 4, 1, 0] rfl (JX11_stands_29 m _ _ _ _ _ _ h)))))))) (fun _ _ h => h.elim))) (fun h => j_iconst dX11_stands_18 (j_iret rfl dX11_stands_19 h)))) (fun _ _ h => h.elim)))) (fun _ _ h => h.elim)))))))
theorem MX11_stands {d : Nat} {x0 : Nat} {x1 : Int} {x2 : Int} {S : MS} {Q : Out → MS → Prop} (h : VX11_stands_0 d Q x0 x1 x2 S) : Mw hX11_stands yX11_stands (d + 1) [vA x0, vI x1, vI x2] S Q := Mw.ofJ (by decide) (Nat.le_of_ble_eq_true rfl) (JX11_stands_0 _ _ _ S h)
theorem dX11_laid_0 : decode cX11_laid 0 = .ok (.aload_n 0, 1) := by decide +kernel
theorem dX11_laid_1 : decode cX11_laid 1 = .ok (.iconst 0, 1) := by decide +kernel
theorem dX11_laid_2 : decode cX11_laid 2 = .ok (.putfield 3, 3) := by decide +kernel
theorem dX11_laid_5 : decode cX11_laid 5 = .ok (.aload_n 0, 1) := by decide +kernel
theorem dX11_laid_6 : decode cX11_laid 6 = .ok (.aload_n 0, 1) := by decide +kernel
theorem dX11_laid_7 : decode cX11_laid 7 = .ok (.iload_n 1, 1) := by decide +kernel
theorem dX11_laid_8 : decode cX11_laid 8 = .ok (.invokevirtual 194, 3) := by decide +kernel
theorem dX11_laid_11 : decode cX11_laid 11 = .ok (.iconst 1, 1) := by decide +kernel
theorem dX11_laid_12 : decode cX11_laid 12 = .ok (.invokevirtual 190, 3) := by decide +kernel
theorem dX11_laid_15 : decode cX11_laid 15 = .ok (.ifCond .eq 5, 3) := by decide +kernel
theorem dX11_laid_18 : decode cX11_laid 18 = .ok (.iconst 0, 1) := by decide +kernel
theorem dX11_laid_19 : decode cX11_laid 19 = .ok (.ireturn, 1) := by decide +kernel
theorem dX11_laid_20 : decode cX11_laid 20 = .ok (.iconst 0, 1) := by decide +kernel
theorem dX11_laid_21 : decode cX11_laid 21 = .ok (.istore_n 3, 1) := by decide +kernel
theorem dX11_laid_22 : decode cX11_laid 22 = .ok (.iconst 0, 1) := by decide +kernel
theorem dX11_laid_23 : decode cX11_laid 23 = .ok (.istore 4, 2) := by decide +kernel
theorem dX11_laid_25 : decode cX11_laid 25 = .ok (.iload 4, 2) := by decide +kernel
theorem dX11_laid_27 : decode cX11_laid 27 = .ok (.aload_n 0, 1) := by decide +kernel
theorem dX11_laid_28 : decode cX11_laid 28 = .ok (.invokevirtual 91, 3) := by decide +kernel
theorem dX11_laid_31 : decode cX11_laid 31 = .ok (.if_icmp .ge 46, 3) := by decide +kernel
theorem dX11_laid_34 : decode cX11_laid 34 = .ok (.iload_n 3, 1) := by decide +kernel
theorem dX11_laid_35 : decode cX11_laid 35 = .ok (.iload_n 2, 1) := by decide +kernel
theorem dX11_laid_36 : decode cX11_laid 36 = .ok (.ifCond .eq 22, 3) := by decide +kernel
theorem dX11_laid_39 : decode cX11_laid 39 = .ok (.aload_n 0, 1) := by decide +kernel
theorem dX11_laid_40 : decode cX11_laid 40 = .ok (.iload 4, 2) := by decide +kernel
theorem dX11_laid_42 : decode cX11_laid 42 = .ok (.iconst 2, 1) := by decide +kernel
theorem dX11_laid_43 : decode cX11_laid 43 = .ok (.invokevirtual 215, 3) := by decide +kernel
theorem dX11_laid_46 : decode cX11_laid 46 = .ok (.iload_n 1, 1) := by decide +kernel
theorem dX11_laid_47 : decode cX11_laid 47 = .ok (.if_icmp .ne 7, 3) := by decide +kernel
theorem dX11_laid_50 : decode cX11_laid 50 = .ok (.iconst 1, 1) := by decide +kernel
theorem dX11_laid_51 : decode cX11_laid 51 = .ok (.goto 18, 3) := by decide +kernel
theorem dX11_laid_54 : decode cX11_laid 54 = .ok (.iconst 0, 1) := by decide +kernel
theorem dX11_laid_55 : decode cX11_laid 55 = .ok (.goto 14, 3) := by decide +kernel
theorem dX11_laid_58 : decode cX11_laid 58 = .ok (.aload_n 0, 1) := by decide +kernel
theorem dX11_laid_59 : decode cX11_laid 59 = .ok (.iload 4, 2) := by decide +kernel
theorem dX11_laid_61 : decode cX11_laid 61 = .ok (.iconst 1, 1) := by decide +kernel
theorem dX11_laid_62 : decode cX11_laid 62 = .ok (.invokevirtual 215, 3) := by decide +kernel
theorem dX11_laid_65 : decode cX11_laid 65 = .ok (.iload_n 1, 1) := by decide +kernel
theorem dX11_laid_66 : decode cX11_laid 66 = .ok (.ishr, 1) := by decide +kernel
theorem dX11_laid_67 : decode cX11_laid 67 = .ok (.iconst 1, 1) := by decide +kernel
theorem dX11_laid_68 : decode cX11_laid 68 = .ok (.iand, 1) := by decide +kernel
theorem dX11_laid_69 : decode cX11_laid 69 = .ok (.iadd, 1) := by decide +kernel
theorem dX11_laid_70 : decode cX11_laid 70 = .ok (.istore_n 3, 1) := by decide +kernel
theorem dX11_laid_71 : decode cX11_laid 71 = .ok (.iinc 4 1, 3) := by decide +kernel
theorem dX11_laid_74 : decode cX11_laid 74 = .ok (.goto (-49), 3) := by decide +kernel
theorem dX11_laid_77 : decode cX11_laid 77 = .ok (.iload_n 3, 1) := by decide +kernel
theorem dX11_laid_78 : decode cX11_laid 78 = .ok (.ireturn, 1) := by decide +kernel
def VX11_laid_69 (d : Nat) (c25 : Nat → Int → Int → Int → Int → MS → Prop) (Q : Out → MS → Prop) (x0 : Nat) (x1 : Int) (x2 : Int) (x4 : Int) (t0 : Int) (t1 : Int) (S : MS) : Prop :=
  c25 x0 x1 x2 (t1 + t0) (x4 + 1) S
theorem JX11_laid_69 {d : Nat} {c25 : Nat → Int → Int → Int → Int → MS → Prop} {S0 : MS} {Q : Out → MS → Prop} (hc25 : ∀ (x0 : Nat) (x1 : Int) (x2 : Int) (x3 : Int) (x4 : Int) (S : MS), c25 x0 x1 x2 x3 x4 S → Jw FinM RX11 cX11_laid 5 (some .int) [] yX11_laid (d + 1) S0 S 25 [(0, vA x0), (1, vI x1), (2, vI x2), (3, vI x3), (4, vI x4)] [] Q) (x0 : Nat) (x1 : Int) (x2 : Int) (x4 : Int) (t0 : Int) (t1 : Int) (S : MS) (h : VX11_laid_69 d c25 Q x0 x1 x2 x4 t0 t1 S) : Jw FinM RX11 cX11_laid 5 (some .int) [] yX11_laid (d + 1) S0 S 69 [(0, vA x0), (1, vI x1), (2, vI x2), (4, vI x4)] [vI t0, vI t1] Q :=
  j_iadd dX11_laid_69 (j_istore_n (lv2 := [(3, vI (t1 + t0)), (0, vA x0), (1, vI x1), (2, vI x2), (4, vI x4)]) dX11_laid_70 (by decide) rfl (j_iinc 4 (lv2 := [(4, vI (x4 + 1)), (3, vI (t1 + t0)), (0, vA x0), (1, vI x1), (2, vI x2)]) dX11_laid_71 rfl (by decide) rfl (j_goto (tgt := 25) dX11_laid_74 (by decide) (j_sub [2, 3, 4, 1, 0] rfl (hc25 _ _ _ _ _ _ h)))))
def VX11_laid_25 (d : Nat) (Q : Out → MS → Prop) : Nat → Nat → Int → Int → Int → Int → MS → Prop
  | 0, _, _, _, _, _, _ => False
  | n + 1, x0, x1, x2, x3, x4, S => S.K x0 = 11 ∧ Mw hX11_notes yX11_notes d [vA x0] S (oI (fun r1 S1 => (R32 x4 ∧ R32 r1) ∧ ((r1 ≤ x4) → Q (.inl (some (vI x3))) S1) ∧ (¬ (r1 ≤ x4) → R32 x2 ∧ ((x2 = 0) → S1.K x0 = 11 ∧ Mw hX11_ofNote yX11_ofNote d [vA x0, vI x4, vI 1] S1 (oI (fun r2 S2 => VX11_laid_69 d (VX11_laid_25 d Q n) Q x0 x1 x2 x4 (iAnd (iShr r2 x1) 1) x3 S2))) ∧ (¬ (x2 = 0) → S1.K x0 = 11 ∧ Mw hX11_ofNote yX11_ofNote d [vA x0, vI x4, vI 2] S1 (oI (fun r3 S3 => (R32 r3 ∧ R32 x1) ∧ (¬ (r3 = x1) → VX11_laid_69 d (VX11_laid_25 d Q n) Q x0 x1 x2 x4 0 x3 S3) ∧ ((r3 = x1) → VX11_laid_69 d (VX11_laid_25 d Q n) Q x0 x1 x2 x4 1 x3 S3)))))))
theorem JX11_laid_25 {d : Nat} {S0 : MS} {Q : Out → MS → Prop} : ∀ (n : Nat) (x0 : Nat) (x1 : Int) (x2 : Int) (x3 : Int) (x4 : Int) (S : MS), VX11_laid_25 d Q n x0 x1 x2 x3 x4 S → Jw FinM RX11 cX11_laid 5 (some .int) [] yX11_laid (d + 1) S0 S 25 [(0, vA x0), (1, vI x1), (2, vI x2), (3, vI x3), (4, vI x4)] [] Q := by
  intro n
  induction n with
  | zero => intro x0 x1 x2 x3 x4 S h; exact h.elim
  | succ n ih =>
    intro x0 x1 x2 x3 x4 S h
    exact j_iload 4 dX11_laid_25 rfl (j_aload_n 0 dX11_laid_27 rfl (j_callV (rest := [vI x4]) 11 [] k_RX11_91 ⟨w_7_202, p_4_8⟩ ⟨_, _, rfl⟩ (by decide) rfl rfl (Nat.le_of_ble_eq_true rfl) dX11_laid_28 h (kI (fun r1 S1 h => j_icmp_ge (tgt := 77) dX11_laid_31 (by decide) h (fun h => j_iload_n 3 dX11_laid_77 rfl (j_iret rfl dX11_laid_78 h)) (fun h => j_iload_n 3 dX11_laid_34 rfl (j_iload_n 2 dX11_laid_35 rfl (j_if_eq (tgt := 58) dX11_laid_36 (by decide) h (fun h => j_aload_n 0 dX11_laid_58 rfl (j_iload 4 dX11_laid_59 rfl (j_iconst dX11_laid_61 (j_callV (rest := [vI x3]) 11 [vI x4, vI 1] k_RX11_215 ⟨w_8_26, p_5_2⟩ ⟨_, _, rfl⟩ (by decide) rfl rfl (Nat.le_of_ble_eq_true rfl) dX11_laid_62 h (kI (fun r2 S2 h => j_iload_n 1 dX11_laid_65 rfl (j_ishr dX11_laid_66 (j_iconst dX11_laid_67 (j_iand dX11_laid_68 (j_sub [0, 1, 2, 4] rfl (JX11_laid_69 ih _ _ _ _ _ _ _ h))))))) (fun _ _ h => h.elim))))) (fun h => j_aload_n 0 dX11_laid_39 rfl (j_iload 4 dX11_laid_40 rfl (j_iconst dX11_laid_42 (j_callV (rest := [vI x3]) 11 [vI x4, vI 2] k_RX11_215 ⟨w_8_26, p_5_2⟩ ⟨_, _, rfl⟩ (by decide) rfl rfl (Nat.le_of_ble_eq_true rfl) dX11_laid_43 h (kI (fun r3 S3 h => j_iload_n 1 dX11_laid_46 rfl (j_icmp_ne (tgt := 54) dX11_laid_47 (by decide) h (fun h => j_iconst dX11_laid_54 (j_goto (tgt := 69) dX11_laid_55 (by decide) (j_sub [0, 1, 2, 4] rfl (JX11_laid_69 ih _ _ _ _ _ _ _ h)))) (fun h => j_iconst dX11_laid_50 (j_goto (tgt := 69) dX11_laid_51 (by decide) (j_sub [0, 1, 2, 4] rfl (JX11_laid_69 ih _ _ _ _ _ _ _ h))))))) (fun _ _ h => h.elim)))))))))) (fun _ _ h => h.elim)))
def VX11_laid_0 (d : Nat) (Q : Out → MS → Prop) (x0 : Nat) (x1 : Int) (x2 : Int) (S : MS) : Prop :=
  S.K x0 = 11 ∧ ((S.setI x0 0 0).K x0 = 11 ∧ Mw hX11_noThing yX11_noThing d [vA x0, vI x1] (S.setI x0 0 0) (oI (fun r1 S1 => S1.K x0 = 11 ∧ Mw hX11_throwsIf yX11_throwsIf d [vA x0, vI r1, vI 1] S1 (oI (fun r2 S2 => R32 r2 ∧ ((r2 = 0) → ∃ m, VX11_laid_25 d Q m x0 x1 x2 0 0 S2) ∧ (¬ (r2 = 0) → Q (.inl (some (vI 0))) S2))))))
theorem JX11_laid_0 {d : Nat} {S0 : MS} {Q : Out → MS → Prop} (x0 : Nat) (x1 : Int) (x2 : Int) (S : MS) (h : VX11_laid_0 d Q x0 x1 x2 S) : Jw FinM RX11 cX11_laid 5 (some .int) [] yX11_laid (d + 1) S0 S 0 [(0, vA x0), (1, vI x1), (2, vI x2)] [] Q :=
  j_aload_n 0 dX11_laid_0 rfl (j_iconst dX11_laid_1 (j_putI 11 0 f_RX11_3 dX11_laid_2 h (fun h => j_aload_n 0 dX11_laid_5 rfl (j_aload_n 0 dX11_laid_6 rfl (j_iload_n 1 dX11_laid_7 rfl (j_callV (rest := [vA x0]) 11 [vI x1] k_RX11_194 ⟨w_7_214, p_4_9⟩ ⟨_, _, rfl⟩ (by decide) rfl rfl (Nat.le_of_ble_eq_true rfl) dX11_laid_8 h (kI (fun r1 S1 h => j_iconst dX11_laid_11 (j_callV (rest := []) 11 [vI r1, vI 1] k_RX11_190 ⟨w_7_191, p_4_7⟩ ⟨_, _, rfl⟩ (by decide) rfl rfl (Nat.le_of_ble_eq_true rfl) dX11_laid_12 h (kI (fun r2 S2 h => j_if_eq (tgt := 20) dX11_laid_15 (by decide) h (fun h => j_iconst dX11_laid_20 (j_istore_n (lv2 := [(3, vI 0), (0, vA x0), (1, vI x1), (2, vI x2)]) dX11_laid_21 (by decide) rfl (j_iconst dX11_laid_22 (j_istore (lv2 := [(4, vI 0), (3, vI 0), (0, vA x0), (1, vI x1), (2, vI x2)]) dX11_laid_23 (by decide) rfl (Exists.elim h (fun m h => j_sub [2, 3, 4, 1, 0] rfl (JX11_laid_25 m _ _ _ _ _ _ h))))))) (fun h => j_iconst dX11_laid_18 (j_iret rfl dX11_laid_19 h)))) (fun _ _ h => h.elim)))) (fun _ _ h => h.elim)))))))
theorem MX11_laid {d : Nat} {x0 : Nat} {x1 : Int} {x2 : Int} {S : MS} {Q : Out → MS → Prop} (h : VX11_laid_0 d Q x0 x1 x2 S) : Mw hX11_laid yX11_laid (d + 1) [vA x0, vI x1, vI x2] S Q := Mw.ofJ (by decide) (Nat.le_of_ble_eq_true rfl) (JX11_laid_0 _ _ _ S h)
theorem dX11_turned_0 : decode cX11_turned 0 = .ok (.iconst 0, 1) := by decide +kernel
theorem dX11_turned_1 : decode cX11_turned 1 = .ok (.istore_n 3, 1) := by decide +kernel
theorem dX11_turned_2 : decode cX11_turned 2 = .ok (.iconst 0, 1) := by decide +kernel
theorem dX11_turned_3 : decode cX11_turned 3 = .ok (.istore 4, 2) := by decide +kernel
theorem dX11_turned_5 : decode cX11_turned 5 = .ok (.iload 4, 2) := by decide +kernel
theorem dX11_turned_7 : decode cX11_turned 7 = .ok (.aload_n 0, 1) := by decide +kernel
theorem dX11_turned_8 : decode cX11_turned 8 = .ok (.invokevirtual 83, 3) := by decide +kernel
theorem dX11_turned_11 : decode cX11_turned 11 = .ok (.if_icmp .ge 80, 3) := by decide +kernel
theorem dX11_turned_14 : decode cX11_turned 14 = .ok (.iconst 0, 1) := by decide +kernel
theorem dX11_turned_15 : decode cX11_turned 15 = .ok (.istore 5, 2) := by decide +kernel
theorem dX11_turned_17 : decode cX11_turned 17 = .ok (.iload 5, 2) := by decide +kernel
theorem dX11_turned_19 : decode cX11_turned 19 = .ok (.iload 4, 2) := by decide +kernel
theorem dX11_turned_21 : decode cX11_turned 21 = .ok (.if_icmp .ge 64, 3) := by decide +kernel
theorem dX11_turned_24 : decode cX11_turned 24 = .ok (.iload_n 3, 1) := by decide +kernel
theorem dX11_turned_25 : decode cX11_turned 25 = .ok (.aload_n 0, 1) := by decide +kernel
theorem dX11_turned_26 : decode cX11_turned 26 = .ok (.iload_n 1, 1) := by decide +kernel
theorem dX11_turned_27 : decode cX11_turned 27 = .ok (.iload 4, 2) := by decide +kernel
theorem dX11_turned_29 : decode cX11_turned 29 = .ok (.invokevirtual 262, 3) := by decide +kernel
theorem dX11_turned_32 : decode cX11_turned 32 = .ok (.aload_n 0, 1) := by decide +kernel
theorem dX11_turned_33 : decode cX11_turned 33 = .ok (.iload_n 1, 1) := by decide +kernel
theorem dX11_turned_34 : decode cX11_turned 34 = .ok (.iload 5, 2) := by decide +kernel
theorem dX11_turned_36 : decode cX11_turned 36 = .ok (.invokevirtual 262, 3) := by decide +kernel
theorem dX11_turned_39 : decode cX11_turned 39 = .ok (.if_icmp .ge 7, 3) := by decide +kernel
theorem dX11_turned_42 : decode cX11_turned 42 = .ok (.iconst 1, 1) := by decide +kernel
theorem dX11_turned_43 : decode cX11_turned 43 = .ok (.goto 4, 3) := by decide +kernel
theorem dX11_turned_46 : decode cX11_turned 46 = .ok (.iconst 0, 1) := by decide +kernel
theorem dX11_turned_47 : decode cX11_turned 47 = .ok (.aload_n 0, 1) := by decide +kernel
theorem dX11_turned_48 : decode cX11_turned 48 = .ok (.iload_n 2, 1) := by decide +kernel
theorem dX11_turned_49 : decode cX11_turned 49 = .ok (.iload 4, 2) := by decide +kernel
theorem dX11_turned_51 : decode cX11_turned 51 = .ok (.invokevirtual 262, 3) := by decide +kernel
theorem dX11_turned_54 : decode cX11_turned 54 = .ok (.aload_n 0, 1) := by decide +kernel
theorem dX11_turned_55 : decode cX11_turned 55 = .ok (.iload_n 2, 1) := by decide +kernel
theorem dX11_turned_56 : decode cX11_turned 56 = .ok (.iload 5, 2) := by decide +kernel
theorem dX11_turned_58 : decode cX11_turned 58 = .ok (.invokevirtual 262, 3) := by decide +kernel
theorem dX11_turned_61 : decode cX11_turned 61 = .ok (.if_icmp .ge 7, 3) := by decide +kernel
theorem dX11_turned_64 : decode cX11_turned 64 = .ok (.iconst 1, 1) := by decide +kernel
theorem dX11_turned_65 : decode cX11_turned 65 = .ok (.goto 4, 3) := by decide +kernel
theorem dX11_turned_68 : decode cX11_turned 68 = .ok (.iconst 0, 1) := by decide +kernel
theorem dX11_turned_69 : decode cX11_turned 69 = .ok (.if_icmp .eq 7, 3) := by decide +kernel
theorem dX11_turned_72 : decode cX11_turned 72 = .ok (.iconst 1, 1) := by decide +kernel
theorem dX11_turned_73 : decode cX11_turned 73 = .ok (.goto 4, 3) := by decide +kernel
theorem dX11_turned_76 : decode cX11_turned 76 = .ok (.iconst 0, 1) := by decide +kernel
theorem dX11_turned_77 : decode cX11_turned 77 = .ok (.iadd, 1) := by decide +kernel
theorem dX11_turned_78 : decode cX11_turned 78 = .ok (.istore_n 3, 1) := by decide +kernel
theorem dX11_turned_79 : decode cX11_turned 79 = .ok (.iinc 5 1, 3) := by decide +kernel
theorem dX11_turned_82 : decode cX11_turned 82 = .ok (.goto (-65), 3) := by decide +kernel
theorem dX11_turned_85 : decode cX11_turned 85 = .ok (.iinc 4 1, 3) := by decide +kernel
theorem dX11_turned_88 : decode cX11_turned 88 = .ok (.goto (-83), 3) := by decide +kernel
theorem dX11_turned_91 : decode cX11_turned 91 = .ok (.iload_n 3, 1) := by decide +kernel
theorem dX11_turned_92 : decode cX11_turned 92 = .ok (.ireturn, 1) := by decide +kernel
def VX11_turned_77 (d : Nat) (c5 : Nat → Int → Int → Int → Int → MS → Prop) (c17 : Nat → Int → Int → Int → Int → Int → MS → Prop) (Q : Out → MS → Prop) (x0 : Nat) (x1 : Int) (x2 : Int) (x4 : Int) (x5 : Int) (t0 : Int) (t1 : Int) (S : MS) : Prop :=
  c17 x0 x1 x2 (t1 + t0) x4 (x5 + 1) S
theorem JX11_turned_77 {d : Nat} {c5 : Nat → Int → Int → Int → Int → MS → Prop} {c17 : Nat → Int → Int → Int → Int → Int → MS → Prop} {S0 : MS} {Q : Out → MS → Prop} (hc5 : ∀ (x0 : Nat) (x1 : Int) (x2 : Int) (x3 : Int) (x4 : Int) (S : MS), c5 x0 x1 x2 x3 x4 S → Jw FinM RX11 cX11_turned 6 (some .int) [] yX11_turned (d + 1) S0 S 5 [(0, vA x0), (1, vI x1), (2, vI x2), (3, vI x3), (4, vI x4)] [] Q) (hc17 : ∀ (x0 : Nat) (x1 : Int) (x2 : Int) (x3 : Int) (x4 : Int) (x5 : Int) (S : MS), c17 x0 x1 x2 x3 x4 x5 S → Jw FinM RX11 cX11_turned 6 (some .int) [] yX11_turned (d + 1) S0 S 17 [(0, vA x0), (1, vI x1), (2, vI x2), (3, vI x3), (4, vI x4), (5, vI x5)] [] Q) (x0 : Nat) (x1 : Int) (x2 : Int) (x4 : Int) (x5 : Int) (t0 : Int) (t1 : Int) (S : MS) (h : VX11_turned_77 d c5 c17 Q x0 x1 x2 x4 x5 t0 t1 S) : Jw FinM RX11 cX11_turned 6 (some .int) [] yX11_turned (d + 1) S0 S 77 [(0, vA x0), (1, vI x1), (2, vI x2), (4, vI x4), (5, vI x5)] [vI t0, vI t1] Q :=
  j_iadd dX11_turned_77 (j_istore_n (lv2 := [(3, vI (t1 + t0)), (0, vA x0), (1, vI x1), (2, vI x2), (4, vI x4), (5, vI x5)]) dX11_turned_78 (by decide) rfl (j_iinc 5 (lv2 := [(5, vI (x5 + 1)), (3, vI (t1 + t0)), (0, vA x0), (1, vI x1), (2, vI x2), (4, vI x4)]) dX11_turned_79 rfl (by decide) rfl (j_goto (tgt := 17) dX11_turned_82 (by decide) (j_sub [2, 3, 4, 1, 5, 0] rfl (hc17 _ _ _ _ _ _ _ h)))))
def VX11_turned_69 (d : Nat) (c5 : Nat → Int → Int → Int → Int → MS → Prop) (c17 : Nat → Int → Int → Int → Int → Int → MS → Prop) (Q : Out → MS → Prop) (x0 : Nat) (x1 : Int) (x2 : Int) (x4 : Int) (x5 : Int) (t0 : Int) (t1 : Int) (t2 : Int) (S : MS) : Prop :=
  (R32 t1 ∧ R32 t0) ∧ ((t1 = t0) → VX11_turned_77 d c5 c17 Q x0 x1 x2 x4 x5 0 t2 S) ∧ (¬ (t1 = t0) → VX11_turned_77 d c5 c17 Q x0 x1 x2 x4 x5 1 t2 S)
theorem JX11_turned_69 {d : Nat} {c5 : Nat → Int → Int → Int → Int → MS → Prop} {c17 : Nat → Int → Int → Int → Int → Int → MS → Prop} {S0 : MS} {Q : Out → MS → Prop} (hc5 : ∀ (x0 : Nat) (x1 : Int) (x2 : Int) (x3 : Int) (x4 : Int) (S : MS), c5 x0 x1 x2 x3 x4 S → Jw FinM RX11 cX11_turned 6 (some .int) [] yX11_turned (d + 1) S0 S 5 [(0, vA x0), (1, vI x1), (2, vI x2), (3, vI x3), (4, vI x4)] [] Q) (hc17 : ∀ (x0 : Nat) (x1 : Int) (x2 : Int) (x3 : Int) (x4 : Int) (x5 : Int) (S : MS), c17 x0 x1 x2 x3 x4 x5 S → Jw FinM RX11 cX11_turned 6 (some .int) [] yX11_turned (d + 1) S0 S 17 [(0, vA x0), (1, vI x1), (2, vI x2), (3, vI x3), (4, vI x4), (5, vI x5)] [] Q) (x0 : Nat) (x1 : Int) (x2 : Int) (x4 : Int) (x5 : Int) (t0 : Int) (t1 : Int) (t2 : Int) (S : MS) (h : VX11_turned_69 d c5 c17 Q x0 x1 x2 x4 x5 t0 t1 t2 S) : Jw FinM RX11 cX11_turned 6 (some .int) [] yX11_turned (d + 1) S0 S 69 [(0, vA x0), (1, vI x1), (2, vI x2), (4, vI x4), (5, vI x5)] [vI t0, vI t1, vI t2] Q :=
  j_icmp_eq (tgt := 76) dX11_turned_69 (by decide) h (fun h => j_iconst dX11_turned_76 (JX11_turned_77 hc5 hc17 _ _ _ _ _ _ _ _ h)) (fun h => j_iconst dX11_turned_72 (j_goto (tgt := 77) dX11_turned_73 (by decide) (JX11_turned_77 hc5 hc17 _ _ _ _ _ _ _ _ h)))
def VX11_turned_47 (d : Nat) (c5 : Nat → Int → Int → Int → Int → MS → Prop) (c17 : Nat → Int → Int → Int → Int → Int → MS → Prop) (Q : Out → MS → Prop) (x0 : Nat) (x1 : Int) (x2 : Int) (x4 : Int) (x5 : Int) (t0 : Int) (t1 : Int) (S : MS) : Prop :=
  S.K x0 = 11 ∧ Mw hX11_placeOf yX11_placeOf d [vA x0, vI x2, vI x4] S (oI (fun r1 S1 => S1.K x0 = 11 ∧ Mw hX11_placeOf yX11_placeOf d [vA x0, vI x2, vI x5] S1 (oI (fun r2 S2 => (R32 r1 ∧ R32 r2) ∧ ((r2 ≤ r1) → VX11_turned_69 d c5 c17 Q x0 x1 x2 x4 x5 0 t0 t1 S2) ∧ (¬ (r2 ≤ r1) → VX11_turned_69 d c5 c17 Q x0 x1 x2 x4 x5 1 t0 t1 S2)))))
theorem JX11_turned_47 {d : Nat} {c5 : Nat → Int → Int → Int → Int → MS → Prop} {c17 : Nat → Int → Int → Int → Int → Int → MS → Prop} {S0 : MS} {Q : Out → MS → Prop} (hc5 : ∀ (x0 : Nat) (x1 : Int) (x2 : Int) (x3 : Int) (x4 : Int) (S : MS), c5 x0 x1 x2 x3 x4 S → Jw FinM RX11 cX11_turned 6 (some .int) [] yX11_turned (d + 1) S0 S 5 [(0, vA x0), (1, vI x1), (2, vI x2), (3, vI x3), (4, vI x4)] [] Q) (hc17 : ∀ (x0 : Nat) (x1 : Int) (x2 : Int) (x3 : Int) (x4 : Int) (x5 : Int) (S : MS), c17 x0 x1 x2 x3 x4 x5 S → Jw FinM RX11 cX11_turned 6 (some .int) [] yX11_turned (d + 1) S0 S 17 [(0, vA x0), (1, vI x1), (2, vI x2), (3, vI x3), (4, vI x4), (5, vI x5)] [] Q) (x0 : Nat) (x1 : Int) (x2 : Int) (x4 : Int) (x5 : Int) (t0 : Int) (t1 : Int) (S : MS) (h : VX11_turned_47 d c5 c17 Q x0 x1 x2 x4 x5 t0 t1 S) : Jw FinM RX11 cX11_turned 6 (some .int) [] yX11_turned (d + 1) S0 S 47 [(0, vA x0), (1, vI x1), (2, vI x2), (4, vI x4), (5, vI x5)] [vI t0, vI t1] Q :=
  j_aload_n 0 dX11_turned_47 rfl (j_iload_n 2 dX11_turned_48 rfl (j_iload 3 dX11_turned_49 rfl (j_callV (rest := [vI t0, vI t1]) 11 [vI x2, vI x4] k_RX11_262 ⟨w_8_102, p_5_15⟩ ⟨_, _, rfl⟩ (by decide) rfl rfl (Nat.le_of_ble_eq_true rfl) dX11_turned_51 h (kI (fun r1 S1 h => j_aload_n 0 dX11_turned_54 rfl (j_iload_n 2 dX11_turned_55 rfl (j_iload 4 dX11_turned_56 rfl (j_callV (rest := [vI r1, vI t0, vI t1]) 11 [vI x2, vI x5] k_RX11_262 ⟨w_8_102, p_5_15⟩ ⟨_, _, rfl⟩ (by decide) rfl rfl (Nat.le_of_ble_eq_true rfl) dX11_turned_58 h (kI (fun r2 S2 h => j_icmp_ge (tgt := 68) dX11_turned_61 (by decide) h (fun h => j_iconst dX11_turned_68 (JX11_turned_69 hc5 hc17 _ _ _ _ _ _ _ _ _ h)) (fun h => j_iconst dX11_turned_64 (j_goto (tgt := 69) dX11_turned_65 (by decide) (JX11_turned_69 hc5 hc17 _ _ _ _ _ _ _ _ _ h))))) (fun _ _ h => h.elim)))))) (fun _ _ h => h.elim))))
def VX11_turned_17 (d : Nat) (c5 : Nat → Int → Int → Int → Int → MS → Prop) (Q : Out → MS → Prop) : Nat → Nat → Int → Int → Int → Int → Int → MS → Prop
  | 0, _, _, _, _, _, _, _ => False
  | n + 1, x0, x1, x2, x3, x4, x5, S => (R32 x5 ∧ R32 x4) ∧ ((x4 ≤ x5) → c5 x0 x1 x2 x3 (x4 + 1) S) ∧ (¬ (x4 ≤ x5) → S.K x0 = 11 ∧ Mw hX11_placeOf yX11_placeOf d [vA x0, vI x1, vI x4] S (oI (fun r1 S1 => S1.K x0 = 11 ∧ Mw hX11_placeOf yX11_placeOf d [vA x0, vI x1, vI x5] S1 (oI (fun r2 S2 => (R32 r1 ∧ R32 r2) ∧ ((r2 ≤ r1) → VX11_turned_47 d c5 (VX11_turned_17 d c5 Q n) Q x0 x1 x2 x4 x5 0 x3 S2) ∧ (¬ (r2 ≤ r1) → VX11_turned_47 d c5 (VX11_turned_17 d c5 Q n) Q x0 x1 x2 x4 x5 1 x3 S2))))))
theorem JX11_turned_17 {d : Nat} {c5 : Nat → Int → Int → Int → Int → MS → Prop} {S0 : MS} {Q : Out → MS → Prop} (hc5 : ∀ (x0 : Nat) (x1 : Int) (x2 : Int) (x3 : Int) (x4 : Int) (S : MS), c5 x0 x1 x2 x3 x4 S → Jw FinM RX11 cX11_turned 6 (some .int) [] yX11_turned (d + 1) S0 S 5 [(0, vA x0), (1, vI x1), (2, vI x2), (3, vI x3), (4, vI x4)] [] Q) : ∀ (n : Nat) (x0 : Nat) (x1 : Int) (x2 : Int) (x3 : Int) (x4 : Int) (x5 : Int) (S : MS), VX11_turned_17 d c5 Q n x0 x1 x2 x3 x4 x5 S → Jw FinM RX11 cX11_turned 6 (some .int) [] yX11_turned (d + 1) S0 S 17 [(0, vA x0), (1, vI x1), (2, vI x2), (3, vI x3), (4, vI x4), (5, vI x5)] [] Q := by
  intro n
  induction n with
  | zero => intro x0 x1 x2 x3 x4 x5 S h; exact h.elim
  | succ n ih =>
    intro x0 x1 x2 x3 x4 x5 S h
    exact j_iload 5 dX11_turned_17 rfl (j_iload 4 dX11_turned_19 rfl (j_icmp_ge (tgt := 85) dX11_turned_21 (by decide) h (fun h => j_iinc 4 (lv2 := [(4, vI (x4 + 1)), (0, vA x0), (1, vI x1), (2, vI x2), (3, vI x3), (5, vI x5)]) dX11_turned_85 rfl (by decide) rfl (j_goto (tgt := 5) dX11_turned_88 (by decide) (j_sub [1, 2, 3, 4, 0] rfl (hc5 _ _ _ _ _ _ h)))) (fun h => j_iload_n 3 dX11_turned_24 rfl (j_aload_n 0 dX11_turned_25 rfl (j_iload_n 1 dX11_turned_26 rfl (j_iload 4 dX11_turned_27 rfl (j_callV (rest := [vI x3]) 11 [vI x1, vI x4] k_RX11_262 ⟨w_8_102, p_5_15⟩ ⟨_, _, rfl⟩ (by decide) rfl rfl (Nat.le_of_ble_eq_true rfl) dX11_turned_29 h (kI (fun r1 S1 h => j_aload_n 0 dX11_turned_32 rfl (j_iload_n 1 dX11_turned_33 rfl (j_iload 5 dX11_turned_34 rfl (j_callV (rest := [vI r1, vI x3]) 11 [vI x1, vI x5] k_RX11_262 ⟨w_8_102, p_5_15⟩ ⟨_, _, rfl⟩ (by decide) rfl rfl (Nat.le_of_ble_eq_true rfl) dX11_turned_36 h (kI (fun r2 S2 h => j_icmp_ge (tgt := 46) dX11_turned_39 (by decide) h (fun h => j_iconst dX11_turned_46 (j_sub [0, 1, 2, 4, 5] rfl (JX11_turned_47 hc5 ih _ _ _ _ _ _ _ _ h))) (fun h => j_iconst dX11_turned_42 (j_goto (tgt := 47) dX11_turned_43 (by decide) (j_sub [0, 1, 2, 4, 5] rfl (JX11_turned_47 hc5 ih _ _ _ _ _ _ _ _ h)))))) (fun _ _ h => h.elim)))))) (fun _ _ h => h.elim))))))))
def VX11_turned_5 (d : Nat) (Q : Out → MS → Prop) : Nat → Nat → Int → Int → Int → Int → MS → Prop
  | 0, _, _, _, _, _, _ => False
  | n + 1, x0, x1, x2, x3, x4, S => S.K x0 = 11 ∧ Mw hX11_things yX11_things d [vA x0] S (oI (fun r1 S1 => (R32 x4 ∧ R32 r1) ∧ ((r1 ≤ x4) → Q (.inl (some (vI x3))) S1) ∧ (¬ (r1 ≤ x4) → ∃ m, VX11_turned_17 d (VX11_turned_5 d Q n) Q m x0 x1 x2 x3 x4 0 S1)))
theorem JX11_turned_5 {d : Nat} {S0 : MS} {Q : Out → MS → Prop} : ∀ (n : Nat) (x0 : Nat) (x1 : Int) (x2 : Int) (x3 : Int) (x4 : Int) (S : MS), VX11_turned_5 d Q n x0 x1 x2 x3 x4 S → Jw FinM RX11 cX11_turned 6 (some .int) [] yX11_turned (d + 1) S0 S 5 [(0, vA x0), (1, vI x1), (2, vI x2), (3, vI x3), (4, vI x4)] [] Q := by
  intro n
  induction n with
  | zero => intro x0 x1 x2 x3 x4 S h; exact h.elim
  | succ n ih =>
    intro x0 x1 x2 x3 x4 S h
    exact j_iload 4 dX11_turned_5 rfl (j_aload_n 0 dX11_turned_7 rfl (j_callV (rest := [vI x4]) 11 [] k_RX11_83 ⟨w_7_218, p_4_10⟩ ⟨_, _, rfl⟩ (by decide) rfl rfl (Nat.le_of_ble_eq_true rfl) dX11_turned_8 h (kI (fun r1 S1 h => j_icmp_ge (tgt := 91) dX11_turned_11 (by decide) h (fun h => j_iload_n 3 dX11_turned_91 rfl (j_iret rfl dX11_turned_92 h)) (fun h => j_iconst dX11_turned_14 (j_istore (lv2 := [(5, vI 0), (0, vA x0), (1, vI x1), (2, vI x2), (3, vI x3), (4, vI x4)]) dX11_turned_15 (by decide) rfl (Exists.elim h (fun m h => j_sub [1, 2, 3, 4, 5, 0] rfl (JX11_turned_17 ih m _ _ _ _ _ _ _ h))))))) (fun _ _ h => h.elim)))
def VX11_turned_0 (d : Nat) (Q : Out → MS → Prop) (x0 : Nat) (x1 : Int) (x2 : Int) (S : MS) : Prop :=
  ∃ m, VX11_turned_5 d Q m x0 x1 x2 0 0 S
theorem JX11_turned_0 {d : Nat} {S0 : MS} {Q : Out → MS → Prop} (x0 : Nat) (x1 : Int) (x2 : Int) (S : MS) (h : VX11_turned_0 d Q x0 x1 x2 S) : Jw FinM RX11 cX11_turned 6 (some .int) [] yX11_turned (d + 1) S0 S 0 [(0, vA x0), (1, vI x1), (2, vI x2)] [] Q :=
  j_iconst dX11_turned_0 (j_istore_n (lv2 := [(3, vI 0), (0, vA x0), (1, vI x1), (2, vI x2)]) dX11_turned_1 (by decide) rfl (j_iconst dX11_turned_2 (j_istore (lv2 := [(4, vI 0), (3, vI 0), (0, vA x0), (1, vI x1), (2, vI x2)]) dX11_turned_3 (by decide) rfl (Exists.elim h (fun m h => j_sub [2, 3, 4, 1, 0] rfl (JX11_turned_5 m _ _ _ _ _ _ h))))))
theorem MX11_turned {d : Nat} {x0 : Nat} {x1 : Int} {x2 : Int} {S : MS} {Q : Out → MS → Prop} (h : VX11_turned_0 d Q x0 x1 x2 S) : Mw hX11_turned yX11_turned (d + 1) [vA x0, vI x1, vI x2] S Q := Mw.ofJ (by decide) (Nat.le_of_ble_eq_true rfl) (JX11_turned_0 _ _ _ S h)
theorem dX11_nearly_0 : decode cX11_nearly 0 = .ok (.aload_n 0, 1) := by decide +kernel
theorem dX11_nearly_1 : decode cX11_nearly 1 = .ok (.invokevirtual 256, 3) := by decide +kernel
theorem dX11_nearly_4 : decode cX11_nearly 4 = .ok (.istore_n 1, 1) := by decide +kernel
theorem dX11_nearly_5 : decode cX11_nearly 5 = .ok (.aload_n 0, 1) := by decide +kernel
theorem dX11_nearly_6 : decode cX11_nearly 6 = .ok (.iload_n 1, 1) := by decide +kernel
theorem dX11_nearly_7 : decode cX11_nearly 7 = .ok (.ifCond .ge 7, 3) := by decide +kernel
theorem dX11_nearly_10 : decode cX11_nearly 10 = .ok (.iconst 1, 1) := by decide +kernel
theorem dX11_nearly_11 : decode cX11_nearly 11 = .ok (.goto 4, 3) := by decide +kernel
theorem dX11_nearly_14 : decode cX11_nearly 14 = .ok (.iconst 0, 1) := by decide +kernel
theorem dX11_nearly_15 : decode cX11_nearly 15 = .ok (.iconst 1, 1) := by decide +kernel
theorem dX11_nearly_16 : decode cX11_nearly 16 = .ok (.invokevirtual 190, 3) := by decide +kernel
theorem dX11_nearly_19 : decode cX11_nearly 19 = .ok (.ifCond .eq 5, 3) := by decide +kernel
theorem dX11_nearly_22 : decode cX11_nearly 22 = .ok (.iconst 0, 1) := by decide +kernel
theorem dX11_nearly_23 : decode cX11_nearly 23 = .ok (.ireturn, 1) := by decide +kernel
theorem dX11_nearly_24 : decode cX11_nearly 24 = .ok (.aload_n 0, 1) := by decide +kernel
theorem dX11_nearly_25 : decode cX11_nearly 25 = .ok (.invokevirtual 253, 3) := by decide +kernel
theorem dX11_nearly_28 : decode cX11_nearly 28 = .ok (.iconst (-1), 1) := by decide +kernel
theorem dX11_nearly_29 : decode cX11_nearly 29 = .ok (.istore_n 2, 1) := by decide +kernel
theorem dX11_nearly_30 : decode cX11_nearly 30 = .ok (.iconst 0, 1) := by decide +kernel
theorem dX11_nearly_31 : decode cX11_nearly 31 = .ok (.istore_n 3, 1) := by decide +kernel
theorem dX11_nearly_32 : decode cX11_nearly 32 = .ok (.iload_n 3, 1) := by decide +kernel
theorem dX11_nearly_33 : decode cX11_nearly 33 = .ok (.aload_n 0, 1) := by decide +kernel
theorem dX11_nearly_34 : decode cX11_nearly 34 = .ok (.getfield 45, 3) := by decide +kernel
theorem dX11_nearly_37 : decode cX11_nearly 37 = .ok (.iconst 0, 1) := by decide +kernel
theorem dX11_nearly_38 : decode cX11_nearly 38 = .ok (.iaload, 1) := by decide +kernel
theorem dX11_nearly_39 : decode cX11_nearly 39 = .ok (.if_icmp .ge 39, 3) := by decide +kernel
theorem dX11_nearly_42 : decode cX11_nearly 42 = .ok (.aload_n 0, 1) := by decide +kernel
theorem dX11_nearly_43 : decode cX11_nearly 43 = .ok (.iload_n 1, 1) := by decide +kernel
theorem dX11_nearly_44 : decode cX11_nearly 44 = .ok (.aload_n 0, 1) := by decide +kernel
theorem dX11_nearly_45 : decode cX11_nearly 45 = .ok (.iconst 0, 1) := by decide +kernel
theorem dX11_nearly_46 : decode cX11_nearly 46 = .ok (.iload_n 3, 1) := by decide +kernel
theorem dX11_nearly_47 : decode cX11_nearly 47 = .ok (.invokevirtual 247, 3) := by decide +kernel
theorem dX11_nearly_50 : decode cX11_nearly 50 = .ok (.invokevirtual 307, 3) := by decide +kernel
theorem dX11_nearly_53 : decode cX11_nearly 53 = .ok (.istore 4, 2) := by decide +kernel
theorem dX11_nearly_55 : decode cX11_nearly 55 = .ok (.iload_n 2, 1) := by decide +kernel
theorem dX11_nearly_56 : decode cX11_nearly 56 = .ok (.ifCond .lt 9, 3) := by decide +kernel
theorem dX11_nearly_59 : decode cX11_nearly 59 = .ok (.iload 4, 2) := by decide +kernel
theorem dX11_nearly_61 : decode cX11_nearly 61 = .ok (.iload_n 2, 1) := by decide +kernel
theorem dX11_nearly_62 : decode cX11_nearly 62 = .ok (.if_icmp .ge 8, 3) := by decide +kernel
theorem dX11_nearly_65 : decode cX11_nearly 65 = .ok (.iload 4, 2) := by decide +kernel
theorem dX11_nearly_67 : decode cX11_nearly 67 = .ok (.goto 4, 3) := by decide +kernel
theorem dX11_nearly_70 : decode cX11_nearly 70 = .ok (.iload_n 2, 1) := by decide +kernel
theorem dX11_nearly_71 : decode cX11_nearly 71 = .ok (.istore_n 2, 1) := by decide +kernel
theorem dX11_nearly_72 : decode cX11_nearly 72 = .ok (.iinc 3 1, 3) := by decide +kernel
theorem dX11_nearly_75 : decode cX11_nearly 75 = .ok (.goto (-43), 3) := by decide +kernel
theorem dX11_nearly_78 : decode cX11_nearly 78 = .ok (.iload_n 2, 1) := by decide +kernel
theorem dX11_nearly_79 : decode cX11_nearly 79 = .ok (.ireturn, 1) := by decide +kernel
def VX11_nearly_71 (d : Nat) (c32 : Nat → Int → Int → Int → MS → Prop) (Q : Out → MS → Prop) (x0 : Nat) (x1 : Int) (x3 : Int) (t0 : Int) (S : MS) : Prop :=
  c32 x0 x1 t0 (x3 + 1) S
theorem JX11_nearly_71 {d : Nat} {c32 : Nat → Int → Int → Int → MS → Prop} {S0 : MS} {Q : Out → MS → Prop} (hc32 : ∀ (x0 : Nat) (x1 : Int) (x2 : Int) (x3 : Int) (S : MS), c32 x0 x1 x2 x3 S → Jw FinM RX11 cX11_nearly 5 (some .int) [] yX11_nearly (d + 1) S0 S 32 [(0, vA x0), (1, vI x1), (2, vI x2), (3, vI x3)] [] Q) (x0 : Nat) (x1 : Int) (x3 : Int) (t0 : Int) (S : MS) (h : VX11_nearly_71 d c32 Q x0 x1 x3 t0 S) : Jw FinM RX11 cX11_nearly 5 (some .int) [] yX11_nearly (d + 1) S0 S 71 [(0, vA x0), (1, vI x1), (3, vI x3)] [vI t0] Q :=
  j_istore_n (lv2 := [(2, vI t0), (0, vA x0), (1, vI x1), (3, vI x3)]) dX11_nearly_71 (by decide) rfl (j_iinc 3 (lv2 := [(3, vI (x3 + 1)), (2, vI t0), (0, vA x0), (1, vI x1)]) dX11_nearly_72 rfl (by decide) rfl (j_goto (tgt := 32) dX11_nearly_75 (by decide) (j_sub [2, 3, 1, 0] rfl (hc32 _ _ _ _ _ h))))
def VX11_nearly_65 (d : Nat) (c32 : Nat → Int → Int → Int → MS → Prop) (Q : Out → MS → Prop) (x0 : Nat) (x1 : Int) (x3 : Int) (x4 : Int) (S : MS) : Prop :=
  VX11_nearly_71 d c32 Q x0 x1 x3 x4 S
theorem JX11_nearly_65 {d : Nat} {c32 : Nat → Int → Int → Int → MS → Prop} {S0 : MS} {Q : Out → MS → Prop} (hc32 : ∀ (x0 : Nat) (x1 : Int) (x2 : Int) (x3 : Int) (S : MS), c32 x0 x1 x2 x3 S → Jw FinM RX11 cX11_nearly 5 (some .int) [] yX11_nearly (d + 1) S0 S 32 [(0, vA x0), (1, vI x1), (2, vI x2), (3, vI x3)] [] Q) (x0 : Nat) (x1 : Int) (x3 : Int) (x4 : Int) (S : MS) (h : VX11_nearly_65 d c32 Q x0 x1 x3 x4 S) : Jw FinM RX11 cX11_nearly 5 (some .int) [] yX11_nearly (d + 1) S0 S 65 [(0, vA x0), (1, vI x1), (3, vI x3), (4, vI x4)] [] Q :=
  j_iload 3 dX11_nearly_65 rfl (j_goto (tgt := 71) dX11_nearly_67 (by decide) (j_sub [0, 1, 2] rfl (JX11_nearly_71 hc32 _ _ _ _ _ h)))
def VX11_nearly_32 (d : Nat) (Q : Out → MS → Prop) : Nat → Nat → Int → Int → Int → MS → Prop
  | 0, _, _, _, _, _ => False
  | n + 1, x0, x1, x2, x3, S => S.K x0 = 11 ∧ ∃ b1, S.R x0 17 = some b1 ∧ ((S.K b1 = 13 ∧ 0 ≤ (0 : Int) ∧ (0 : Int) < S.N b1) ∧ ((R32 x3 ∧ R32 (S.I b1 ((0 : Int)).toNat)) ∧ (((S.I b1 ((0 : Int)).toNat) ≤ x3) → Q (.inl (some (vI x2))) S) ∧ (¬ ((S.I b1 ((0 : Int)).toNat) ≤ x3) → S.K x0 = 11 ∧ Mw hX11_rowAt yX11_rowAt d [vA x0, vI 0, vI x3] S (oI (fun r2 S2 => S2.K x0 = 11 ∧ Mw hX11_turned yX11_turned d [vA x0, vI x1, vI r2] S2 (oI (fun r3 S3 => R32 x2 ∧ ((x2 < 0) → VX11_nearly_65 d (VX11_nearly_32 d Q n) Q x0 x1 x3 r3 S3) ∧ (¬ (x2 < 0) → (R32 r3 ∧ R32 x2) ∧ ((x2 ≤ r3) → VX11_nearly_71 d (VX11_nearly_32 d Q n) Q x0 x1 x3 x2 S3) ∧ (¬ (x2 ≤ r3) → VX11_nearly_65 d (VX11_nearly_32 d Q n) Q x0 x1 x3 r3 S3)))))))))
theorem JX11_nearly_32 {d : Nat} {S0 : MS} {Q : Out → MS → Prop} : ∀ (n : Nat) (x0 : Nat) (x1 : Int) (x2 : Int) (x3 : Int) (S : MS), VX11_nearly_32 d Q n x0 x1 x2 x3 S → Jw FinM RX11 cX11_nearly 5 (some .int) [] yX11_nearly (d + 1) S0 S 32 [(0, vA x0), (1, vI x1), (2, vI x2), (3, vI x3)] [] Q := by
  intro n
  induction n with
  | zero => intro x0 x1 x2 x3 S h; exact h.elim
  | succ n ih =>
    intro x0 x1 x2 x3 S h
    exact j_iload_n 3 dX11_nearly_32 rfl (j_aload_n 0 dX11_nearly_33 rfl (j_getR 11 17 f_RX11_45 dX11_nearly_34 h (fun b1 h => j_iconst dX11_nearly_37 (j_iald dX11_nearly_38 h (fun h => j_icmp_ge (tgt := 78) dX11_nearly_39 (by decide) h (fun h => j_iload_n 2 dX11_nearly_78 rfl (j_iret rfl dX11_nearly_79 h)) (fun h => j_aload_n 0 dX11_nearly_42 rfl (j_iload_n 1 dX11_nearly_43 rfl (j_aload_n 0 dX11_nearly_44 rfl (j_iconst dX11_nearly_45 (j_iload_n 3 dX11_nearly_46 rfl (j_callV (rest := [vI x1, vA x0]) 11 [vI 0, vI x3] k_RX11_247 ⟨w_8_74, p_5_11⟩ ⟨_, _, rfl⟩ (by decide) rfl rfl (Nat.le_of_ble_eq_true rfl) dX11_nearly_47 h (kI (fun r2 S2 h => j_callV (rest := []) 11 [vI x1, vI r2] k_RX11_307 ⟨w_8_214, p_6_12⟩ ⟨_, _, rfl⟩ (by decide) rfl rfl (Nat.le_of_ble_eq_true rfl) dX11_nearly_50 h (kI (fun r3 S3 h => j_istore (lv2 := [(4, vI r3), (0, vA x0), (1, vI x1), (2, vI x2), (3, vI x3)]) dX11_nearly_53 (by decide) rfl (j_iload_n 3 dX11_nearly_55 rfl (j_if_lt (tgt := 65) dX11_nearly_56 (by decide) h (fun h => j_sub [1, 2, 4, 0] rfl (JX11_nearly_65 ih _ _ _ _ _ h)) (fun h => j_iload 0 dX11_nearly_59 rfl (j_iload_n 3 dX11_nearly_61 rfl (j_icmp_ge (tgt := 70) dX11_nearly_62 (by decide) h (fun h => j_iload_n 3 dX11_nearly_70 rfl (j_sub [1, 2, 4] rfl (JX11_nearly_71 ih _ _ _ _ _ h))) (fun h => j_sub [1, 2, 4, 0] rfl (JX11_nearly_65 ih _ _ _ _ _ h))))))))) (fun _ _ h => h.elim))) (fun _ _ h => h.elim))))))))))))
def VX11_nearly_15 (d : Nat) (Q : Out → MS → Prop) (x0 : Nat) (x1 : Int) (t0 : Int) (t1 : Nat) (S : MS) : Prop :=
  S.K t1 = 11 ∧ Mw hX11_throwsIf yX11_throwsIf d [vA t1, vI t0, vI 1] S (oI (fun r1 S1 => R32 r1 ∧ ((r1 = 0) → S1.K x0 = 11 ∧ Mw hX11_leaves yX11_leaves d [vA x0] S1 (oV (fun S2 => ∃ m, VX11_nearly_32 d Q m x0 x1 ((-1)) 0 S2))) ∧ (¬ (r1 = 0) → Q (.inl (some (vI 0))) S1)))
theorem JX11_nearly_15 {d : Nat} {S0 : MS} {Q : Out → MS → Prop} (x0 : Nat) (x1 : Int) (t0 : Int) (t1 : Nat) (S : MS) (h : VX11_nearly_15 d Q x0 x1 t0 t1 S) : Jw FinM RX11 cX11_nearly 5 (some .int) [] yX11_nearly (d + 1) S0 S 15 [(0, vA x0), (1, vI x1)] [vI t0, vA t1] Q :=
  j_iconst dX11_nearly_15 (j_callV (rest := []) 11 [vI t0, vI 1] k_RX11_190 ⟨w_7_191, p_4_7⟩ ⟨_, _, rfl⟩ (by decide) rfl rfl (Nat.le_of_ble_eq_true rfl) dX11_nearly_16 h (kI (fun r1 S1 h => j_if_eq (tgt := 24) dX11_nearly_19 (by decide) h (fun h => j_aload_n 0 dX11_nearly_24 rfl (j_callV (rest := []) 11 [] k_RX11_253 ⟨w_8_42, p_5_4⟩ ⟨_, _, rfl⟩ (by decide) rfl rfl (Nat.le_of_ble_eq_true rfl) dX11_nearly_25 h (kV (fun S2 h => j_iconst dX11_nearly_28 (j_istore_n (lv2 := [(2, vI ((-1))), (0, vA x0), (1, vI x1)]) dX11_nearly_29 (by decide) rfl (j_iconst dX11_nearly_30 (j_istore_n (lv2 := [(3, vI 0), (2, vI ((-1))), (0, vA x0), (1, vI x1)]) dX11_nearly_31 (by decide) rfl (Exists.elim h (fun m h => j_sub [2, 3, 1, 0] rfl (JX11_nearly_32 m _ _ _ _ _ h)))))))) (fun _ _ h => h.elim))) (fun h => j_iconst dX11_nearly_22 (j_iret rfl dX11_nearly_23 h)))) (fun _ _ h => h.elim))
def VX11_nearly_0 (d : Nat) (Q : Out → MS → Prop) (x0 : Nat) (S : MS) : Prop :=
  S.K x0 = 11 ∧ Mw hX11_tapedRow yX11_tapedRow d [vA x0] S (oI (fun r1 S1 => R32 r1 ∧ ((0 ≤ r1) → VX11_nearly_15 d Q x0 r1 0 x0 S1) ∧ (¬ (0 ≤ r1) → VX11_nearly_15 d Q x0 r1 1 x0 S1)))
theorem JX11_nearly_0 {d : Nat} {S0 : MS} {Q : Out → MS → Prop} (x0 : Nat) (S : MS) (h : VX11_nearly_0 d Q x0 S) : Jw FinM RX11 cX11_nearly 5 (some .int) [] yX11_nearly (d + 1) S0 S 0 [(0, vA x0)] [] Q :=
  j_aload_n 0 dX11_nearly_0 rfl (j_callV (rest := []) 11 [] k_RX11_256 ⟨w_8_82, p_5_12⟩ ⟨_, _, rfl⟩ (by decide) rfl rfl (Nat.le_of_ble_eq_true rfl) dX11_nearly_1 h (kI (fun r1 S1 h => j_istore_n (lv2 := [(1, vI r1), (0, vA x0)]) dX11_nearly_4 (by decide) rfl (j_aload_n 1 dX11_nearly_5 rfl (j_iload_n 0 dX11_nearly_6 rfl (j_if_ge (tgt := 14) dX11_nearly_7 (by decide) h (fun h => j_iconst dX11_nearly_14 (j_sub [1, 0] rfl (JX11_nearly_15 _ _ _ _ _ h))) (fun h => j_iconst dX11_nearly_10 (j_goto (tgt := 15) dX11_nearly_11 (by decide) (j_sub [1, 0] rfl (JX11_nearly_15 _ _ _ _ _ h))))))))) (fun _ _ h => h.elim))
theorem MX11_nearly {d : Nat} {x0 : Nat} {S : MS} {Q : Out → MS → Prop} (h : VX11_nearly_0 d Q x0 S) : Mw hX11_nearly yX11_nearly (d + 1) [vA x0] S Q := Mw.ofJ (by decide) (Nat.le_of_ble_eq_true rfl) (JX11_nearly_0 _ S h)
theorem dX11_votes_0 : decode cX11_votes 0 = .ok (.aload_n 0, 1) := by decide +kernel
theorem dX11_votes_1 : decode cX11_votes 1 = .ok (.iconst 0, 1) := by decide +kernel
theorem dX11_votes_2 : decode cX11_votes 2 = .ok (.putfield 3, 3) := by decide +kernel
theorem dX11_votes_5 : decode cX11_votes 5 = .ok (.aload_n 0, 1) := by decide +kernel
theorem dX11_votes_6 : decode cX11_votes 6 = .ok (.aload_n 0, 1) := by decide +kernel
theorem dX11_votes_7 : decode cX11_votes 7 = .ok (.iload_n 1, 1) := by decide +kernel
theorem dX11_votes_8 : decode cX11_votes 8 = .ok (.invokevirtual 259, 3) := by decide +kernel
theorem dX11_votes_11 : decode cX11_votes 11 = .ok (.iconst 1, 1) := by decide +kernel
theorem dX11_votes_12 : decode cX11_votes 12 = .ok (.invokevirtual 190, 3) := by decide +kernel
theorem dX11_votes_15 : decode cX11_votes 15 = .ok (.ifCond .eq 5, 3) := by decide +kernel
theorem dX11_votes_18 : decode cX11_votes 18 = .ok (.iconst 0, 1) := by decide +kernel
theorem dX11_votes_19 : decode cX11_votes 19 = .ok (.ireturn, 1) := by decide +kernel
theorem dX11_votes_20 : decode cX11_votes 20 = .ok (.iconst (-1), 1) := by decide +kernel
theorem dX11_votes_21 : decode cX11_votes 21 = .ok (.istore_n 2, 1) := by decide +kernel
theorem dX11_votes_22 : decode cX11_votes 22 = .ok (.iconst 0, 1) := by decide +kernel
theorem dX11_votes_23 : decode cX11_votes 23 = .ok (.istore_n 3, 1) := by decide +kernel
theorem dX11_votes_24 : decode cX11_votes 24 = .ok (.iconst 0, 1) := by decide +kernel
theorem dX11_votes_25 : decode cX11_votes 25 = .ok (.istore 4, 2) := by decide +kernel
theorem dX11_votes_27 : decode cX11_votes 27 = .ok (.iload 4, 2) := by decide +kernel
theorem dX11_votes_29 : decode cX11_votes 29 = .ok (.aload_n 0, 1) := by decide +kernel
theorem dX11_votes_30 : decode cX11_votes 30 = .ok (.invokevirtual 83, 3) := by decide +kernel
theorem dX11_votes_33 : decode cX11_votes 33 = .ok (.if_icmp .ge 108, 3) := by decide +kernel
theorem dX11_votes_36 : decode cX11_votes 36 = .ok (.iconst 0, 1) := by decide +kernel
theorem dX11_votes_37 : decode cX11_votes 37 = .ok (.istore 5, 2) := by decide +kernel
theorem dX11_votes_39 : decode cX11_votes 39 = .ok (.iconst 0, 1) := by decide +kernel
theorem dX11_votes_40 : decode cX11_votes 40 = .ok (.istore 6, 2) := by decide +kernel
theorem dX11_votes_42 : decode cX11_votes 42 = .ok (.iload 6, 2) := by decide +kernel
theorem dX11_votes_44 : decode cX11_votes 44 = .ok (.aload_n 0, 1) := by decide +kernel
theorem dX11_votes_45 : decode cX11_votes 45 = .ok (.invokevirtual 91, 3) := by decide +kernel
theorem dX11_votes_48 : decode cX11_votes 48 = .ok (.if_icmp .ge 57, 3) := by decide +kernel
theorem dX11_votes_51 : decode cX11_votes 51 = .ok (.iload 5, 2) := by decide +kernel
theorem dX11_votes_53 : decode cX11_votes 53 = .ok (.aload_n 0, 1) := by decide +kernel
theorem dX11_votes_54 : decode cX11_votes 54 = .ok (.aload_n 0, 1) := by decide +kernel
theorem dX11_votes_55 : decode cX11_votes 55 = .ok (.iload 6, 2) := by decide +kernel
theorem dX11_votes_57 : decode cX11_votes 57 = .ok (.iconst 0, 1) := by decide +kernel
theorem dX11_votes_58 : decode cX11_votes 58 = .ok (.invokevirtual 215, 3) := by decide +kernel
theorem dX11_votes_61 : decode cX11_votes 61 = .ok (.iconst 0, 1) := by decide +kernel
theorem dX11_votes_62 : decode cX11_votes 62 = .ok (.invokevirtual 94, 3) := by decide +kernel
theorem dX11_votes_65 : decode cX11_votes 65 = .ok (.ifCond .ne 30, 3) := by decide +kernel
theorem dX11_votes_68 : decode cX11_votes 68 = .ok (.aload_n 0, 1) := by decide +kernel
theorem dX11_votes_69 : decode cX11_votes 69 = .ok (.iload 6, 2) := by decide +kernel
theorem dX11_votes_71 : decode cX11_votes 71 = .ok (.iconst 1, 1) := by decide +kernel
theorem dX11_votes_72 : decode cX11_votes 72 = .ok (.invokevirtual 215, 3) := by decide +kernel
theorem dX11_votes_75 : decode cX11_votes 75 = .ok (.iload_n 1, 1) := by decide +kernel
theorem dX11_votes_76 : decode cX11_votes 76 = .ok (.if_icmp .ne 19, 3) := by decide +kernel
theorem dX11_votes_79 : decode cX11_votes 79 = .ok (.aload_n 0, 1) := by decide +kernel
theorem dX11_votes_80 : decode cX11_votes 80 = .ok (.iload 6, 2) := by decide +kernel
theorem dX11_votes_82 : decode cX11_votes 82 = .ok (.iconst 2, 1) := by decide +kernel
theorem dX11_votes_83 : decode cX11_votes 83 = .ok (.invokevirtual 215, 3) := by decide +kernel
theorem dX11_votes_86 : decode cX11_votes 86 = .ok (.iload 4, 2) := by decide +kernel
theorem dX11_votes_88 : decode cX11_votes 88 = .ok (.if_icmp .ne 7, 3) := by decide +kernel
theorem dX11_votes_91 : decode cX11_votes 91 = .ok (.iconst 1, 1) := by decide +kernel
theorem dX11_votes_92 : decode cX11_votes 92 = .ok (.goto 4, 3) := by decide +kernel
theorem dX11_votes_95 : decode cX11_votes 95 = .ok (.iconst 0, 1) := by decide +kernel
theorem dX11_votes_96 : decode cX11_votes 96 = .ok (.iadd, 1) := by decide +kernel
theorem dX11_votes_97 : decode cX11_votes 97 = .ok (.istore 5, 2) := by decide +kernel
theorem dX11_votes_99 : decode cX11_votes 99 = .ok (.iinc 6 1, 3) := by decide +kernel
theorem dX11_votes_102 : decode cX11_votes 102 = .ok (.goto (-60), 3) := by decide +kernel
theorem dX11_votes_105 : decode cX11_votes 105 = .ok (.iload 5, 2) := by decide +kernel
theorem dX11_votes_107 : decode cX11_votes 107 = .ok (.iload_n 3, 1) := by decide +kernel
theorem dX11_votes_108 : decode cX11_votes 108 = .ok (.if_icmp .lt 27, 3) := by decide +kernel
theorem dX11_votes_111 : decode cX11_votes 111 = .ok (.iload 5, 2) := by decide +kernel
theorem dX11_votes_113 : decode cX11_votes 113 = .ok (.ifCond .ne 6, 3) := by decide +kernel
theorem dX11_votes_116 : decode cX11_votes 116 = .ok (.goto 19, 3) := by decide +kernel
theorem dX11_votes_119 : decode cX11_votes 119 = .ok (.iload 5, 2) := by decide +kernel
theorem dX11_votes_121 : decode cX11_votes 121 = .ok (.iload_n 3, 1) := by decide +kernel
theorem dX11_votes_122 : decode cX11_votes 122 = .ok (.if_icmp .ne 7, 3) := by decide +kernel
theorem dX11_votes_125 : decode cX11_votes 125 = .ok (.iconst (-1), 1) := by decide +kernel
theorem dX11_votes_126 : decode cX11_votes 126 = .ok (.goto 5, 3) := by decide +kernel
theorem dX11_votes_129 : decode cX11_votes 129 = .ok (.iload 4, 2) := by decide +kernel
theorem dX11_votes_131 : decode cX11_votes 131 = .ok (.istore_n 2, 1) := by decide +kernel
theorem dX11_votes_132 : decode cX11_votes 132 = .ok (.iload 5, 2) := by decide +kernel
theorem dX11_votes_134 : decode cX11_votes 134 = .ok (.istore_n 3, 1) := by decide +kernel
theorem dX11_votes_135 : decode cX11_votes 135 = .ok (.iinc 4 1, 3) := by decide +kernel
theorem dX11_votes_138 : decode cX11_votes 138 = .ok (.goto (-111), 3) := by decide +kernel
theorem dX11_votes_141 : decode cX11_votes 141 = .ok (.iload_n 2, 1) := by decide +kernel
theorem dX11_votes_142 : decode cX11_votes 142 = .ok (.ireturn, 1) := by decide +kernel
def VX11_votes_96 (d : Nat) (c27 : Nat → Int → Int → Int → Int → MS → Prop) (c42 : Nat → Int → Int → Int → Int → Int → Int → MS → Prop) (Q : Out → MS → Prop) (x0 : Nat) (x1 : Int) (x2 : Int) (x3 : Int) (x4 : Int) (x6 : Int) (t0 : Int) (t1 : Int) (S : MS) : Prop :=
  c42 x0 x1 x2 x3 x4 (t1 + t0) (x6 + 1) S
theorem JX11_votes_96 {d : Nat} {c27 : Nat → Int → Int → Int → Int → MS → Prop} {c42 : Nat → Int → Int → Int → Int → Int → Int → MS → Prop} {S0 : MS} {Q : Out → MS → Prop} (hc27 : ∀ (x0 : Nat) (x1 : Int) (x2 : Int) (x3 : Int) (x4 : Int) (S : MS), c27 x0 x1 x2 x3 x4 S → Jw FinM RX11 cX11_votes 7 (some .int) [] yX11_votes (d + 1) S0 S 27 [(0, vA x0), (1, vI x1), (2, vI x2), (3, vI x3), (4, vI x4)] [] Q) (hc42 : ∀ (x0 : Nat) (x1 : Int) (x2 : Int) (x3 : Int) (x4 : Int) (x5 : Int) (x6 : Int) (S : MS), c42 x0 x1 x2 x3 x4 x5 x6 S → Jw FinM RX11 cX11_votes 7 (some .int) [] yX11_votes (d + 1) S0 S 42 [(0, vA x0), (1, vI x1), (2, vI x2), (3, vI x3), (4, vI x4), (5, vI x5), (6, vI x6)] [] Q) (x0 : Nat) (x1 : Int) (x2 : Int) (x3 : Int) (x4 : Int) (x6 : Int) (t0 : Int) (t1 : Int) (S : MS) (h : VX11_votes_96 d c27 c42 Q x0 x1 x2 x3 x4 x6 t0 t1 S) : Jw FinM RX11 cX11_votes 7 (some .int) [] yX11_votes (d + 1) S0 S 96 [(0, vA x0), (1, vI x1), (2, vI x2), (3, vI x3), (4, vI x4), (6, vI x6)] [vI t0, vI t1] Q :=
  j_iadd dX11_votes_96 (j_istore (lv2 := [(5, vI (t1 + t0)), (0, vA x0), (1, vI x1), (2, vI x2), (3, vI x3), (4, vI x4), (6, vI x6)]) dX11_votes_97 (by decide) rfl (j_iinc 6 (lv2 := [(6, vI (x6 + 1)), (5, vI (t1 + t0)), (0, vA x0), (1, vI x1), (2, vI x2), (3, vI x3), (4, vI x4)]) dX11_votes_99 rfl (by decide) rfl (j_goto (tgt := 42) dX11_votes_102 (by decide) (j_sub [2, 3, 4, 5, 6, 1, 0] rfl (hc42 _ _ _ _ _ _ _ _ h)))))
def VX11_votes_95 (d : Nat) (c27 : Nat → Int → Int → Int → Int → MS → Prop) (c42 : Nat → Int → Int → Int → Int → Int → Int → MS → Prop) (Q : Out → MS → Prop) (x0 : Nat) (x1 : Int) (x2 : Int) (x3 : Int) (x4 : Int) (x6 : Int) (t0 : Int) (S : MS) : Prop :=
  VX11_votes_96 d c27 c42 Q x0 x1 x2 x3 x4 x6 0 t0 S
theorem JX11_votes_95 {d : Nat} {c27 : Nat → Int → Int → Int → Int → MS → Prop} {c42 : Nat → Int → Int → Int → Int → Int → Int → MS → Prop} {S0 : MS} {Q : Out → MS → Prop} (hc27 : ∀ (x0 : Nat) (x1 : Int) (x2 : Int) (x3 : Int) (x4 : Int) (S : MS), c27 x0 x1 x2 x3 x4 S → Jw FinM RX11 cX11_votes 7 (some .int) [] yX11_votes (d + 1) S0 S 27 [(0, vA x0), (1, vI x1), (2, vI x2), (3, vI x3), (4, vI x4)] [] Q) (hc42 : ∀ (x0 : Nat) (x1 : Int) (x2 : Int) (x3 : Int) (x4 : Int) (x5 : Int) (x6 : Int) (S : MS), c42 x0 x1 x2 x3 x4 x5 x6 S → Jw FinM RX11 cX11_votes 7 (some .int) [] yX11_votes (d + 1) S0 S 42 [(0, vA x0), (1, vI x1), (2, vI x2), (3, vI x3), (4, vI x4), (5, vI x5), (6, vI x6)] [] Q) (x0 : Nat) (x1 : Int) (x2 : Int) (x3 : Int) (x4 : Int) (x6 : Int) (t0 : Int) (S : MS) (h : VX11_votes_95 d c27 c42 Q x0 x1 x2 x3 x4 x6 t0 S) : Jw FinM RX11 cX11_votes 7 (some .int) [] yX11_votes (d + 1) S0 S 95 [(0, vA x0), (1, vI x1), (2, vI x2), (3, vI x3), (4, vI x4), (6, vI x6)] [vI t0] Q :=
  j_iconst dX11_votes_95 (JX11_votes_96 hc27 hc42 _ _ _ _ _ _ _ _ _ h)
def VX11_votes_135 (d : Nat) (c27 : Nat → Int → Int → Int → Int → MS → Prop) (Q : Out → MS → Prop) (x0 : Nat) (x1 : Int) (x2 : Int) (x3 : Int) (x4 : Int) (S : MS) : Prop :=
  c27 x0 x1 x2 x3 (x4 + 1) S
theorem JX11_votes_135 {d : Nat} {c27 : Nat → Int → Int → Int → Int → MS → Prop} {S0 : MS} {Q : Out → MS → Prop} (hc27 : ∀ (x0 : Nat) (x1 : Int) (x2 : Int) (x3 : Int) (x4 : Int) (S : MS), c27 x0 x1 x2 x3 x4 S → Jw FinM RX11 cX11_votes 7 (some .int) [] yX11_votes (d + 1) S0 S 27 [(0, vA x0), (1, vI x1), (2, vI x2), (3, vI x3), (4, vI x4)] [] Q) (x0 : Nat) (x1 : Int) (x2 : Int) (x3 : Int) (x4 : Int) (S : MS) (h : VX11_votes_135 d c27 Q x0 x1 x2 x3 x4 S) : Jw FinM RX11 cX11_votes 7 (some .int) [] yX11_votes (d + 1) S0 S 135 [(0, vA x0), (1, vI x1), (2, vI x2), (3, vI x3), (4, vI x4)] [] Q :=
  j_iinc 4 (lv2 := [(4, vI (x4 + 1)), (0, vA x0), (1, vI x1), (2, vI x2), (3, vI x3)]) dX11_votes_135 rfl (by decide) rfl (j_goto (tgt := 27) dX11_votes_138 (by decide) (j_sub [1, 2, 3, 4, 0] rfl (hc27 _ _ _ _ _ _ h)))
def VX11_votes_131 (d : Nat) (c27 : Nat → Int → Int → Int → Int → MS → Prop) (Q : Out → MS → Prop) (x0 : Nat) (x1 : Int) (x4 : Int) (x5 : Int) (t0 : Int) (S : MS) : Prop :=
  VX11_votes_135 d c27 Q x0 x1 t0 x5 x4 S
theorem JX11_votes_131 {d : Nat} {c27 : Nat → Int → Int → Int → Int → MS → Prop} {S0 : MS} {Q : Out → MS → Prop} (hc27 : ∀ (x0 : Nat) (x1 : Int) (x2 : Int) (x3 : Int) (x4 : Int) (S : MS), c27 x0 x1 x2 x3 x4 S → Jw FinM RX11 cX11_votes 7 (some .int) [] yX11_votes (d + 1) S0 S 27 [(0, vA x0), (1, vI x1), (2, vI x2), (3, vI x3), (4, vI x4)] [] Q) (x0 : Nat) (x1 : Int) (x4 : Int) (x5 : Int) (t0 : Int) (S : MS) (h : VX11_votes_131 d c27 Q x0 x1 x4 x5 t0 S) : Jw FinM RX11 cX11_votes 7 (some .int) [] yX11_votes (d + 1) S0 S 131 [(0, vA x0), (1, vI x1), (4, vI x4), (5, vI x5)] [vI t0] Q :=
  j_istore_n (lv2 := [(2, vI t0), (0, vA x0), (1, vI x1), (4, vI x4), (5, vI x5)]) dX11_votes_131 (by decide) rfl (j_iload 4 dX11_votes_132 rfl (j_istore_n (lv2 := [(3, vI x5), (2, vI t0), (0, vA x0), (1, vI x1), (4, vI x4), (5, vI x5)]) dX11_votes_134 (by decide) rfl (j_sub [2, 3, 1, 0, 4] rfl (JX11_votes_135 hc27 _ _ _ _ _ _ h))))
def VX11_votes_42 (d : Nat) (c27 : Nat → Int → Int → Int → Int → MS → Prop) (Q : Out → MS → Prop) : Nat → Nat → Int → Int → Int → Int → Int → Int → MS → Prop
  | 0, _, _, _, _, _, _, _, _ => False
  | n + 1, x0, x1, x2, x3, x4, x5, x6, S => S.K x0 = 11 ∧ Mw hX11_notes yX11_notes d [vA x0] S (oI (fun r1 S1 => (R32 x6 ∧ R32 r1) ∧ ((r1 ≤ x6) → (R32 x5 ∧ R32 x3) ∧ ((x5 < x3) → VX11_votes_135 d c27 Q x0 x1 x2 x3 x4 S1) ∧ (¬ (x5 < x3) → R32 x5 ∧ (¬ (x5 = 0) → (R32 x5 ∧ R32 x3) ∧ (¬ (x5 = x3) → VX11_votes_131 d c27 Q x0 x1 x4 x5 x4 S1) ∧ ((x5 = x3) → VX11_votes_131 d c27 Q x0 x1 x4 x5 ((-1)) S1)) ∧ ((x5 = 0) → VX11_votes_135 d c27 Q x0 x1 x2 x3 x4 S1))) ∧ (¬ (r1 ≤ x6) → S1.K x0 = 11 ∧ Mw hX11_ofNote yX11_ofNote d [vA x0, vI x6, vI 0] S1 (oI (fun r2 S2 => S2.K x0 = 11 ∧ Mw hX11_ofScale yX11_ofScale d [vA x0, vI r2, vI 0] S2 (oI (fun r3 S3 => R32 r3 ∧ (¬ (r3 = 0) → VX11_votes_95 d c27 (VX11_votes_42 d c27 Q n) Q x0 x1 x2 x3 x4 x6 x5 S3) ∧ ((r3 = 0) → S3.K x0 = 11 ∧ Mw hX11_ofNote yX11_ofNote d [vA x0, vI x6, vI 1] S3 (oI (fun r4 S4 => (R32 r4 ∧ R32 x1) ∧ (¬ (r4 = x1) → VX11_votes_95 d c27 (VX11_votes_42 d c27 Q n) Q x0 x1 x2 x3 x4 x6 x5 S4) ∧ ((r4 = x1) → S4.K x0 = 11 ∧ Mw hX11_ofNote yX11_ofNote d [vA x0, vI x6, vI 2] S4 (oI (fun r5 S5 => (R32 r5 ∧ R32 x4) ∧ (¬ (r5 = x4) → VX11_votes_95 d c27 (VX11_votes_42 d c27 Q n) Q x0 x1 x2 x3 x4 x6 x5 S5) ∧ ((r5 = x4) → VX11_votes_96 d c27 (VX11_votes_42 d c27 Q n) Q x0 x1 x2 x3 x4 x6 1 x5 S5))))))))))))))
theorem JX11_votes_42 {d : Nat} {c27 : Nat → Int → Int → Int → Int → MS → Prop} {S0 : MS} {Q : Out → MS → Prop} (hc27 : ∀ (x0 : Nat) (x1 : Int) (x2 : Int) (x3 : Int) (x4 : Int) (S : MS), c27 x0 x1 x2 x3 x4 S → Jw FinM RX11 cX11_votes 7 (some .int) [] yX11_votes (d + 1) S0 S 27 [(0, vA x0), (1, vI x1), (2, vI x2), (3, vI x3), (4, vI x4)] [] Q) : ∀ (n : Nat) (x0 : Nat) (x1 : Int) (x2 : Int) (x3 : Int) (x4 : Int) (x5 : Int) (x6 : Int) (S : MS), VX11_votes_42 d c27 Q n x0 x1 x2 x3 x4 x5 x6 S → Jw FinM RX11 cX11_votes 7 (some .int) [] yX11_votes (d + 1) S0 S 42 [(0, vA x0), (1, vI x1), (2, vI x2), (3, vI x3), (4, vI x4), (5, vI x5), (6, vI x6)] [] Q := by
  intro n
  induction n with
  | zero => intro x0 x1 x2 x3 x4 x5 x6 S h; exact h.elim
  | succ n ih =>
    intro x0 x1 x2 x3 x4 x5 x6 S h
    exact j_iload 6 dX11_votes_42 rfl (j_aload_n 0 dX11_votes_44 rfl (j_callV (rest := [vI x6]) 11 [] k_RX11_91 ⟨w_7_202, p_4_8⟩ ⟨_, _, rfl⟩ (by decide) rfl rfl (Nat.le_of_ble_eq_true rfl) dX11_votes_45 h (kI (fun r1 S1 h => j_icmp_ge (tgt := 105) dX11_votes_48 (by decide) h (fun h => j_iload 5 dX11_votes_105 rfl (j_iload_n 3 dX11_votes_107 rfl (j_icmp_lt (tgt := 135) dX11_votes_108 (by decide) h (fun h => j_sub [0, 1, 2, 3, 4] rfl (JX11_votes_135 hc27 _ _ _ _ _ _ h)) (fun h => j_iload 5 dX11_votes_111 rfl (j_if_ne (tgt := 119) dX11_votes_113 (by decide) h (fun h => j_iload 5 dX11_votes_119 rfl (j_iload_n 3 dX11_votes_121 rfl (j_icmp_ne (tgt := 129) dX11_votes_122 (by decide) h (fun h => j_iload 4 dX11_votes_129 rfl (j_sub [0, 1, 4, 5] rfl (JX11_votes_131 hc27 _ _ _ _ _ _ h))) (fun h => j_iconst dX11_votes_125 (j_goto (tgt := 131) dX11_votes_126 (by decide) (j_sub [0, 1, 4, 5] rfl (JX11_votes_131 hc27 _ _ _ _ _ _ h))))))) (fun h => j_goto (tgt := 135) dX11_votes_116 (by decide) (j_sub [0, 1, 2, 3, 4] rfl (JX11_votes_135 hc27 _ _ _ _ _ _ h)))))))) (fun h => j_iload 5 dX11_votes_51 rfl (j_aload_n 0 dX11_votes_53 rfl (j_aload_n 0 dX11_votes_54 rfl (j_iload 6 dX11_votes_55 rfl (j_iconst dX11_votes_57 (j_callV (rest := [vA x0, vI x5]) 11 [vI x6, vI 0] k_RX11_215 ⟨w_8_26, p_5_2⟩ ⟨_, _, rfl⟩ (by decide) rfl rfl (Nat.le_of_ble_eq_true rfl) dX11_votes_58 h (kI (fun r2 S2 h => j_iconst dX11_votes_61 (j_callV (rest := [vI x5]) 11 [vI r2, vI 0] k_RX11_94 ⟨w_7_239, p_4_14⟩ ⟨_, _, rfl⟩ (by decide) rfl rfl (Nat.le_of_ble_eq_true rfl) dX11_votes_62 h (kI (fun r3 S3 h => j_if_ne (tgt := 95) dX11_votes_65 (by decide) h (fun h => j_sub [0, 1, 2, 3, 4, 6] rfl (JX11_votes_95 hc27 ih _ _ _ _ _ _ _ _ h)) (fun h => j_aload_n 0 dX11_votes_68 rfl (j_iload 6 dX11_votes_69 rfl (j_iconst dX11_votes_71 (j_callV (rest := [vI x5]) 11 [vI x6, vI 1] k_RX11_215 ⟨w_8_26, p_5_2⟩ ⟨_, _, rfl⟩ (by decide) rfl rfl (Nat.le_of_ble_eq_true rfl) dX11_votes_72 h (kI (fun r4 S4 h => j_iload_n 1 dX11_votes_75 rfl (j_icmp_ne (tgt := 95) dX11_votes_76 (by decide) h (fun h => j_sub [0, 1, 2, 3, 4, 6] rfl (JX11_votes_95 hc27 ih _ _ _ _ _ _ _ _ h)) (fun h => j_aload_n 0 dX11_votes_79 rfl (j_iload 6 dX11_votes_80 rfl (j_iconst dX11_votes_82 (j_callV (rest := [vI x5]) 11 [vI x6, vI 2] k_RX11_215 ⟨w_8_26, p_5_2⟩ ⟨_, _, rfl⟩ (by decide) rfl rfl (Nat.le_of_ble_eq_true rfl) dX11_votes_83 h (kI (fun r5 S5 h => j_iload 4 dX11_votes_86 rfl (j_icmp_ne (tgt := 95) dX11_votes_88 (by decide) h (fun h => j_sub [0, 1, 2, 3, 4, 6] rfl (JX11_votes_95 hc27 ih _ _ _ _ _ _ _ _ h)) (fun h => j_iconst dX11_votes_91 (j_goto (tgt := 96) dX11_votes_92 (by decide) (j_sub [0, 1, 2, 3, 4, 6] rfl (JX11_votes_96 hc27 ih _ _ _ _ _ _ _ _ _ h))))))) (fun _ _ h => h.elim)))))))) (fun _ _ h => h.elim))))))) (fun _ _ h => h.elim)))) (fun _ _ h => h.elim))))))))) (fun _ _ h => h.elim)))
def VX11_votes_27 (d : Nat) (Q : Out → MS → Prop) : Nat → Nat → Int → Int → Int → Int → MS → Prop
  | 0, _, _, _, _, _, _ => False
  | n + 1, x0, x1, x2, x3, x4, S => S.K x0 = 11 ∧ Mw hX11_things yX11_things d [vA x0] S (oI (fun r1 S1 => (R32 x4 ∧ R32 r1) ∧ ((r1 ≤ x4) → Q (.inl (some (vI x2))) S1) ∧ (¬ (r1 ≤ x4) → ∃ m, VX11_votes_42 d (VX11_votes_27 d Q n) Q m x0 x1 x2 x3 x4 0 0 S1)))
theorem JX11_votes_27 {d : Nat} {S0 : MS} {Q : Out → MS → Prop} : ∀ (n : Nat) (x0 : Nat) (x1 : Int) (x2 : Int) (x3 : Int) (x4 : Int) (S : MS), VX11_votes_27 d Q n x0 x1 x2 x3 x4 S → Jw FinM RX11 cX11_votes 7 (some .int) [] yX11_votes (d + 1) S0 S 27 [(0, vA x0), (1, vI x1), (2, vI x2), (3, vI x3), (4, vI x4)] [] Q := by
  intro n
  induction n with
  | zero => intro x0 x1 x2 x3 x4 S h; exact h.elim
  | succ n ih =>
    intro x0 x1 x2 x3 x4 S h
    exact j_iload 4 dX11_votes_27 rfl (j_aload_n 0 dX11_votes_29 rfl (j_callV (rest := [vI x4]) 11 [] k_RX11_83 ⟨w_7_218, p_4_10⟩ ⟨_, _, rfl⟩ (by decide) rfl rfl (Nat.le_of_ble_eq_true rfl) dX11_votes_30 h (kI (fun r1 S1 h => j_icmp_ge (tgt := 141) dX11_votes_33 (by decide) h (fun h => j_iload_n 2 dX11_votes_141 rfl (j_iret rfl dX11_votes_142 h)) (fun h => j_iconst dX11_votes_36 (j_istore (lv2 := [(5, vI 0), (0, vA x0), (1, vI x1), (2, vI x2), (3, vI x3), (4, vI x4)]) dX11_votes_37 (by decide) rfl (j_iconst dX11_votes_39 (j_istore (lv2 := [(6, vI 0), (5, vI 0), (0, vA x0), (1, vI x1), (2, vI x2), (3, vI x3), (4, vI x4)]) dX11_votes_40 (by decide) rfl (Exists.elim h (fun m h => j_sub [2, 3, 4, 5, 6, 1, 0] rfl (JX11_votes_42 ih m _ _ _ _ _ _ _ _ h))))))))) (fun _ _ h => h.elim)))
def VX11_votes_0 (d : Nat) (Q : Out → MS → Prop) (x0 : Nat) (x1 : Int) (S : MS) : Prop :=
  S.K x0 = 11 ∧ ((S.setI x0 0 0).K x0 = 11 ∧ Mw hX11_isNoThree yX11_isNoThree d [vA x0, vI x1] (S.setI x0 0 0) (oI (fun r1 S1 => S1.K x0 = 11 ∧ Mw hX11_throwsIf yX11_throwsIf d [vA x0, vI r1, vI 1] S1 (oI (fun r2 S2 => R32 r2 ∧ ((r2 = 0) → ∃ m, VX11_votes_27 d Q m x0 x1 ((-1)) 0 0 S2) ∧ (¬ (r2 = 0) → Q (.inl (some (vI 0))) S2))))))
theorem JX11_votes_0 {d : Nat} {S0 : MS} {Q : Out → MS → Prop} (x0 : Nat) (x1 : Int) (S : MS) (h : VX11_votes_0 d Q x0 x1 S) : Jw FinM RX11 cX11_votes 7 (some .int) [] yX11_votes (d + 1) S0 S 0 [(0, vA x0), (1, vI x1)] [] Q :=
  j_aload_n 0 dX11_votes_0 rfl (j_iconst dX11_votes_1 (j_putI 11 0 f_RX11_3 dX11_votes_2 h (fun h => j_aload_n 0 dX11_votes_5 rfl (j_aload_n 0 dX11_votes_6 rfl (j_iload_n 1 dX11_votes_7 rfl (j_callV (rest := [vA x0]) 11 [vI x1] k_RX11_259 ⟨w_8_90, p_5_13⟩ ⟨_, _, rfl⟩ (by decide) rfl rfl (Nat.le_of_ble_eq_true rfl) dX11_votes_8 h (kI (fun r1 S1 h => j_iconst dX11_votes_11 (j_callV (rest := []) 11 [vI r1, vI 1] k_RX11_190 ⟨w_7_191, p_4_7⟩ ⟨_, _, rfl⟩ (by decide) rfl rfl (Nat.le_of_ble_eq_true rfl) dX11_votes_12 h (kI (fun r2 S2 h => j_if_eq (tgt := 20) dX11_votes_15 (by decide) h (fun h => j_iconst dX11_votes_20 (j_istore_n (lv2 := [(2, vI ((-1))), (0, vA x0), (1, vI x1)]) dX11_votes_21 (by decide) rfl (j_iconst dX11_votes_22 (j_istore_n (lv2 := [(3, vI 0), (2, vI ((-1))), (0, vA x0), (1, vI x1)]) dX11_votes_23 (by decide) rfl (j_iconst dX11_votes_24 (j_istore (lv2 := [(4, vI 0), (3, vI 0), (2, vI ((-1))), (0, vA x0), (1, vI x1)]) dX11_votes_25 (by decide) rfl (Exists.elim h (fun m h => j_sub [3, 4, 2, 1, 0] rfl (JX11_votes_27 m _ _ _ _ _ _ h))))))))) (fun h => j_iconst dX11_votes_18 (j_iret rfl dX11_votes_19 h)))) (fun _ _ h => h.elim)))) (fun _ _ h => h.elim)))))))
theorem MX11_votes {d : Nat} {x0 : Nat} {x1 : Int} {S : MS} {Q : Out → MS → Prop} (h : VX11_votes_0 d Q x0 x1 S) : Mw hX11_votes yX11_votes (d + 1) [vA x0, vI x1] S Q := Mw.ofJ (by decide) (Nat.le_of_ble_eq_true rfl) (JX11_votes_0 _ _ S h)
theorem dX11_listsSets_0 : decode cX11_listsSets 0 = .ok (.aload_n 0, 1) := by decide +kernel
theorem dX11_listsSets_1 : decode cX11_listsSets 1 = .ok (.iconst 0, 1) := by decide +kernel
theorem dX11_listsSets_2 : decode cX11_listsSets 2 = .ok (.putfield 277, 3) := by decide +kernel
theorem dX11_listsSets_5 : decode cX11_listsSets 5 = .ok (.aload_n 0, 1) := by decide +kernel
theorem dX11_listsSets_6 : decode cX11_listsSets 6 = .ok (.invokevirtual 83, 3) := by decide +kernel
theorem dX11_listsSets_9 : decode cX11_listsSets 9 = .ok (.iload_n 1, 1) := by decide +kernel
theorem dX11_listsSets_10 : decode cX11_listsSets 10 = .ok (.if_icmp .ge 4, 3) := by decide +kernel
theorem dX11_listsSets_13 : decode cX11_listsSets 13 = .ok (.return_, 1) := by decide +kernel
theorem dX11_listsSets_14 : decode cX11_listsSets 14 = .ok (.iconst 0, 1) := by decide +kernel
theorem dX11_listsSets_15 : decode cX11_listsSets 15 = .ok (.istore_n 2, 1) := by decide +kernel
theorem dX11_listsSets_16 : decode cX11_listsSets 16 = .ok (.iload_n 2, 1) := by decide +kernel
theorem dX11_listsSets_17 : decode cX11_listsSets 17 = .ok (.iload_n 1, 1) := by decide +kernel
theorem dX11_listsSets_18 : decode cX11_listsSets 18 = .ok (.if_icmp .ge 16, 3) := by decide +kernel
theorem dX11_listsSets_21 : decode cX11_listsSets 21 = .ok (.aload_n 0, 1) := by decide +kernel
theorem dX11_listsSets_22 : decode cX11_listsSets 22 = .ok (.getfield 55, 3) := by decide +kernel
theorem dX11_listsSets_25 : decode cX11_listsSets 25 = .ok (.iload_n 2, 1) := by decide +kernel
theorem dX11_listsSets_26 : decode cX11_listsSets 26 = .ok (.iload_n 2, 1) := by decide +kernel
theorem dX11_listsSets_27 : decode cX11_listsSets 27 = .ok (.iastore, 1) := by decide +kernel
theorem dX11_listsSets_28 : decode cX11_listsSets 28 = .ok (.iinc 2 1, 3) := by decide +kernel
theorem dX11_listsSets_31 : decode cX11_listsSets 31 = .ok (.goto (-15), 3) := by decide +kernel
theorem dX11_listsSets_34 : decode cX11_listsSets 34 = .ok (.iconst 1, 1) := by decide +kernel
theorem dX11_listsSets_35 : decode cX11_listsSets 35 = .ok (.istore_n 2, 1) := by decide +kernel
theorem dX11_listsSets_36 : decode cX11_listsSets 36 = .ok (.iload_n 2, 1) := by decide +kernel
theorem dX11_listsSets_37 : decode cX11_listsSets 37 = .ok (.ifCond .eq 40, 3) := by decide +kernel
theorem dX11_listsSets_40 : decode cX11_listsSets 40 = .ok (.aload_n 0, 1) := by decide +kernel
theorem dX11_listsSets_41 : decode cX11_listsSets 41 = .ok (.getfield 58, 3) := by decide +kernel
theorem dX11_listsSets_44 : decode cX11_listsSets 44 = .ok (.aload_n 0, 1) := by decide +kernel
theorem dX11_listsSets_45 : decode cX11_listsSets 45 = .ok (.getfield 277, 3) := by decide +kernel
theorem dX11_listsSets_48 : decode cX11_listsSets 48 = .ok (.aload_n 0, 1) := by decide +kernel
theorem dX11_listsSets_49 : decode cX11_listsSets 49 = .ok (.iload_n 1, 1) := by decide +kernel
theorem dX11_listsSets_50 : decode cX11_listsSets 50 = .ok (.invokevirtual 298, 3) := by decide +kernel
theorem dX11_listsSets_53 : decode cX11_listsSets 53 = .ok (.iastore, 1) := by decide +kernel
theorem dX11_listsSets_54 : decode cX11_listsSets 54 = .ok (.aload_n 0, 1) := by decide +kernel
theorem dX11_listsSets_55 : decode cX11_listsSets 55 = .ok (.dup, 1) := by decide +kernel
theorem dX11_listsSets_56 : decode cX11_listsSets 56 = .ok (.getfield 277, 3) := by decide +kernel
theorem dX11_listsSets_59 : decode cX11_listsSets 59 = .ok (.iconst 1, 1) := by decide +kernel
theorem dX11_listsSets_60 : decode cX11_listsSets 60 = .ok (.iadd, 1) := by decide +kernel
theorem dX11_listsSets_61 : decode cX11_listsSets 61 = .ok (.putfield 277, 3) := by decide +kernel
theorem dX11_listsSets_64 : decode cX11_listsSets 64 = .ok (.aload_n 0, 1) := by decide +kernel
theorem dX11_listsSets_65 : decode cX11_listsSets 65 = .ok (.iload_n 1, 1) := by decide +kernel
theorem dX11_listsSets_66 : decode cX11_listsSets 66 = .ok (.aload_n 0, 1) := by decide +kernel
theorem dX11_listsSets_67 : decode cX11_listsSets 67 = .ok (.invokevirtual 83, 3) := by decide +kernel
theorem dX11_listsSets_70 : decode cX11_listsSets 70 = .ok (.invokevirtual 301, 3) := by decide +kernel
theorem dX11_listsSets_73 : decode cX11_listsSets 73 = .ok (.istore_n 2, 1) := by decide +kernel
theorem dX11_listsSets_74 : decode cX11_listsSets 74 = .ok (.goto (-38), 3) := by decide +kernel
theorem dX11_listsSets_77 : decode cX11_listsSets 77 = .ok (.return_, 1) := by decide +kernel
def VX11_listsSets_36 (d : Nat) (Q : Out → MS → Prop) : Nat → Nat → Int → Int → MS → Prop
  | 0, _, _, _, _ => False
  | n + 1, x0, x1, x2, S => R32 x2 ∧ ((x2 = 0) → Q (.inl none) S) ∧ (¬ (x2 = 0) → S.K x0 = 11 ∧ ∃ b1, S.R x0 22 = some b1 ∧ (S.K x0 = 11 ∧ (S.K x0 = 11 ∧ Mw hX11_chosenBits yX11_chosenBits d [vA x0, vI x1] S (oI (fun r2 S2 => (S2.K b1 = 13 ∧ 0 ≤ (S.I x0 23) ∧ (S.I x0 23) < S2.N b1) ∧ ((S2.setI b1 ((S.I x0 23)).toNat r2).K x0 = 11 ∧ ((S2.setI b1 ((S.I x0 23)).toNat r2).K x0 = 11 ∧ (∀ S3 : MS, S3 = (S2.setI b1 ((S.I x0 23)).toNat r2).setI x0 23 (((S2.setI b1 ((S.I x0 23)).toNat r2).I x0 23) + 1) → S3.K x0 = 11 ∧ Mw hX11_things yX11_things d [vA x0] S3 (oI (fun r4 S4 => S4.K x0 = 11 ∧ Mw hX11_chooses yX11_chooses d [vA x0, vI x1, vI r4] S4 (oI (fun r5 S5 => (VX11_listsSets_36 d Q n) x0 x1 r5 S5))))))))))))
theorem JX11_listsSets_36 {d : Nat} {S0 : MS} {Q : Out → MS → Prop} : ∀ (n : Nat) (x0 : Nat) (x1 : Int) (x2 : Int) (S : MS), VX11_listsSets_36 d Q n x0 x1 x2 S → Jw FinM RX11 cX11_listsSets 3 none [] yX11_listsSets (d + 1) S0 S 36 [(0, vA x0), (1, vI x1), (2, vI x2)] [] Q := by
  intro n
  induction n with
  | zero => intro x0 x1 x2 S h; exact h.elim
  | succ n ih =>
    intro x0 x1 x2 S h
    exact j_iload_n 2 dX11_listsSets_36 rfl (j_if_eq (tgt := 77) dX11_listsSets_37 (by decide) h (fun h => j_vret rfl dX11_listsSets_77 h) (fun h => j_aload_n 0 dX11_listsSets_40 rfl (j_getR 11 22 f_RX11_58 dX11_listsSets_41 h (fun b1 h => j_aload_n 0 dX11_listsSets_44 rfl (j_getI 11 23 f_RX11_277 dX11_listsSets_45 h (fun h => j_aload_n 0 dX11_listsSets_48 rfl (j_iload_n 1 dX11_listsSets_49 rfl (j_callV (rest := [vI (S.I x0 23), vA b1]) 11 [vI x1] k_RX11_298 ⟨w_8_134, p_6_3⟩ ⟨_, _, rfl⟩ (by decide) rfl rfl (Nat.le_of_ble_eq_true rfl) dX11_listsSets_50 h (kI (fun r2 S2 h => j_iast dX11_listsSets_53 h (fun h => j_aload_n 0 dX11_listsSets_54 rfl (j_dup rfl dX11_listsSets_55 (j_getI 11 23 f_RX11_277 dX11_listsSets_56 h (fun h => j_iconst dX11_listsSets_59 (j_iadd dX11_listsSets_60 (j_putI 11 23 f_RX11_277 dX11_listsSets_61 h (fun h => j_bind h (fun S3 h => j_aload_n 0 dX11_listsSets_64 rfl (j_iload_n 1 dX11_listsSets_65 rfl (j_aload_n 0 dX11_listsSets_66 rfl (j_callV (rest := [vI x1, vA x0]) 11 [] k_RX11_83 ⟨w_7_218, p_4_10⟩ ⟨_, _, rfl⟩ (by decide) rfl rfl (Nat.le_of_ble_eq_true rfl) dX11_listsSets_67 h (kI (fun r4 S4 h => j_callV (rest := []) 11 [vI x1, vI r4] k_RX11_301 ⟨w_8_138, p_6_4⟩ ⟨_, _, rfl⟩ (by decide) rfl rfl (Nat.le_of_ble_eq_true rfl) dX11_listsSets_70 h (kI (fun r5 S5 h => j_istore_n (lv2 := [(2, vI r5), (0, vA x0), (1, vI x1)]) dX11_listsSets_73 (by decide) rfl (j_goto (tgt := 36) dX11_listsSets_74 (by decide) (j_sub [1, 2, 0] rfl (ih _ _ _ _ h))))) (fun _ _ h => h.elim))) (fun _ _ h => h.elim)))))))))))))) (fun _ _ h => h.elim)))))))))
def VX11_listsSets_16 (d : Nat) (Q : Out → MS → Prop) : Nat → Nat → Int → Int → MS → Prop
  | 0, _, _, _, _ => False
  | n + 1, x0, x1, x2, S => (R32 x2 ∧ R32 x1) ∧ ((x1 ≤ x2) → ∃ m, VX11_listsSets_36 d Q m x0 x1 1 S) ∧ (¬ (x1 ≤ x2) → S.K x0 = 11 ∧ ∃ b1, S.R x0 21 = some b1 ∧ ((S.K b1 = 13 ∧ 0 ≤ x2 ∧ x2 < S.N b1) ∧ ((VX11_listsSets_16 d Q n) x0 x1 (x2 + 1) (S.setI b1 (x2).toNat x2))))
theorem JX11_listsSets_16 {d : Nat} {S0 : MS} {Q : Out → MS → Prop} : ∀ (n : Nat) (x0 : Nat) (x1 : Int) (x2 : Int) (S : MS), VX11_listsSets_16 d Q n x0 x1 x2 S → Jw FinM RX11 cX11_listsSets 3 none [] yX11_listsSets (d + 1) S0 S 16 [(0, vA x0), (1, vI x1), (2, vI x2)] [] Q := by
  intro n
  induction n with
  | zero => intro x0 x1 x2 S h; exact h.elim
  | succ n ih =>
    intro x0 x1 x2 S h
    exact j_iload_n 2 dX11_listsSets_16 rfl (j_iload_n 1 dX11_listsSets_17 rfl (j_icmp_ge (tgt := 34) dX11_listsSets_18 (by decide) h (fun h => j_iconst dX11_listsSets_34 (j_istore_n (lv2 := [(2, vI 1), (0, vA x0), (1, vI x1)]) dX11_listsSets_35 (by decide) rfl (Exists.elim h (fun m h => j_sub [1, 2, 0] rfl (JX11_listsSets_36 m _ _ _ _ h))))) (fun h => j_aload_n 0 dX11_listsSets_21 rfl (j_getR 11 21 f_RX11_55 dX11_listsSets_22 h (fun b1 h => j_iload_n 2 dX11_listsSets_25 rfl (j_iload_n 2 dX11_listsSets_26 rfl (j_iast dX11_listsSets_27 h (fun h => j_iinc 2 (lv2 := [(2, vI (x2 + 1)), (0, vA x0), (1, vI x1)]) dX11_listsSets_28 rfl (by decide) rfl (j_goto (tgt := 16) dX11_listsSets_31 (by decide) (j_sub [1, 2, 0] rfl (ih _ _ _ _ h)))))))))))
def VX11_listsSets_0 (d : Nat) (Q : Out → MS → Prop) (x0 : Nat) (x1 : Int) (S : MS) : Prop :=
  S.K x0 = 11 ∧ ((S.setI x0 23 0).K x0 = 11 ∧ Mw hX11_things yX11_things d [vA x0] (S.setI x0 23 0) (oI (fun r1 S1 => (R32 r1 ∧ R32 x1) ∧ ((x1 ≤ r1) → ∃ m, VX11_listsSets_16 d Q m x0 x1 0 S1) ∧ (¬ (x1 ≤ r1) → Q (.inl none) S1))))
theorem JX11_listsSets_0 {d : Nat} {S0 : MS} {Q : Out → MS → Prop} (x0 : Nat) (x1 : Int) (S : MS) (h : VX11_listsSets_0 d Q x0 x1 S) : Jw FinM RX11 cX11_listsSets 3 none [] yX11_listsSets (d + 1) S0 S 0 [(0, vA x0), (1, vI x1)] [] Q :=
  j_aload_n 0 dX11_listsSets_0 rfl (j_iconst dX11_listsSets_1 (j_putI 11 23 f_RX11_277 dX11_listsSets_2 h (fun h => j_aload_n 0 dX11_listsSets_5 rfl (j_callV (rest := []) 11 [] k_RX11_83 ⟨w_7_218, p_4_10⟩ ⟨_, _, rfl⟩ (by decide) rfl rfl (Nat.le_of_ble_eq_true rfl) dX11_listsSets_6 h (kI (fun r1 S1 h => j_iload_n 1 dX11_listsSets_9 rfl (j_icmp_ge (tgt := 14) dX11_listsSets_10 (by decide) h (fun h => j_iconst dX11_listsSets_14 (j_istore_n (lv2 := [(2, vI 0), (0, vA x0), (1, vI x1)]) dX11_listsSets_15 (by decide) rfl (Exists.elim h (fun m h => j_sub [1, 2, 0] rfl (JX11_listsSets_16 m _ _ _ _ h))))) (fun h => j_vret rfl dX11_listsSets_13 h)))) (fun _ _ h => h.elim)))))
theorem MX11_listsSets {d : Nat} {x0 : Nat} {x1 : Int} {S : MS} {Q : Out → MS → Prop} (h : VX11_listsSets_0 d Q x0 x1 S) : Mw hX11_listsSets yX11_listsSets (d + 1) [vA x0, vI x1] S Q := Mw.ofJ (by decide) (Nat.le_of_ble_eq_true rfl) (JX11_listsSets_0 _ _ S h)
theorem dX11_lays_0 : decode cX11_lays 0 = .ok (.iconst 0, 1) := by decide +kernel
theorem dX11_lays_1 : decode cX11_lays 1 = .ok (.istore 4, 2) := by decide +kernel
theorem dX11_lays_3 : decode cX11_lays 3 = .ok (.iload 4, 2) := by decide +kernel
theorem dX11_lays_5 : decode cX11_lays 5 = .ok (.bipush 7, 2) := by decide +kernel
theorem dX11_lays_7 : decode cX11_lays 7 = .ok (.if_icmp .ge 17, 3) := by decide +kernel
theorem dX11_lays_10 : decode cX11_lays 10 = .ok (.aload_n 0, 1) := by decide +kernel
theorem dX11_lays_11 : decode cX11_lays 11 = .ok (.getfield 61, 3) := by decide +kernel
theorem dX11_lays_14 : decode cX11_lays 14 = .ok (.iload 4, 2) := by decide +kernel
theorem dX11_lays_16 : decode cX11_lays 16 = .ok (.iconst 0, 1) := by decide +kernel
theorem dX11_lays_17 : decode cX11_lays 17 = .ok (.iastore, 1) := by decide +kernel
theorem dX11_lays_18 : decode cX11_lays 18 = .ok (.iinc 4 1, 3) := by decide +kernel
theorem dX11_lays_21 : decode cX11_lays 21 = .ok (.goto (-18), 3) := by decide +kernel
theorem dX11_lays_24 : decode cX11_lays 24 = .ok (.iconst 0, 1) := by decide +kernel
theorem dX11_lays_25 : decode cX11_lays 25 = .ok (.istore 4, 2) := by decide +kernel
theorem dX11_lays_27 : decode cX11_lays 27 = .ok (.iload 4, 2) := by decide +kernel
theorem dX11_lays_29 : decode cX11_lays 29 = .ok (.aload_n 0, 1) := by decide +kernel
theorem dX11_lays_30 : decode cX11_lays 30 = .ok (.getfield 45, 3) := by decide +kernel
theorem dX11_lays_33 : decode cX11_lays 33 = .ok (.iload_n 1, 1) := by decide +kernel
theorem dX11_lays_34 : decode cX11_lays 34 = .ok (.iaload, 1) := by decide +kernel
theorem dX11_lays_35 : decode cX11_lays 35 = .ok (.if_icmp .ge 31, 3) := by decide +kernel
theorem dX11_lays_38 : decode cX11_lays 38 = .ok (.aload_n 0, 1) := by decide +kernel
theorem dX11_lays_39 : decode cX11_lays 39 = .ok (.getfield 61, 3) := by decide +kernel
theorem dX11_lays_42 : decode cX11_lays 42 = .ok (.aload_n 0, 1) := by decide +kernel
theorem dX11_lays_43 : decode cX11_lays 43 = .ok (.iload_n 2, 1) := by decide +kernel
theorem dX11_lays_44 : decode cX11_lays 44 = .ok (.iload_n 3, 1) := by decide +kernel
theorem dX11_lays_45 : decode cX11_lays 45 = .ok (.aload_n 0, 1) := by decide +kernel
theorem dX11_lays_46 : decode cX11_lays 46 = .ok (.iload_n 1, 1) := by decide +kernel
theorem dX11_lays_47 : decode cX11_lays 47 = .ok (.iload 4, 2) := by decide +kernel
theorem dX11_lays_49 : decode cX11_lays 49 = .ok (.invokevirtual 247, 3) := by decide +kernel
theorem dX11_lays_52 : decode cX11_lays 52 = .ok (.invokevirtual 234, 3) := by decide +kernel
theorem dX11_lays_55 : decode cX11_lays 55 = .ok (.dup2, 1) := by decide +kernel
theorem dX11_lays_56 : decode cX11_lays 56 = .ok (.iaload, 1) := by decide +kernel
theorem dX11_lays_57 : decode cX11_lays 57 = .ok (.iconst 1, 1) := by decide +kernel
theorem dX11_lays_58 : decode cX11_lays 58 = .ok (.iadd, 1) := by decide +kernel
theorem dX11_lays_59 : decode cX11_lays 59 = .ok (.iastore, 1) := by decide +kernel
theorem dX11_lays_60 : decode cX11_lays 60 = .ok (.iinc 4 1, 3) := by decide +kernel
theorem dX11_lays_63 : decode cX11_lays 63 = .ok (.goto (-36), 3) := by decide +kernel
theorem dX11_lays_66 : decode cX11_lays 66 = .ok (.aload_n 0, 1) := by decide +kernel
theorem dX11_lays_67 : decode cX11_lays 67 = .ok (.iconst 0, 1) := by decide +kernel
theorem dX11_lays_68 : decode cX11_lays 68 = .ok (.putfield 310, 3) := by decide +kernel
theorem dX11_lays_71 : decode cX11_lays 71 = .ok (.aload_n 0, 1) := by decide +kernel
theorem dX11_lays_72 : decode cX11_lays 72 = .ok (.iconst 0, 1) := by decide +kernel
theorem dX11_lays_73 : decode cX11_lays 73 = .ok (.putfield 313, 3) := by decide +kernel
theorem dX11_lays_76 : decode cX11_lays 76 = .ok (.iconst 0, 1) := by decide +kernel
theorem dX11_lays_77 : decode cX11_lays 77 = .ok (.istore 4, 2) := by decide +kernel
theorem dX11_lays_79 : decode cX11_lays 79 = .ok (.iload 4, 2) := by decide +kernel
theorem dX11_lays_81 : decode cX11_lays 81 = .ok (.bipush 7, 2) := by decide +kernel
theorem dX11_lays_83 : decode cX11_lays 83 = .ok (.if_icmp .ge 51, 3) := by decide +kernel
theorem dX11_lays_86 : decode cX11_lays 86 = .ok (.aload_n 0, 1) := by decide +kernel
theorem dX11_lays_87 : decode cX11_lays 87 = .ok (.aload_n 0, 1) := by decide +kernel
theorem dX11_lays_88 : decode cX11_lays 88 = .ok (.getfield 310, 3) := by decide +kernel
theorem dX11_lays_91 : decode cX11_lays 91 = .ok (.aload_n 0, 1) := by decide +kernel
theorem dX11_lays_92 : decode cX11_lays 92 = .ok (.getfield 61, 3) := by decide +kernel
theorem dX11_lays_95 : decode cX11_lays 95 = .ok (.iload 4, 2) := by decide +kernel
theorem dX11_lays_97 : decode cX11_lays 97 = .ok (.iaload, 1) := by decide +kernel
theorem dX11_lays_98 : decode cX11_lays 98 = .ok (.invokestatic 316, 3) := by decide +kernel
theorem dX11_lays_101 : decode cX11_lays 101 = .ok (.putfield 310, 3) := by decide +kernel
theorem dX11_lays_104 : decode cX11_lays 104 = .ok (.aload_n 0, 1) := by decide +kernel
theorem dX11_lays_105 : decode cX11_lays 105 = .ok (.dup, 1) := by decide +kernel
theorem dX11_lays_106 : decode cX11_lays 106 = .ok (.getfield 313, 3) := by decide +kernel
theorem dX11_lays_109 : decode cX11_lays 109 = .ok (.aload_n 0, 1) := by decide +kernel
theorem dX11_lays_110 : decode cX11_lays 110 = .ok (.getfield 61, 3) := by decide +kernel
theorem dX11_lays_113 : decode cX11_lays 113 = .ok (.iload 4, 2) := by decide +kernel
theorem dX11_lays_115 : decode cX11_lays 115 = .ok (.iaload, 1) := by decide +kernel
theorem dX11_lays_116 : decode cX11_lays 116 = .ok (.aload_n 0, 1) := by decide +kernel
theorem dX11_lays_117 : decode cX11_lays 117 = .ok (.getfield 61, 3) := by decide +kernel
theorem dX11_lays_120 : decode cX11_lays 120 = .ok (.iload 4, 2) := by decide +kernel
theorem dX11_lays_122 : decode cX11_lays 122 = .ok (.iaload, 1) := by decide +kernel
theorem dX11_lays_123 : decode cX11_lays 123 = .ok (.imul, 1) := by decide +kernel
theorem dX11_lays_124 : decode cX11_lays 124 = .ok (.iadd, 1) := by decide +kernel
theorem dX11_lays_125 : decode cX11_lays 125 = .ok (.putfield 313, 3) := by decide +kernel
theorem dX11_lays_128 : decode cX11_lays 128 = .ok (.iinc 4 1, 3) := by decide +kernel
theorem dX11_lays_131 : decode cX11_lays 131 = .ok (.goto (-52), 3) := by decide +kernel
theorem dX11_lays_134 : decode cX11_lays 134 = .ok (.return_, 1) := by decide +kernel
def VX11_lays_79 (d : Nat) (Q : Out → MS → Prop) : Nat → Nat → Int → MS → Prop
  | 0, _, _, _ => False
  | n + 1, x0, x4, S => (R32 x4 ∧ R32 (7 : Int)) ∧ (((7 : Int) ≤ x4) → Q (.inl none) S) ∧ (¬ ((7 : Int) ≤ x4) → S.K x0 = 11 ∧ (S.K x0 = 11 ∧ ∃ b1, S.R x0 24 = some b1 ∧ ((S.K b1 = 13 ∧ 0 ≤ x4 ∧ x4 < S.N b1) ∧ ((R32 (S.I x0 25) ∧ R32 (S.I b1 (x4).toNat)) ∧ (S.K x0 = 11 ∧ ((S.setI x0 25 (max (S.I x0 25) (S.I b1 (x4).toNat))).K x0 = 11 ∧ ((S.setI x0 25 (max (S.I x0 25) (S.I b1 (x4).toNat))).K x0 = 11 ∧ ∃ b2, (S.setI x0 25 (max (S.I x0 25) (S.I b1 (x4).toNat))).R x0 24 = some b2 ∧ (((S.setI x0 25 (max (S.I x0 25) (S.I b1 (x4).toNat))).K b2 = 13 ∧ 0 ≤ x4 ∧ x4 < (S.setI x0 25 (max (S.I x0 25) (S.I b1 (x4).toNat))).N b2) ∧ ((S.setI x0 25 (max (S.I x0 25) (S.I b1 (x4).toNat))).K x0 = 11 ∧ ∃ b3, (S.setI x0 25 (max (S.I x0 25) (S.I b1 (x4).toNat))).R x0 24 = some b3 ∧ (((S.setI x0 25 (max (S.I x0 25) (S.I b1 (x4).toNat))).K b3 = 13 ∧ 0 ≤ x4 ∧ x4 < (S.setI x0 25 (max (S.I x0 25) (S.I b1 (x4).toNat))).N b3) ∧ ((S.setI x0 25 (max (S.I x0 25) (S.I b1 (x4).toNat))).K x0 = 11 ∧ (∀ S4 : MS, S4 = (S.setI x0 25 (max (S.I x0 25) (S.I b1 (x4).toNat))).setI x0 26 (((S.setI x0 25 (max (S.I x0 25) (S.I b1 (x4).toNat))).I x0 26) + (((S.setI x0 25 (max (S.I x0 25) (S.I b1 (x4).toNat))).I b2 (x4).toNat) * ((S.setI x0 25 (max (S.I x0 25) (S.I b1 (x4).toNat))).I b3 (x4).toNat))) → (VX11_lays_79 d Q n) x0 (x4 + 1) S4))))))))))))
theorem JX11_lays_79 {d : Nat} {S0 : MS} {Q : Out → MS → Prop} : ∀ (n : Nat) (x0 : Nat) (x4 : Int) (S : MS), VX11_lays_79 d Q n x0 x4 S → Jw FinM RX11 cX11_lays 5 none [] yX11_lays (d + 1) S0 S 79 [(0, vA x0), (4, vI x4)] [] Q := by
  intro n
  induction n with
  | zero => intro x0 x4 S h; exact h.elim
  | succ n ih =>
    intro x0 x4 S h
    exact j_iload 1 dX11_lays_79 rfl (j_bipush dX11_lays_81 rfl (j_icmp_ge (tgt := 134) dX11_lays_83 (by decide) h (fun h => j_vret rfl dX11_lays_134 h) (fun h => j_aload_n 0 dX11_lays_86 rfl (j_aload_n 0 dX11_lays_87 rfl (j_getI 11 25 f_RX11_310 dX11_lays_88 h (fun h => j_aload_n 0 dX11_lays_91 rfl (j_getR 11 24 f_RX11_61 dX11_lays_92 h (fun b1 h => j_iload 1 dX11_lays_95 rfl (j_iald dX11_lays_97 h (fun h => j_mmax w_8_228 w_2_67 w_1_16 w_mmax (Nat.le_of_ble_eq_true rfl) dX11_lays_98 h (fun h => j_putI 11 25 f_RX11_310 dX11_lays_101 h (fun h => j_aload_n 0 dX11_lays_104 rfl (j_dup rfl dX11_lays_105 (j_getI 11 26 f_RX11_313 dX11_lays_106 h (fun h => j_aload_n 0 dX11_lays_109 rfl (j_getR 11 24 f_RX11_61 dX11_lays_110 h (fun b2 h => j_iload 1 dX11_lays_113 rfl (j_iald dX11_lays_115 h (fun h => j_aload_n 0 dX11_lays_116 rfl (j_getR 11 24 f_RX11_61 dX11_lays_117 h (fun b3 h => j_iload 1 dX11_lays_120 rfl (j_iald dX11_lays_122 h (fun h => j_imul dX11_lays_123 (j_iadd dX11_lays_124 (j_putI 11 26 f_RX11_313 dX11_lays_125 h (fun h => j_bind h (fun S4 h => j_iinc 1 (lv2 := [(4, vI (x4 + 1)), (0, vA x0)]) dX11_lays_128 rfl (by decide) rfl (j_goto (tgt := 79) dX11_lays_131 (by decide) (j_sub [1, 0] rfl (ih _ _ _ h))))))))))))))))))))))))))))))
def VX11_lays_27 (d : Nat) (Q : Out → MS → Prop) : Nat → Nat → Int → Int → Int → Int → MS → Prop
  | 0, _, _, _, _, _, _ => False
  | n + 1, x0, x1, x2, x3, x4, S => S.K x0 = 11 ∧ ∃ b1, S.R x0 17 = some b1 ∧ ((S.K b1 = 13 ∧ 0 ≤ x1 ∧ x1 < S.N b1) ∧ ((R32 x4 ∧ R32 (S.I b1 (x1).toNat)) ∧ (((S.I b1 (x1).toNat) ≤ x4) → S.K x0 = 11 ∧ ((S.setI x0 25 0).K x0 = 11 ∧ (∃ m, VX11_lays_79 d Q m x0 0 ((S.setI x0 25 0).setI x0 26 0)))) ∧ (¬ ((S.I b1 (x1).toNat) ≤ x4) → S.K x0 = 11 ∧ ∃ b2, S.R x0 24 = some b2 ∧ (S.K x0 = 11 ∧ Mw hX11_rowAt yX11_rowAt d [vA x0, vI x1, vI x4] S (oI (fun r3 S3 => S3.K x0 = 11 ∧ Mw hX11_riser yX11_riser d [vA x0, vI x2, vI x3, vI r3] S3 (oI (fun r4 S4 => (S4.K b2 = 13 ∧ 0 ≤ r4 ∧ r4 < S4.N b2) ∧ ((S4.K b2 = 13 ∧ 0 ≤ r4 ∧ r4 < S4.N b2) ∧ ((VX11_lays_27 d Q n) x0 x1 x2 x3 (x4 + 1) (S4.setI b2 (r4).toNat ((S4.I b2 (r4).toNat) + 1))))))))))))
theorem JX11_lays_27 {d : Nat} {S0 : MS} {Q : Out → MS → Prop} : ∀ (n : Nat) (x0 : Nat) (x1 : Int) (x2 : Int) (x3 : Int) (x4 : Int) (S : MS), VX11_lays_27 d Q n x0 x1 x2 x3 x4 S → Jw FinM RX11 cX11_lays 5 none [] yX11_lays (d + 1) S0 S 27 [(0, vA x0), (1, vI x1), (2, vI x2), (3, vI x3), (4, vI x4)] [] Q := by
  intro n
  induction n with
  | zero => intro x0 x1 x2 x3 x4 S h; exact h.elim
  | succ n ih =>
    intro x0 x1 x2 x3 x4 S h
    exact j_iload 4 dX11_lays_27 rfl (j_aload_n 0 dX11_lays_29 rfl (j_getR 11 17 f_RX11_45 dX11_lays_30 h (fun b1 h => j_iload_n 1 dX11_lays_33 rfl (j_iald dX11_lays_34 h (fun h => j_icmp_ge (tgt := 66) dX11_lays_35 (by decide) h (fun h => j_aload_n 0 dX11_lays_66 rfl (j_iconst dX11_lays_67 (j_putI 11 25 f_RX11_310 dX11_lays_68 h (fun h => j_aload_n 0 dX11_lays_71 rfl (j_iconst dX11_lays_72 (j_putI 11 26 f_RX11_313 dX11_lays_73 h (fun h => j_iconst dX11_lays_76 (j_istore (lv2 := [(4, vI 0), (0, vA x0), (1, vI x1), (2, vI x2), (3, vI x3)]) dX11_lays_77 (by decide) rfl (Exists.elim h (fun m h => j_sub [1, 0] rfl (JX11_lays_79 m _ _ _ h))))))))))) (fun h => j_aload_n 0 dX11_lays_38 rfl (j_getR 11 24 f_RX11_61 dX11_lays_39 h (fun b2 h => j_aload_n 0 dX11_lays_42 rfl (j_iload_n 2 dX11_lays_43 rfl (j_iload_n 3 dX11_lays_44 rfl (j_aload_n 0 dX11_lays_45 rfl (j_iload_n 1 dX11_lays_46 rfl (j_iload 4 dX11_lays_47 rfl (j_callV (rest := [vI x3, vI x2, vA x0, vA b2]) 11 [vI x1, vI x4] k_RX11_247 ⟨w_8_74, p_5_11⟩ ⟨_, _, rfl⟩ (by decide) rfl rfl (Nat.le_of_ble_eq_true rfl) dX11_lays_49 h (kI (fun r3 S3 h => j_callV (rest := [vA b2]) 11 [vI x2, vI x3, vI r3] k_RX11_234 ⟨w_8_62, p_5_9⟩ ⟨_, _, rfl⟩ (by decide) rfl rfl (Nat.le_of_ble_eq_true rfl) dX11_lays_52 h (kI (fun r4 S4 h => j_dup2 rfl rfl dX11_lays_55 (j_iald dX11_lays_56 h (fun h => j_iconst dX11_lays_57 (j_iadd dX11_lays_58 (j_iast dX11_lays_59 h (fun h => j_iinc 4 (lv2 := [(4, vI (x4 + 1)), (0, vA x0), (1, vI x1), (2, vI x2), (3, vI x3)]) dX11_lays_60 rfl (by decide) rfl (j_goto (tgt := 27) dX11_lays_63 (by decide) (j_sub [1, 2, 3, 4, 0] rfl (ih _ _ _ _ _ _ h)))))))))) (fun _ _ h => h.elim))) (fun _ _ h => h.elim)))))))))))))))
def VX11_lays_3 (d : Nat) (Q : Out → MS → Prop) : Nat → Nat → Int → Int → Int → Int → MS → Prop
  | 0, _, _, _, _, _, _ => False
  | n + 1, x0, x1, x2, x3, x4, S => (R32 x4 ∧ R32 (7 : Int)) ∧ (((7 : Int) ≤ x4) → ∃ m, VX11_lays_27 d Q m x0 x1 x2 x3 0 S) ∧ (¬ ((7 : Int) ≤ x4) → S.K x0 = 11 ∧ ∃ b1, S.R x0 24 = some b1 ∧ ((S.K b1 = 13 ∧ 0 ≤ x4 ∧ x4 < S.N b1) ∧ ((VX11_lays_3 d Q n) x0 x1 x2 x3 (x4 + 1) (S.setI b1 (x4).toNat 0))))
theorem JX11_lays_3 {d : Nat} {S0 : MS} {Q : Out → MS → Prop} : ∀ (n : Nat) (x0 : Nat) (x1 : Int) (x2 : Int) (x3 : Int) (x4 : Int) (S : MS), VX11_lays_3 d Q n x0 x1 x2 x3 x4 S → Jw FinM RX11 cX11_lays 5 none [] yX11_lays (d + 1) S0 S 3 [(0, vA x0), (1, vI x1), (2, vI x2), (3, vI x3), (4, vI x4)] [] Q := by
  intro n
  induction n with
  | zero => intro x0 x1 x2 x3 x4 S h; exact h.elim
  | succ n ih =>
    intro x0 x1 x2 x3 x4 S h
    exact j_iload 4 dX11_lays_3 rfl (j_bipush dX11_lays_5 rfl (j_icmp_ge (tgt := 24) dX11_lays_7 (by decide) h (fun h => j_iconst dX11_lays_24 (j_istore (lv2 := [(4, vI 0), (0, vA x0), (1, vI x1), (2, vI x2), (3, vI x3)]) dX11_lays_25 (by decide) rfl (Exists.elim h (fun m h => j_sub [1, 2, 3, 4, 0] rfl (JX11_lays_27 m _ _ _ _ _ _ h))))) (fun h => j_aload_n 0 dX11_lays_10 rfl (j_getR 11 24 f_RX11_61 dX11_lays_11 h (fun b1 h => j_iload 4 dX11_lays_14 rfl (j_iconst dX11_lays_16 (j_iast dX11_lays_17 h (fun h => j_iinc 4 (lv2 := [(4, vI (x4 + 1)), (0, vA x0), (1, vI x1), (2, vI x2), (3, vI x3)]) dX11_lays_18 rfl (by decide) rfl (j_goto (tgt := 3) dX11_lays_21 (by decide) (j_sub [1, 2, 3, 4, 0] rfl (ih _ _ _ _ _ _ h)))))))))))
def VX11_lays_0 (d : Nat) (Q : Out → MS → Prop) (x0 : Nat) (x1 : Int) (x2 : Int) (x3 : Int) (S : MS) : Prop :=
  ∃ m, VX11_lays_3 d Q m x0 x1 x2 x3 0 S
theorem JX11_lays_0 {d : Nat} {S0 : MS} {Q : Out → MS → Prop} (x0 : Nat) (x1 : Int) (x2 : Int) (x3 : Int) (S : MS) (h : VX11_lays_0 d Q x0 x1 x2 x3 S) : Jw FinM RX11 cX11_lays 5 none [] yX11_lays (d + 1) S0 S 0 [(0, vA x0), (1, vI x1), (2, vI x2), (3, vI x3)] [] Q :=
  j_iconst dX11_lays_0 (j_istore (lv2 := [(4, vI 0), (0, vA x0), (1, vI x1), (2, vI x2), (3, vI x3)]) dX11_lays_1 (by decide) rfl (Exists.elim h (fun m h => j_sub [1, 2, 3, 4, 0] rfl (JX11_lays_3 m _ _ _ _ _ _ h))))
theorem MX11_lays {d : Nat} {x0 : Nat} {x1 : Int} {x2 : Int} {x3 : Int} {S : MS} {Q : Out → MS → Prop} (h : VX11_lays_0 d Q x0 x1 x2 x3 S) : Mw hX11_lays yX11_lays (d + 1) [vA x0, vI x1, vI x2, vI x3] S Q := Mw.ofJ (by decide) (Nat.le_of_ble_eq_true rfl) (JX11_lays_0 _ _ _ _ S h)
theorem dX11_laying_0 : decode cX11_laying 0 = .ok (.aload_n 0, 1) := by decide +kernel
theorem dX11_laying_1 : decode cX11_laying 1 = .ok (.iconst 0, 1) := by decide +kernel
theorem dX11_laying_2 : decode cX11_laying 2 = .ok (.putfield 3, 3) := by decide +kernel
theorem dX11_laying_5 : decode cX11_laying 5 = .ok (.aload_n 0, 1) := by decide +kernel
theorem dX11_laying_6 : decode cX11_laying 6 = .ok (.aload_n 0, 1) := by decide +kernel
theorem dX11_laying_7 : decode cX11_laying 7 = .ok (.iload_n 1, 1) := by decide +kernel
theorem dX11_laying_8 : decode cX11_laying 8 = .ok (.invokevirtual 203, 3) := by decide +kernel
theorem dX11_laying_11 : decode cX11_laying 11 = .ok (.iconst 1, 1) := by decide +kernel
theorem dX11_laying_12 : decode cX11_laying 12 = .ok (.invokevirtual 190, 3) := by decide +kernel
theorem dX11_laying_15 : decode cX11_laying 15 = .ok (.ifCond .ne 17, 3) := by decide +kernel
theorem dX11_laying_18 : decode cX11_laying 18 = .ok (.aload_n 0, 1) := by decide +kernel
theorem dX11_laying_19 : decode cX11_laying 19 = .ok (.aload_n 0, 1) := by decide +kernel
theorem dX11_laying_20 : decode cX11_laying 20 = .ok (.iload_n 1, 1) := by decide +kernel
theorem dX11_laying_21 : decode cX11_laying 21 = .ok (.iload_n 2, 1) := by decide +kernel
theorem dX11_laying_22 : decode cX11_laying 22 = .ok (.invokevirtual 206, 3) := by decide +kernel
theorem dX11_laying_25 : decode cX11_laying 25 = .ok (.iconst 2, 1) := by decide +kernel
theorem dX11_laying_26 : decode cX11_laying 26 = .ok (.invokevirtual 190, 3) := by decide +kernel
theorem dX11_laying_29 : decode cX11_laying 29 = .ok (.ifCond .eq 5, 3) := by decide +kernel
theorem dX11_laying_32 : decode cX11_laying 32 = .ok (.iconst 0, 1) := by decide +kernel
theorem dX11_laying_33 : decode cX11_laying 33 = .ok (.ireturn, 1) := by decide +kernel
theorem dX11_laying_34 : decode cX11_laying 34 = .ok (.aload_n 0, 1) := by decide +kernel
theorem dX11_laying_35 : decode cX11_laying 35 = .ok (.invokevirtual 253, 3) := by decide +kernel
theorem dX11_laying_38 : decode cX11_laying 38 = .ok (.aload_n 0, 1) := by decide +kernel
theorem dX11_laying_39 : decode cX11_laying 39 = .ok (.iconst 0, 1) := by decide +kernel
theorem dX11_laying_40 : decode cX11_laying 40 = .ok (.aload_n 0, 1) := by decide +kernel
theorem dX11_laying_41 : decode cX11_laying 41 = .ok (.iload_n 1, 1) := by decide +kernel
theorem dX11_laying_42 : decode cX11_laying 42 = .ok (.iconst 0, 1) := by decide +kernel
theorem dX11_laying_43 : decode cX11_laying 43 = .ok (.invokevirtual 94, 3) := by decide +kernel
theorem dX11_laying_46 : decode cX11_laying 46 = .ok (.iload_n 2, 1) := by decide +kernel
theorem dX11_laying_47 : decode cX11_laying 47 = .ok (.invokevirtual 321, 3) := by decide +kernel
theorem dX11_laying_50 : decode cX11_laying 50 = .ok (.iload_n 3, 1) := by decide +kernel
theorem dX11_laying_51 : decode cX11_laying 51 = .ok (.ifCond .eq 10, 3) := by decide +kernel
theorem dX11_laying_54 : decode cX11_laying 54 = .ok (.aload_n 0, 1) := by decide +kernel
theorem dX11_laying_55 : decode cX11_laying 55 = .ok (.getfield 313, 3) := by decide +kernel
theorem dX11_laying_58 : decode cX11_laying 58 = .ok (.goto 7, 3) := by decide +kernel
theorem dX11_laying_61 : decode cX11_laying 61 = .ok (.aload_n 0, 1) := by decide +kernel
theorem dX11_laying_62 : decode cX11_laying 62 = .ok (.getfield 310, 3) := by decide +kernel
theorem dX11_laying_65 : decode cX11_laying 65 = .ok (.ireturn, 1) := by decide +kernel
def VX11_laying_0 (d : Nat) (Q : Out → MS → Prop) (x0 : Nat) (x1 : Int) (x2 : Int) (x3 : Int) (S : MS) : Prop :=
  S.K x0 = 11 ∧ ((S.setI x0 0 0).K x0 = 11 ∧ Mw hX11_noScale yX11_noScale d [vA x0, vI x1] (S.setI x0 0 0) (oI (fun r1 S1 => S1.K x0 = 11 ∧ Mw hX11_throwsIf yX11_throwsIf d [vA x0, vI r1, vI 1] S1 (oI (fun r2 S2 => R32 r2 ∧ (¬ (r2 = 0) → Q (.inl (some (vI 0))) S2) ∧ ((r2 = 0) → S2.K x0 = 11 ∧ Mw hX11_isNoSet yX11_isNoSet d [vA x0, vI x1, vI x2] S2 (oI (fun r3 S3 => S3.K x0 = 11 ∧ Mw hX11_throwsIf yX11_throwsIf d [vA x0, vI r3, vI 2] S3 (oI (fun r4 S4 => R32 r4 ∧ ((r4 = 0) → S4.K x0 = 11 ∧ Mw hX11_leaves yX11_leaves d [vA x0] S4 (oV (fun S5 => S5.K x0 = 11 ∧ Mw hX11_ofScale yX11_ofScale d [vA x0, vI x1, vI 0] S5 (oI (fun r6 S6 => S6.K x0 = 11 ∧ Mw hX11_lays yX11_lays d [vA x0, vI 0, vI r6, vI x2] S6 (oV (fun S7 => R32 x3 ∧ ((x3 = 0) → S7.K x0 = 11 ∧ (Q (.inl (some (vI (S7.I x0 25)))) S7)) ∧ (¬ (x3 = 0) → S7.K x0 = 11 ∧ (Q (.inl (some (vI (S7.I x0 26)))) S7))))))))) ∧ (¬ (r4 = 0) → Q (.inl (some (vI 0))) S4)))))))))))
theorem JX11_laying_0 {d : Nat} {S0 : MS} {Q : Out → MS → Prop} (x0 : Nat) (x1 : Int) (x2 : Int) (x3 : Int) (S : MS) (h : VX11_laying_0 d Q x0 x1 x2 x3 S) : Jw FinM RX11 cX11_laying 4 (some .int) [] yX11_laying (d + 1) S0 S 0 [(0, vA x0), (1, vI x1), (2, vI x2), (3, vI x3)] [] Q :=
  j_aload_n 0 dX11_laying_0 rfl (j_iconst dX11_laying_1 (j_putI 11 0 f_RX11_3 dX11_laying_2 h (fun h => j_aload_n 0 dX11_laying_5 rfl (j_aload_n 0 dX11_laying_6 rfl (j_iload_n 1 dX11_laying_7 rfl (j_callV (rest := [vA x0]) 11 [vI x1] k_RX11_203 ⟨w_7_226, p_4_11⟩ ⟨_, _, rfl⟩ (by decide) rfl rfl (Nat.le_of_ble_eq_true rfl) dX11_laying_8 h (kI (fun r1 S1 h => j_iconst dX11_laying_11 (j_callV (rest := []) 11 [vI r1, vI 1] k_RX11_190 ⟨w_7_191, p_4_7⟩ ⟨_, _, rfl⟩ (by decide) rfl rfl (Nat.le_of_ble_eq_true rfl) dX11_laying_12 h (kI (fun r2 S2 h => j_if_ne (tgt := 32) dX11_laying_15 (by decide) h (fun h => j_iconst dX11_laying_32 (j_iret rfl dX11_laying_33 h)) (fun h => j_aload_n 0 dX11_laying_18 rfl (j_aload_n 0 dX11_laying_19 rfl (j_iload_n 1 dX11_laying_20 rfl (j_iload_n 2 dX11_laying_21 rfl (j_callV (rest := [vA x0]) 11 [vI x1, vI x2] k_RX11_206 ⟨w_7_230, p_4_12⟩ ⟨_, _, rfl⟩ (by decide) rfl rfl (Nat.le_of_ble_eq_true rfl) dX11_laying_22 h (kI (fun r3 S3 h => j_iconst dX11_laying_25 (j_callV (rest := []) 11 [vI r3, vI 2] k_RX11_190 ⟨w_7_191, p_4_7⟩ ⟨_, _, rfl⟩ (by decide) rfl rfl (Nat.le_of_ble_eq_true rfl) dX11_laying_26 h (kI (fun r4 S4 h => j_if_eq (tgt := 34) dX11_laying_29 (by decide) h (fun h => j_aload_n 0 dX11_laying_34 rfl (j_callV (rest := []) 11 [] k_RX11_253 ⟨w_8_42, p_5_4⟩ ⟨_, _, rfl⟩ (by decide) rfl rfl (Nat.le_of_ble_eq_true rfl) dX11_laying_35 h (kV (fun S5 h => j_aload_n 0 dX11_laying_38 rfl (j_iconst dX11_laying_39 (j_aload_n 0 dX11_laying_40 rfl (j_iload_n 1 dX11_laying_41 rfl (j_iconst dX11_laying_42 (j_callV (rest := [vI 0, vA x0]) 11 [vI x1, vI 0] k_RX11_94 ⟨w_7_239, p_4_14⟩ ⟨_, _, rfl⟩ (by decide) rfl rfl (Nat.le_of_ble_eq_true rfl) dX11_laying_43 h (kI (fun r6 S6 h => j_iload_n 2 dX11_laying_46 rfl (j_callV (rest := []) 11 [vI 0, vI r6, vI x2] k_RX11_321 ⟨w_8_226, p_6_13⟩ ⟨_, _, rfl⟩ (by decide) rfl rfl (Nat.le_of_ble_eq_true rfl) dX11_laying_47 h (kV (fun S7 h => j_iload_n 3 dX11_laying_50 rfl (j_if_eq (tgt := 61) dX11_laying_51 (by decide) h (fun h => j_aload_n 0 dX11_laying_61 rfl (j_getI 11 25 f_RX11_310 dX11_laying_62 h (fun h => j_iret rfl dX11_laying_65 h))) (fun h => j_aload_n 0 dX11_laying_54 rfl (j_getI 11 26 f_RX11_313 dX11_laying_55 h (fun h => j_goto (tgt := 65) dX11_laying_58 (by decide) (j_iret rfl dX11_laying_65 h))))))) (fun _ _ h => h.elim)))) (fun _ _ h => h.elim)))))))) (fun _ _ h => h.elim))) (fun h => j_iconst dX11_laying_32 (j_iret rfl dX11_laying_33 h)))) (fun _ _ h => h.elim)))) (fun _ _ h => h.elim)))))))) (fun _ _ h => h.elim)))) (fun _ _ h => h.elim)))))))
theorem MX11_laying {d : Nat} {x0 : Nat} {x1 : Int} {x2 : Int} {x3 : Int} {S : MS} {Q : Out → MS → Prop} (h : VX11_laying_0 d Q x0 x1 x2 x3 S) : Mw hX11_laying yX11_laying (d + 1) [vA x0, vI x1, vI x2, vI x3] S Q := Mw.ofJ (by decide) (Nat.le_of_ble_eq_true rfl) (JX11_laying_0 _ _ _ _ S h)
theorem dX11_nextOf_0 : decode cX11_nextOf 0 = .ok (.aload_n 0, 1) := by decide +kernel
theorem dX11_nextOf_1 : decode cX11_nextOf 1 = .ok (.iload_n 2, 1) := by decide +kernel
theorem dX11_nextOf_2 : decode cX11_nextOf 2 = .ok (.invokestatic 98, 3) := by decide +kernel
theorem dX11_nextOf_5 : decode cX11_nextOf 5 = .ok (.invokevirtual 274, 3) := by decide +kernel
theorem dX11_nextOf_8 : decode cX11_nextOf 8 = .ok (.iconst (-1), 1) := by decide +kernel
theorem dX11_nextOf_9 : decode cX11_nextOf 9 = .ok (.istore_n 3, 1) := by decide +kernel
theorem dX11_nextOf_10 : decode cX11_nextOf 10 = .ok (.iconst 0, 1) := by decide +kernel
theorem dX11_nextOf_11 : decode cX11_nextOf 11 = .ok (.istore 4, 2) := by decide +kernel
theorem dX11_nextOf_13 : decode cX11_nextOf 13 = .ok (.iconst 0, 1) := by decide +kernel
theorem dX11_nextOf_14 : decode cX11_nextOf 14 = .ok (.istore 5, 2) := by decide +kernel
theorem dX11_nextOf_16 : decode cX11_nextOf 16 = .ok (.iload 5, 2) := by decide +kernel
theorem dX11_nextOf_18 : decode cX11_nextOf 18 = .ok (.aload_n 0, 1) := by decide +kernel
theorem dX11_nextOf_19 : decode cX11_nextOf 19 = .ok (.getfield 277, 3) := by decide +kernel
theorem dX11_nextOf_22 : decode cX11_nextOf 22 = .ok (.if_icmp .ge 82, 3) := by decide +kernel
theorem dX11_nextOf_25 : decode cX11_nextOf 25 = .ok (.aload_n 0, 1) := by decide +kernel
theorem dX11_nextOf_26 : decode cX11_nextOf 26 = .ok (.iload_n 1, 1) := by decide +kernel
theorem dX11_nextOf_27 : decode cX11_nextOf 27 = .ok (.iload_n 2, 1) := by decide +kernel
theorem dX11_nextOf_28 : decode cX11_nextOf 28 = .ok (.aload_n 0, 1) := by decide +kernel
theorem dX11_nextOf_29 : decode cX11_nextOf 29 = .ok (.getfield 58, 3) := by decide +kernel
theorem dX11_nextOf_32 : decode cX11_nextOf 32 = .ok (.iload 5, 2) := by decide +kernel
theorem dX11_nextOf_34 : decode cX11_nextOf 34 = .ok (.iaload, 1) := by decide +kernel
theorem dX11_nextOf_35 : decode cX11_nextOf 35 = .ok (.invokevirtual 321, 3) := by decide +kernel
theorem dX11_nextOf_38 : decode cX11_nextOf 38 = .ok (.iload_n 3, 1) := by decide +kernel
theorem dX11_nextOf_39 : decode cX11_nextOf 39 = .ok (.ifCond .lt 37, 3) := by decide +kernel
theorem dX11_nextOf_42 : decode cX11_nextOf 42 = .ok (.aload_n 0, 1) := by decide +kernel
theorem dX11_nextOf_43 : decode cX11_nextOf 43 = .ok (.getfield 310, 3) := by decide +kernel
theorem dX11_nextOf_46 : decode cX11_nextOf 46 = .ok (.aload_n 0, 1) := by decide +kernel
theorem dX11_nextOf_47 : decode cX11_nextOf 47 = .ok (.getfield 325, 3) := by decide +kernel
theorem dX11_nextOf_50 : decode cX11_nextOf 50 = .ok (.if_icmp .gt 48, 3) := by decide +kernel
theorem dX11_nextOf_53 : decode cX11_nextOf 53 = .ok (.aload_n 0, 1) := by decide +kernel
theorem dX11_nextOf_54 : decode cX11_nextOf 54 = .ok (.getfield 310, 3) := by decide +kernel
theorem dX11_nextOf_57 : decode cX11_nextOf 57 = .ok (.aload_n 0, 1) := by decide +kernel
theorem dX11_nextOf_58 : decode cX11_nextOf 58 = .ok (.getfield 325, 3) := by decide +kernel
theorem dX11_nextOf_61 : decode cX11_nextOf 61 = .ok (.if_icmp .ne 15, 3) := by decide +kernel
theorem dX11_nextOf_64 : decode cX11_nextOf 64 = .ok (.aload_n 0, 1) := by decide +kernel
theorem dX11_nextOf_65 : decode cX11_nextOf 65 = .ok (.getfield 313, 3) := by decide +kernel
theorem dX11_nextOf_68 : decode cX11_nextOf 68 = .ok (.iload 4, 2) := by decide +kernel
theorem dX11_nextOf_70 : decode cX11_nextOf 70 = .ok (.if_icmp .lt 6, 3) := by decide +kernel
theorem dX11_nextOf_73 : decode cX11_nextOf 73 = .ok (.goto 25, 3) := by decide +kernel
theorem dX11_nextOf_76 : decode cX11_nextOf 76 = .ok (.aload_n 0, 1) := by decide +kernel
theorem dX11_nextOf_77 : decode cX11_nextOf 77 = .ok (.getfield 58, 3) := by decide +kernel
theorem dX11_nextOf_80 : decode cX11_nextOf 80 = .ok (.iload 5, 2) := by decide +kernel
theorem dX11_nextOf_82 : decode cX11_nextOf 82 = .ok (.iaload, 1) := by decide +kernel
theorem dX11_nextOf_83 : decode cX11_nextOf 83 = .ok (.istore_n 3, 1) := by decide +kernel
theorem dX11_nextOf_84 : decode cX11_nextOf 84 = .ok (.aload_n 0, 1) := by decide +kernel
theorem dX11_nextOf_85 : decode cX11_nextOf 85 = .ok (.aload_n 0, 1) := by decide +kernel
theorem dX11_nextOf_86 : decode cX11_nextOf 86 = .ok (.getfield 310, 3) := by decide +kernel
theorem dX11_nextOf_89 : decode cX11_nextOf 89 = .ok (.putfield 325, 3) := by decide +kernel
theorem dX11_nextOf_92 : decode cX11_nextOf 92 = .ok (.aload_n 0, 1) := by decide +kernel
theorem dX11_nextOf_93 : decode cX11_nextOf 93 = .ok (.getfield 313, 3) := by decide +kernel
theorem dX11_nextOf_96 : decode cX11_nextOf 96 = .ok (.istore 4, 2) := by decide +kernel
theorem dX11_nextOf_98 : decode cX11_nextOf 98 = .ok (.iinc 5 1, 3) := by decide +kernel
theorem dX11_nextOf_101 : decode cX11_nextOf 101 = .ok (.goto (-85), 3) := by decide +kernel
theorem dX11_nextOf_104 : decode cX11_nextOf 104 = .ok (.iload_n 3, 1) := by decide +kernel
theorem dX11_nextOf_105 : decode cX11_nextOf 105 = .ok (.ireturn, 1) := by decide +kernel
def VX11_nextOf_98 (d : Nat) (c16 : Nat → Int → Int → Int → Int → Int → MS → Prop) (Q : Out → MS → Prop) (x0 : Nat) (x1 : Int) (x2 : Int) (x3 : Int) (x4 : Int) (x5 : Int) (S : MS) : Prop :=
  c16 x0 x1 x2 x3 x4 (x5 + 1) S
theorem JX11_nextOf_98 {d : Nat} {c16 : Nat → Int → Int → Int → Int → Int → MS → Prop} {S0 : MS} {Q : Out → MS → Prop} (hc16 : ∀ (x0 : Nat) (x1 : Int) (x2 : Int) (x3 : Int) (x4 : Int) (x5 : Int) (S : MS), c16 x0 x1 x2 x3 x4 x5 S → Jw FinM RX11 cX11_nextOf 6 (some .int) [] yX11_nextOf (d + 1) S0 S 16 [(0, vA x0), (1, vI x1), (2, vI x2), (3, vI x3), (4, vI x4), (5, vI x5)] [] Q) (x0 : Nat) (x1 : Int) (x2 : Int) (x3 : Int) (x4 : Int) (x5 : Int) (S : MS) (h : VX11_nextOf_98 d c16 Q x0 x1 x2 x3 x4 x5 S) : Jw FinM RX11 cX11_nextOf 6 (some .int) [] yX11_nextOf (d + 1) S0 S 98 [(0, vA x0), (1, vI x1), (2, vI x2), (3, vI x3), (4, vI x4), (5, vI x5)] [] Q :=
  j_iinc 5 (lv2 := [(5, vI (x5 + 1)), (0, vA x0), (1, vI x1), (2, vI x2), (3, vI x3), (4, vI x4)]) dX11_nextOf_98 rfl (by decide) rfl (j_goto (tgt := 16) dX11_nextOf_101 (by decide) (j_sub [1, 2, 3, 4, 5, 0] rfl (hc16 _ _ _ _ _ _ _ h)))
def VX11_nextOf_76 (d : Nat) (c16 : Nat → Int → Int → Int → Int → Int → MS → Prop) (Q : Out → MS → Prop) (x0 : Nat) (x1 : Int) (x2 : Int) (x5 : Int) (S : MS) : Prop :=
  S.K x0 = 11 ∧ ∃ b1, S.R x0 22 = some b1 ∧ ((S.K b1 = 13 ∧ 0 ≤ x5 ∧ x5 < S.N b1) ∧ (S.K x0 = 11 ∧ (S.K x0 = 11 ∧ ((S.setI x0 27 (S.I x0 25)).K x0 = 11 ∧ (VX11_nextOf_98 d c16 Q x0 x1 x2 (S.I b1 (x5).toNat) ((S.setI x0 27 (S.I x0 25)).I x0 26) x5 (S.setI x0 27 (S.I x0 25)))))))
theorem JX11_nextOf_76 {d : Nat} {c16 : Nat → Int → Int → Int → Int → Int → MS → Prop} {S0 : MS} {Q : Out → MS → Prop} (hc16 : ∀ (x0 : Nat) (x1 : Int) (x2 : Int) (x3 : Int) (x4 : Int) (x5 : Int) (S : MS), c16 x0 x1 x2 x3 x4 x5 S → Jw FinM RX11 cX11_nextOf 6 (some .int) [] yX11_nextOf (d + 1) S0 S 16 [(0, vA x0), (1, vI x1), (2, vI x2), (3, vI x3), (4, vI x4), (5, vI x5)] [] Q) (x0 : Nat) (x1 : Int) (x2 : Int) (x5 : Int) (S : MS) (h : VX11_nextOf_76 d c16 Q x0 x1 x2 x5 S) : Jw FinM RX11 cX11_nextOf 6 (some .int) [] yX11_nextOf (d + 1) S0 S 76 [(0, vA x0), (1, vI x1), (2, vI x2), (5, vI x5)] [] Q :=
  j_aload_n 0 dX11_nextOf_76 rfl (j_getR 11 22 f_RX11_58 dX11_nextOf_77 h (fun b1 h => j_iload 3 dX11_nextOf_80 rfl (j_iald dX11_nextOf_82 h (fun h => j_istore_n (lv2 := [(3, vI (S.I b1 (x5).toNat)), (0, vA x0), (1, vI x1), (2, vI x2), (5, vI x5)]) dX11_nextOf_83 (by decide) rfl (j_aload_n 1 dX11_nextOf_84 rfl (j_aload_n 1 dX11_nextOf_85 rfl (j_getI 11 25 f_RX11_310 dX11_nextOf_86 h (fun h => j_putI 11 27 f_RX11_325 dX11_nextOf_89 h (fun h => j_aload_n 1 dX11_nextOf_92 rfl (j_getI 11 26 f_RX11_313 dX11_nextOf_93 h (fun h => j_istore (lv2 := [(4, vI ((S.setI x0 27 (S.I x0 25)).I x0 26)), (3, vI (S.I b1 (x5).toNat)), (0, vA x0), (1, vI x1), (2, vI x2), (5, vI x5)]) dX11_nextOf_96 (by decide) rfl (j_sub [2, 3, 4, 1, 0, 5] rfl (JX11_nextOf_98 hc16 _ _ _ _ _ _ _ h)))))))))))))
def VX11_nextOf_16 (d : Nat) (Q : Out → MS → Prop) : Nat → Nat → Int → Int → Int → Int → Int → MS → Prop
  | 0, _, _, _, _, _, _, _ => False
  | n + 1, x0, x1, x2, x3, x4, x5, S => S.K x0 = 11 ∧ ((R32 x5 ∧ R32 (S.I x0 23)) ∧ (((S.I x0 23) ≤ x5) → Q (.inl (some (vI x3))) S) ∧ (¬ ((S.I x0 23) ≤ x5) → S.K x0 = 11 ∧ ∃ b1, S.R x0 22 = some b1 ∧ ((S.K b1 = 13 ∧ 0 ≤ x5 ∧ x5 < S.N b1) ∧ (S.K x0 = 11 ∧ Mw hX11_lays yX11_lays d [vA x0, vI x1, vI x2, vI (S.I b1 (x5).toNat)] S (oV (fun S2 => R32 x3 ∧ ((x3 < 0) → VX11_nextOf_76 d (VX11_nextOf_16 d Q n) Q x0 x1 x2 x5 S2) ∧ (¬ (x3 < 0) → S2.K x0 = 11 ∧ (S2.K x0 = 11 ∧ ((R32 (S2.I x0 25) ∧ R32 (S2.I x0 27)) ∧ (((S2.I x0 27) < (S2.I x0 25)) → VX11_nextOf_98 d (VX11_nextOf_16 d Q n) Q x0 x1 x2 x3 x4 x5 S2) ∧ (¬ ((S2.I x0 27) < (S2.I x0 25)) → S2.K x0 = 11 ∧ (S2.K x0 = 11 ∧ ((R32 (S2.I x0 25) ∧ R32 (S2.I x0 27)) ∧ (¬ ((S2.I x0 25) = (S2.I x0 27)) → VX11_nextOf_76 d (VX11_nextOf_16 d Q n) Q x0 x1 x2 x5 S2) ∧ (((S2.I x0 25) = (S2.I x0 27)) → S2.K x0 = 11 ∧ ((R32 (S2.I x0 26) ∧ R32 x4) ∧ (((S2.I x0 26) < x4) → VX11_nextOf_76 d (VX11_nextOf_16 d Q n) Q x0 x1 x2 x5 S2) ∧ (¬ ((S2.I x0 26) < x4) → VX11_nextOf_98 d (VX11_nextOf_16 d Q n) Q x0 x1 x2 x3 x4 x5 S2)))))))))))))))
theorem JX11_nextOf_16 {d : Nat} {S0 : MS} {Q : Out → MS → Prop} : ∀ (n : Nat) (x0 : Nat) (x1 : Int) (x2 : Int) (x3 : Int) (x4 : Int) (x5 : Int) (S : MS), VX11_nextOf_16 d Q n x0 x1 x2 x3 x4 x5 S → Jw FinM RX11 cX11_nextOf 6 (some .int) [] yX11_nextOf (d + 1) S0 S 16 [(0, vA x0), (1, vI x1), (2, vI x2), (3, vI x3), (4, vI x4), (5, vI x5)] [] Q := by
  intro n
  induction n with
  | zero => intro x0 x1 x2 x3 x4 x5 S h; exact h.elim
  | succ n ih =>
    intro x0 x1 x2 x3 x4 x5 S h
    exact j_iload 5 dX11_nextOf_16 rfl (j_aload_n 0 dX11_nextOf_18 rfl (j_getI 11 23 f_RX11_277 dX11_nextOf_19 h (fun h => j_icmp_ge (tgt := 104) dX11_nextOf_22 (by decide) h (fun h => j_iload_n 3 dX11_nextOf_104 rfl (j_iret rfl dX11_nextOf_105 h)) (fun h => j_aload_n 0 dX11_nextOf_25 rfl (j_iload_n 1 dX11_nextOf_26 rfl (j_iload_n 2 dX11_nextOf_27 rfl (j_aload_n 0 dX11_nextOf_28 rfl (j_getR 11 22 f_RX11_58 dX11_nextOf_29 h (fun b1 h => j_iload 5 dX11_nextOf_32 rfl (j_iald dX11_nextOf_34 h (fun h => j_callV (rest := []) 11 [vI x1, vI x2, vI (S.I b1 (x5).toNat)] k_RX11_321 ⟨w_8_226, p_6_13⟩ ⟨_, _, rfl⟩ (by decide) rfl rfl (Nat.le_of_ble_eq_true rfl) dX11_nextOf_35 h (kV (fun S2 h => j_iload_n 3 dX11_nextOf_38 rfl (j_if_lt (tgt := 76) dX11_nextOf_39 (by decide) h (fun h => j_sub [0, 1, 2, 5] rfl (JX11_nextOf_76 ih _ _ _ _ _ h)) (fun h => j_aload_n 0 dX11_nextOf_42 rfl (j_getI 11 25 f_RX11_310 dX11_nextOf_43 h (fun h => j_aload_n 0 dX11_nextOf_46 rfl (j_getI 11 27 f_RX11_325 dX11_nextOf_47 h (fun h => j_icmp_gt (tgt := 98) dX11_nextOf_50 (by decide) h (fun h => JX11_nextOf_98 ih _ _ _ _ _ _ _ h) (fun h => j_aload_n 0 dX11_nextOf_53 rfl (j_getI 11 25 f_RX11_310 dX11_nextOf_54 h (fun h => j_aload_n 0 dX11_nextOf_57 rfl (j_getI 11 27 f_RX11_325 dX11_nextOf_58 h (fun h => j_icmp_ne (tgt := 76) dX11_nextOf_61 (by decide) h (fun h => j_sub [0, 1, 2, 5] rfl (JX11_nextOf_76 ih _ _ _ _ _ h)) (fun h => j_aload_n 0 dX11_nextOf_64 rfl (j_getI 11 26 f_RX11_313 dX11_nextOf_65 h (fun h => j_iload 4 dX11_nextOf_68 rfl (j_icmp_lt (tgt := 76) dX11_nextOf_70 (by decide) h (fun h => j_sub [0, 1, 2, 5] rfl (JX11_nextOf_76 ih _ _ _ _ _ h)) (fun h => j_goto (tgt := 98) dX11_nextOf_73 (by decide) (JX11_nextOf_98 ih _ _ _ _ _ _ _ h))))))))))))))))))) (fun _ _ h => h.elim))))))))))))
def VX11_nextOf_0 (d : Nat) (Q : Out → MS → Prop) (x0 : Nat) (x1 : Int) (x2 : Int) (S : MS) : Prop :=
  Mw hX11_pansOf yX11_pansOf d [vI x2] S (oI (fun r1 S1 => S1.K x0 = 11 ∧ Mw hX11_listsSets yX11_listsSets d [vA x0, vI r1] S1 (oV (fun S2 => ∃ m, VX11_nextOf_16 d Q m x0 x1 x2 ((-1)) 0 0 S2))))
theorem JX11_nextOf_0 {d : Nat} {S0 : MS} {Q : Out → MS → Prop} (x0 : Nat) (x1 : Int) (x2 : Int) (S : MS) (h : VX11_nextOf_0 d Q x0 x1 x2 S) : Jw FinM RX11 cX11_nextOf 6 (some .int) [] yX11_nextOf (d + 1) S0 S 0 [(0, vA x0), (1, vI x1), (2, vI x2)] [] Q :=
  j_aload_n 0 dX11_nextOf_0 rfl (j_iload_n 2 dX11_nextOf_1 rfl (j_callS (rest := [vA x0]) [vI x2] k_RX11_98 w_7_181 rfl rfl (Nat.le_of_ble_eq_true rfl) dX11_nextOf_2 h (kI (fun r1 S1 h => j_callV (rest := []) 11 [vI r1] k_RX11_274 ⟨w_8_130, p_6_2⟩ ⟨_, _, rfl⟩ (by decide) rfl rfl (Nat.le_of_ble_eq_true rfl) dX11_nextOf_5 h (kV (fun S2 h => j_iconst dX11_nextOf_8 (j_istore_n (lv2 := [(3, vI ((-1))), (0, vA x0), (1, vI x1), (2, vI x2)]) dX11_nextOf_9 (by decide) rfl (j_iconst dX11_nextOf_10 (j_istore (lv2 := [(4, vI 0), (3, vI ((-1))), (0, vA x0), (1, vI x1), (2, vI x2)]) dX11_nextOf_11 (by decide) rfl (j_iconst dX11_nextOf_13 (j_istore (lv2 := [(5, vI 0), (4, vI 0), (3, vI ((-1))), (0, vA x0), (1, vI x1), (2, vI x2)]) dX11_nextOf_14 (by decide) rfl (Exists.elim h (fun m h => j_sub [3, 4, 5, 2, 1, 0] rfl (JX11_nextOf_16 m _ _ _ _ _ _ _ h)))))))))) (fun _ _ h => h.elim))) (fun _ _ h => h.elim)))
theorem MX11_nextOf {d : Nat} {x0 : Nat} {x1 : Int} {x2 : Int} {S : MS} {Q : Out → MS → Prop} (h : VX11_nextOf_0 d Q x0 x1 x2 S) : Mw hX11_nextOf yX11_nextOf (d + 1) [vA x0, vI x1, vI x2] S Q := Mw.ofJ (by decide) (Nat.le_of_ble_eq_true rfl) (JX11_nextOf_0 _ _ _ S h)
theorem dX11_next_0 : decode cX11_next 0 = .ok (.aload_n 0, 1) := by decide +kernel
theorem dX11_next_1 : decode cX11_next 1 = .ok (.iconst 0, 1) := by decide +kernel
theorem dX11_next_2 : decode cX11_next 2 = .ok (.putfield 3, 3) := by decide +kernel
theorem dX11_next_5 : decode cX11_next 5 = .ok (.aload_n 0, 1) := by decide +kernel
theorem dX11_next_6 : decode cX11_next 6 = .ok (.aload_n 0, 1) := by decide +kernel
theorem dX11_next_7 : decode cX11_next 7 = .ok (.iload_n 1, 1) := by decide +kernel
theorem dX11_next_8 : decode cX11_next 8 = .ok (.invokevirtual 203, 3) := by decide +kernel
theorem dX11_next_11 : decode cX11_next 11 = .ok (.iconst 1, 1) := by decide +kernel
theorem dX11_next_12 : decode cX11_next 12 = .ok (.invokevirtual 190, 3) := by decide +kernel
theorem dX11_next_15 : decode cX11_next 15 = .ok (.ifCond .eq 5, 3) := by decide +kernel
theorem dX11_next_18 : decode cX11_next 18 = .ok (.iconst 0, 1) := by decide +kernel
theorem dX11_next_19 : decode cX11_next 19 = .ok (.ireturn, 1) := by decide +kernel
theorem dX11_next_20 : decode cX11_next 20 = .ok (.aload_n 0, 1) := by decide +kernel
theorem dX11_next_21 : decode cX11_next 21 = .ok (.invokevirtual 253, 3) := by decide +kernel
theorem dX11_next_24 : decode cX11_next 24 = .ok (.aload_n 0, 1) := by decide +kernel
theorem dX11_next_25 : decode cX11_next 25 = .ok (.iconst 0, 1) := by decide +kernel
theorem dX11_next_26 : decode cX11_next 26 = .ok (.aload_n 0, 1) := by decide +kernel
theorem dX11_next_27 : decode cX11_next 27 = .ok (.iload_n 1, 1) := by decide +kernel
theorem dX11_next_28 : decode cX11_next 28 = .ok (.iconst 0, 1) := by decide +kernel
theorem dX11_next_29 : decode cX11_next 29 = .ok (.invokevirtual 94, 3) := by decide +kernel
theorem dX11_next_32 : decode cX11_next 32 = .ok (.invokevirtual 328, 3) := by decide +kernel
theorem dX11_next_35 : decode cX11_next 35 = .ok (.ireturn, 1) := by decide +kernel
def VX11_next_0 (d : Nat) (Q : Out → MS → Prop) (x0 : Nat) (x1 : Int) (S : MS) : Prop :=
  S.K x0 = 11 ∧ ((S.setI x0 0 0).K x0 = 11 ∧ Mw hX11_noScale yX11_noScale d [vA x0, vI x1] (S.setI x0 0 0) (oI (fun r1 S1 => S1.K x0 = 11 ∧ Mw hX11_throwsIf yX11_throwsIf d [vA x0, vI r1, vI 1] S1 (oI (fun r2 S2 => R32 r2 ∧ ((r2 = 0) → S2.K x0 = 11 ∧ Mw hX11_leaves yX11_leaves d [vA x0] S2 (oV (fun S3 => S3.K x0 = 11 ∧ Mw hX11_ofScale yX11_ofScale d [vA x0, vI x1, vI 0] S3 (oI (fun r4 S4 => S4.K x0 = 11 ∧ Mw hX11_nextOf yX11_nextOf d [vA x0, vI 0, vI r4] S4 (oI (fun r5 S5 => Q (.inl (some (vI r5))) S5))))))) ∧ (¬ (r2 = 0) → Q (.inl (some (vI 0))) S2))))))
theorem JX11_next_0 {d : Nat} {S0 : MS} {Q : Out → MS → Prop} (x0 : Nat) (x1 : Int) (S : MS) (h : VX11_next_0 d Q x0 x1 S) : Jw FinM RX11 cX11_next 2 (some .int) [] yX11_next (d + 1) S0 S 0 [(0, vA x0), (1, vI x1)] [] Q :=
  j_aload_n 0 dX11_next_0 rfl (j_iconst dX11_next_1 (j_putI 11 0 f_RX11_3 dX11_next_2 h (fun h => j_aload_n 0 dX11_next_5 rfl (j_aload_n 0 dX11_next_6 rfl (j_iload_n 1 dX11_next_7 rfl (j_callV (rest := [vA x0]) 11 [vI x1] k_RX11_203 ⟨w_7_226, p_4_11⟩ ⟨_, _, rfl⟩ (by decide) rfl rfl (Nat.le_of_ble_eq_true rfl) dX11_next_8 h (kI (fun r1 S1 h => j_iconst dX11_next_11 (j_callV (rest := []) 11 [vI r1, vI 1] k_RX11_190 ⟨w_7_191, p_4_7⟩ ⟨_, _, rfl⟩ (by decide) rfl rfl (Nat.le_of_ble_eq_true rfl) dX11_next_12 h (kI (fun r2 S2 h => j_if_eq (tgt := 20) dX11_next_15 (by decide) h (fun h => j_aload_n 0 dX11_next_20 rfl (j_callV (rest := []) 11 [] k_RX11_253 ⟨w_8_42, p_5_4⟩ ⟨_, _, rfl⟩ (by decide) rfl rfl (Nat.le_of_ble_eq_true rfl) dX11_next_21 h (kV (fun S3 h => j_aload_n 0 dX11_next_24 rfl (j_iconst dX11_next_25 (j_aload_n 0 dX11_next_26 rfl (j_iload_n 1 dX11_next_27 rfl (j_iconst dX11_next_28 (j_callV (rest := [vI 0, vA x0]) 11 [vI x1, vI 0] k_RX11_94 ⟨w_7_239, p_4_14⟩ ⟨_, _, rfl⟩ (by decide) rfl rfl (Nat.le_of_ble_eq_true rfl) dX11_next_29 h (kI (fun r4 S4 h => j_callV (rest := []) 11 [vI 0, vI r4] k_RX11_328 ⟨w_8_235, p_6_14⟩ ⟨_, _, rfl⟩ (by decide) rfl rfl (Nat.le_of_ble_eq_true rfl) dX11_next_32 h (kI (fun r5 S5 h => j_iret rfl dX11_next_35 h)) (fun _ _ h => h.elim))) (fun _ _ h => h.elim)))))))) (fun _ _ h => h.elim))) (fun h => j_iconst dX11_next_18 (j_iret rfl dX11_next_19 h)))) (fun _ _ h => h.elim)))) (fun _ _ h => h.elim)))))))
theorem MX11_next {d : Nat} {x0 : Nat} {x1 : Int} {S : MS} {Q : Out → MS → Prop} (h : VX11_next_0 d Q x0 x1 S) : Mw hX11_next yX11_next (d + 1) [vA x0, vI x1] S Q := Mw.ofJ (by decide) (Nat.le_of_ble_eq_true rfl) (JX11_next_0 _ _ S h)
theorem dX11_parts_0 : decode cX11_parts 0 = .ok (.aload_n 0, 1) := by decide +kernel
theorem dX11_parts_1 : decode cX11_parts 1 = .ok (.getfield 45, 3) := by decide +kernel
theorem dX11_parts_4 : decode cX11_parts 4 = .ok (.iload_n 1, 1) := by decide +kernel
theorem dX11_parts_5 : decode cX11_parts 5 = .ok (.iconst 1, 1) := by decide +kernel
theorem dX11_parts_6 : decode cX11_parts 6 = .ok (.iadd, 1) := by decide +kernel
theorem dX11_parts_7 : decode cX11_parts 7 = .ok (.iconst 0, 1) := by decide +kernel
theorem dX11_parts_8 : decode cX11_parts 8 = .ok (.iastore, 1) := by decide +kernel
theorem dX11_parts_9 : decode cX11_parts 9 = .ok (.iconst 0, 1) := by decide +kernel
theorem dX11_parts_10 : decode cX11_parts 10 = .ok (.istore 5, 2) := by decide +kernel
theorem dX11_parts_12 : decode cX11_parts 12 = .ok (.iload 5, 2) := by decide +kernel
theorem dX11_parts_14 : decode cX11_parts 14 = .ok (.aload_n 0, 1) := by decide +kernel
theorem dX11_parts_15 : decode cX11_parts 15 = .ok (.getfield 45, 3) := by decide +kernel
theorem dX11_parts_18 : decode cX11_parts 18 = .ok (.iload_n 1, 1) := by decide +kernel
theorem dX11_parts_19 : decode cX11_parts 19 = .ok (.iaload, 1) := by decide +kernel
theorem dX11_parts_20 : decode cX11_parts 20 = .ok (.if_icmp .ge 70, 3) := by decide +kernel
theorem dX11_parts_23 : decode cX11_parts 23 = .ok (.aload_n 0, 1) := by decide +kernel
theorem dX11_parts_24 : decode cX11_parts 24 = .ok (.iload_n 1, 1) := by decide +kernel
theorem dX11_parts_25 : decode cX11_parts 25 = .ok (.iload 5, 2) := by decide +kernel
theorem dX11_parts_27 : decode cX11_parts 27 = .ok (.invokevirtual 247, 3) := by decide +kernel
theorem dX11_parts_30 : decode cX11_parts 30 = .ok (.istore 6, 2) := by decide +kernel
theorem dX11_parts_32 : decode cX11_parts 32 = .ok (.aload_n 0, 1) := by decide +kernel
theorem dX11_parts_33 : decode cX11_parts 33 = .ok (.iload_n 2, 1) := by decide +kernel
theorem dX11_parts_34 : decode cX11_parts 34 = .ok (.iload_n 3, 1) := by decide +kernel
theorem dX11_parts_35 : decode cX11_parts 35 = .ok (.iload 6, 2) := by decide +kernel
theorem dX11_parts_37 : decode cX11_parts 37 = .ok (.invokevirtual 234, 3) := by decide +kernel
theorem dX11_parts_40 : decode cX11_parts 40 = .ok (.iload 4, 2) := by decide +kernel
theorem dX11_parts_42 : decode cX11_parts 42 = .ok (.if_icmp .eq 6, 3) := by decide +kernel
theorem dX11_parts_45 : decode cX11_parts 45 = .ok (.goto 39, 3) := by decide +kernel
theorem dX11_parts_48 : decode cX11_parts 48 = .ok (.aload_n 0, 1) := by decide +kernel
theorem dX11_parts_49 : decode cX11_parts 49 = .ok (.getfield 41, 3) := by decide +kernel
theorem dX11_parts_52 : decode cX11_parts 52 = .ok (.sipush 5040, 3) := by decide +kernel
theorem dX11_parts_55 : decode cX11_parts 55 = .ok (.iload_n 1, 1) := by decide +kernel
theorem dX11_parts_56 : decode cX11_parts 56 = .ok (.iconst 1, 1) := by decide +kernel
theorem dX11_parts_57 : decode cX11_parts 57 = .ok (.iadd, 1) := by decide +kernel
theorem dX11_parts_58 : decode cX11_parts 58 = .ok (.imul, 1) := by decide +kernel
theorem dX11_parts_59 : decode cX11_parts 59 = .ok (.aload_n 0, 1) := by decide +kernel
theorem dX11_parts_60 : decode cX11_parts 60 = .ok (.getfield 45, 3) := by decide +kernel
theorem dX11_parts_63 : decode cX11_parts 63 = .ok (.iload_n 1, 1) := by decide +kernel
theorem dX11_parts_64 : decode cX11_parts 64 = .ok (.iconst 1, 1) := by decide +kernel
theorem dX11_parts_65 : decode cX11_parts 65 = .ok (.iadd, 1) := by decide +kernel
theorem dX11_parts_66 : decode cX11_parts 66 = .ok (.iaload, 1) := by decide +kernel
theorem dX11_parts_67 : decode cX11_parts 67 = .ok (.iadd, 1) := by decide +kernel
theorem dX11_parts_68 : decode cX11_parts 68 = .ok (.iload 6, 2) := by decide +kernel
theorem dX11_parts_70 : decode cX11_parts 70 = .ok (.i2s, 1) := by decide +kernel
theorem dX11_parts_71 : decode cX11_parts 71 = .ok (.sastore, 1) := by decide +kernel
theorem dX11_parts_72 : decode cX11_parts 72 = .ok (.aload_n 0, 1) := by decide +kernel
theorem dX11_parts_73 : decode cX11_parts 73 = .ok (.getfield 45, 3) := by decide +kernel
theorem dX11_parts_76 : decode cX11_parts 76 = .ok (.iload_n 1, 1) := by decide +kernel
theorem dX11_parts_77 : decode cX11_parts 77 = .ok (.iconst 1, 1) := by decide +kernel
theorem dX11_parts_78 : decode cX11_parts 78 = .ok (.iadd, 1) := by decide +kernel
theorem dX11_parts_79 : decode cX11_parts 79 = .ok (.dup2, 1) := by decide +kernel
theorem dX11_parts_80 : decode cX11_parts 80 = .ok (.iaload, 1) := by decide +kernel
theorem dX11_parts_81 : decode cX11_parts 81 = .ok (.iconst 1, 1) := by decide +kernel
theorem dX11_parts_82 : decode cX11_parts 82 = .ok (.iadd, 1) := by decide +kernel
theorem dX11_parts_83 : decode cX11_parts 83 = .ok (.iastore, 1) := by decide +kernel
theorem dX11_parts_84 : decode cX11_parts 84 = .ok (.iinc 5 1, 3) := by decide +kernel
theorem dX11_parts_87 : decode cX11_parts 87 = .ok (.goto (-75), 3) := by decide +kernel
theorem dX11_parts_90 : decode cX11_parts 90 = .ok (.return_, 1) := by decide +kernel
def VX11_parts_84 (d : Nat) (c12 : Nat → Int → Int → Int → Int → Int → MS → Prop) (Q : Out → MS → Prop) (x0 : Nat) (x1 : Int) (x2 : Int) (x3 : Int) (x4 : Int) (x5 : Int) (S : MS) : Prop :=
  c12 x0 x1 x2 x3 x4 (x5 + 1) S
theorem JX11_parts_84 {d : Nat} {c12 : Nat → Int → Int → Int → Int → Int → MS → Prop} {S0 : MS} {Q : Out → MS → Prop} (hc12 : ∀ (x0 : Nat) (x1 : Int) (x2 : Int) (x3 : Int) (x4 : Int) (x5 : Int) (S : MS), c12 x0 x1 x2 x3 x4 x5 S → Jw FinM RX11 cX11_parts 7 none [] yX11_parts (d + 1) S0 S 12 [(0, vA x0), (1, vI x1), (2, vI x2), (3, vI x3), (4, vI x4), (5, vI x5)] [] Q) (x0 : Nat) (x1 : Int) (x2 : Int) (x3 : Int) (x4 : Int) (x5 : Int) (S : MS) (h : VX11_parts_84 d c12 Q x0 x1 x2 x3 x4 x5 S) : Jw FinM RX11 cX11_parts 7 none [] yX11_parts (d + 1) S0 S 84 [(0, vA x0), (1, vI x1), (2, vI x2), (3, vI x3), (4, vI x4), (5, vI x5)] [] Q :=
  j_iinc 5 (lv2 := [(5, vI (x5 + 1)), (0, vA x0), (1, vI x1), (2, vI x2), (3, vI x3), (4, vI x4)]) dX11_parts_84 rfl (by decide) rfl (j_goto (tgt := 12) dX11_parts_87 (by decide) (j_sub [1, 2, 3, 4, 5, 0] rfl (hc12 _ _ _ _ _ _ _ h)))
def VX11_parts_12 (d : Nat) (Q : Out → MS → Prop) : Nat → Nat → Int → Int → Int → Int → Int → MS → Prop
  | 0, _, _, _, _, _, _, _ => False
  | n + 1, x0, x1, x2, x3, x4, x5, S => S.K x0 = 11 ∧ ∃ b1, S.R x0 17 = some b1 ∧ ((S.K b1 = 13 ∧ 0 ≤ x1 ∧ x1 < S.N b1) ∧ ((R32 x5 ∧ R32 (S.I b1 (x1).toNat)) ∧ (((S.I b1 (x1).toNat) ≤ x5) → Q (.inl none) S) ∧ (¬ ((S.I b1 (x1).toNat) ≤ x5) → S.K x0 = 11 ∧ Mw hX11_rowAt yX11_rowAt d [vA x0, vI x1, vI x5] S (oI (fun r2 S2 => S2.K x0 = 11 ∧ Mw hX11_riser yX11_riser d [vA x0, vI x2, vI x3, vI r2] S2 (oI (fun r3 S3 => (R32 r3 ∧ R32 x4) ∧ ((r3 = x4) → S3.K x0 = 11 ∧ ∃ b4, S3.R x0 16 = some b4 ∧ (S3.K x0 = 11 ∧ ∃ b5, S3.R x0 17 = some b5 ∧ ((S3.K b5 = 13 ∧ 0 ≤ (x1 + 1) ∧ (x1 + 1) < S3.N b5) ∧ ((S3.K b4 = 15 ∧ 0 ≤ ((5040 * (x1 + 1)) + (S3.I b5 ((x1 + 1)).toNat)) ∧ ((5040 * (x1 + 1)) + (S3.I b5 ((x1 + 1)).toNat)) < S3.N b4) ∧ ((S3.setI b4 (((5040 * (x1 + 1)) + (S3.I b5 ((x1 + 1)).toNat))).toNat (i2S (i2S r2))).K x0 = 11 ∧ ∃ b6, (S3.setI b4 (((5040 * (x1 + 1)) + (S3.I b5 ((x1 + 1)).toNat))).toNat (i2S (i2S r2))).R x0 17 = some b6 ∧ (((S3.setI b4 (((5040 * (x1 + 1)) + (S3.I b5 ((x1 + 1)).toNat))).toNat (i2S (i2S r2))).K b6 = 13 ∧ 0 ≤ (x1 + 1) ∧ (x1 + 1) < (S3.setI b4 (((5040 * (x1 + 1)) + (S3.I b5 ((x1 + 1)).toNat))).toNat (i2S (i2S r2))).N b6) ∧ (((S3.setI b4 (((5040 * (x1 + 1)) + (S3.I b5 ((x1 + 1)).toNat))).toNat (i2S (i2S r2))).K b6 = 13 ∧ 0 ≤ (x1 + 1) ∧ (x1 + 1) < (S3.setI b4 (((5040 * (x1 + 1)) + (S3.I b5 ((x1 + 1)).toNat))).toNat (i2S (i2S r2))).N b6) ∧ (∀ S7 : MS, S7 = (S3.setI b4 (((5040 * (x1 + 1)) + (S3.I b5 ((x1 + 1)).toNat))).toNat (i2S (i2S r2))).setI b6 ((x1 + 1)).toNat (((S3.setI b4 (((5040 * (x1 + 1)) + (S3.I b5 ((x1 + 1)).toNat))).toNat (i2S (i2S r2))).I b6 ((x1 + 1)).toNat) + 1) → VX11_parts_84 d (VX11_parts_12 d Q n) Q x0 x1 x2 x3 x4 x5 S7)))))))) ∧ (¬ (r3 = x4) → VX11_parts_84 d (VX11_parts_12 d Q n) Q x0 x1 x2 x3 x4 x5 S3))))))))
theorem JX11_parts_12 {d : Nat} {S0 : MS} {Q : Out → MS → Prop} : ∀ (n : Nat) (x0 : Nat) (x1 : Int) (x2 : Int) (x3 : Int) (x4 : Int) (x5 : Int) (S : MS), VX11_parts_12 d Q n x0 x1 x2 x3 x4 x5 S → Jw FinM RX11 cX11_parts 7 none [] yX11_parts (d + 1) S0 S 12 [(0, vA x0), (1, vI x1), (2, vI x2), (3, vI x3), (4, vI x4), (5, vI x5)] [] Q := by
  intro n
  induction n with
  | zero => intro x0 x1 x2 x3 x4 x5 S h; exact h.elim
  | succ n ih =>
    intro x0 x1 x2 x3 x4 x5 S h
    exact j_iload 5 dX11_parts_12 rfl (j_aload_n 0 dX11_parts_14 rfl (j_getR 11 17 f_RX11_45 dX11_parts_15 h (fun b1 h => j_iload_n 1 dX11_parts_18 rfl (j_iald dX11_parts_19 h (fun h => j_icmp_ge (tgt := 90) dX11_parts_20 (by decide) h (fun h => j_vret rfl dX11_parts_90 h) (fun h => j_aload_n 0 dX11_parts_23 rfl (j_iload_n 1 dX11_parts_24 rfl (j_iload 5 dX11_parts_25 rfl (j_callV (rest := []) 11 [vI x1, vI x5] k_RX11_247 ⟨w_8_74, p_5_11⟩ ⟨_, _, rfl⟩ (by decide) rfl rfl (Nat.le_of_ble_eq_true rfl) dX11_parts_27 h (kI (fun r2 S2 h => j_istore (lv2 := [(6, vI r2), (0, vA x0), (1, vI x1), (2, vI x2), (3, vI x3), (4, vI x4), (5, vI x5)]) dX11_parts_30 (by decide) rfl (j_aload_n 1 dX11_parts_32 rfl (j_iload_n 3 dX11_parts_33 rfl (j_iload_n 4 dX11_parts_34 rfl (j_iload 0 dX11_parts_35 rfl (j_callV (rest := []) 11 [vI x2, vI x3, vI r2] k_RX11_234 ⟨w_8_62, p_5_9⟩ ⟨_, _, rfl⟩ (by decide) rfl rfl (Nat.le_of_ble_eq_true rfl) dX11_parts_37 h (kI (fun r3 S3 h => j_iload 5 dX11_parts_40 rfl (j_icmp_eq (tgt := 48) dX11_parts_42 (by decide) h (fun h => j_aload_n 1 dX11_parts_48 rfl (j_getR 11 16 f_RX11_41 dX11_parts_49 h (fun b4 h => j_sipush dX11_parts_52 rfl (j_iload_n 2 dX11_parts_55 rfl (j_iconst dX11_parts_56 (j_iadd dX11_parts_57 (j_imul dX11_parts_58 (j_aload_n 1 dX11_parts_59 rfl (j_getR 11 17 f_RX11_45 dX11_parts_60 h (fun b5 h => j_iload_n 2 dX11_parts_63 rfl (j_iconst dX11_parts_64 (j_iadd dX11_parts_65 (j_iald dX11_parts_66 h (fun h => j_iadd dX11_parts_67 (j_iload 0 dX11_parts_68 rfl (j_i2s dX11_parts_70 (j_sast dX11_parts_71 h (fun h => j_aload_n 1 dX11_parts_72 rfl (j_getR 11 17 f_RX11_45 dX11_parts_73 h (fun b6 h => j_iload_n 2 dX11_parts_76 rfl (j_iconst dX11_parts_77 (j_iadd dX11_parts_78 (j_dup2 rfl rfl dX11_parts_79 (j_iald dX11_parts_80 h (fun h => j_iconst dX11_parts_81 (j_iadd dX11_parts_82 (j_iast dX11_parts_83 h (fun h => j_bind h (fun S7 h => j_sub [1, 2, 3, 4, 5, 6] rfl (JX11_parts_84 ih _ _ _ _ _ _ _ h)))))))))))))))))))))))))))))) (fun h => j_goto (tgt := 84) dX11_parts_45 (by decide) (j_sub [1, 2, 3, 4, 5, 6] rfl (JX11_parts_84 ih _ _ _ _ _ _ _ h)))))) (fun _ _ h => h.elim)))))))) (fun _ _ h => h.elim))))))))))
def VX11_parts_0 (d : Nat) (Q : Out → MS → Prop) (x0 : Nat) (x1 : Int) (x2 : Int) (x3 : Int) (x4 : Int) (S : MS) : Prop :=
  S.K x0 = 11 ∧ ∃ b1, S.R x0 17 = some b1 ∧ ((S.K b1 = 13 ∧ 0 ≤ (x1 + 1) ∧ (x1 + 1) < S.N b1) ∧ (∃ m, VX11_parts_12 d Q m x0 x1 x2 x3 x4 0 (S.setI b1 ((x1 + 1)).toNat 0)))
theorem JX11_parts_0 {d : Nat} {S0 : MS} {Q : Out → MS → Prop} (x0 : Nat) (x1 : Int) (x2 : Int) (x3 : Int) (x4 : Int) (S : MS) (h : VX11_parts_0 d Q x0 x1 x2 x3 x4 S) : Jw FinM RX11 cX11_parts 7 none [] yX11_parts (d + 1) S0 S 0 [(0, vA x0), (1, vI x1), (2, vI x2), (3, vI x3), (4, vI x4)] [] Q :=
  j_aload_n 0 dX11_parts_0 rfl (j_getR 11 17 f_RX11_45 dX11_parts_1 h (fun b1 h => j_iload_n 1 dX11_parts_4 rfl (j_iconst dX11_parts_5 (j_iadd dX11_parts_6 (j_iconst dX11_parts_7 (j_iast dX11_parts_8 h (fun h => j_iconst dX11_parts_9 (j_istore (lv2 := [(5, vI 0), (0, vA x0), (1, vI x1), (2, vI x2), (3, vI x3), (4, vI x4)]) dX11_parts_10 (by decide) rfl (Exists.elim h (fun m h => j_sub [1, 2, 3, 4, 5, 0] rfl (JX11_parts_12 m _ _ _ _ _ _ _ h)))))))))))
theorem MX11_parts {d : Nat} {x0 : Nat} {x1 : Int} {x2 : Int} {x3 : Int} {x4 : Int} {S : MS} {Q : Out → MS → Prop} (h : VX11_parts_0 d Q x0 x1 x2 x3 x4 S) : Mw hX11_parts yX11_parts (d + 1) [vA x0, vI x1, vI x2, vI x3, vI x4] S Q := Mw.ofJ (by decide) (Nat.le_of_ble_eq_true rfl) (JX11_parts_0 _ _ _ _ _ S h)
