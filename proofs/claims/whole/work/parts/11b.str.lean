/-! the JDK's String.length and charAt on the constants -/
theorem sd_len_0 : decode cJ0_length_8abf5 0 = .ok (.aload_n 0, 1) := by decide +kernel
theorem sd_len_1 : decode cJ0_length_8abf5 1 = .ok (.getfield 9, 3) := by decide +kernel
theorem sd_len_4 : decode cJ0_length_8abf5 4 = .ok (.arraylength, 1) := by decide +kernel
theorem sd_len_5 : decode cJ0_length_8abf5 5 = .ok (.aload_n 0, 1) := by decide +kernel
theorem sd_len_6 : decode cJ0_length_8abf5 6 = .ok (.invokevirtual 335, 3) := by decide +kernel
theorem sd_len_9 : decode cJ0_length_8abf5 9 = .ok (.ishr, 1) := by decide +kernel
theorem sd_len_10 : decode cJ0_length_8abf5 10 = .ok (.ireturn, 1) := by decide +kernel
theorem sd_cha_0 : decode cJ0_charAt_5068e 0 = .ok (.aload_n 0, 1) := by decide +kernel
theorem sd_cha_1 : decode cJ0_charAt_5068e 1 = .ok (.invokevirtual 492, 3) := by decide +kernel
theorem sd_cha_4 : decode cJ0_charAt_5068e 4 = .ok (.ifCond .eq 12, 3) := by decide +kernel
theorem sd_cha_7 : decode cJ0_charAt_5068e 7 = .ok (.aload_n 0, 1) := by decide +kernel
theorem sd_cha_8 : decode cJ0_charAt_5068e 8 = .ok (.getfield 9, 3) := by decide +kernel
theorem sd_cha_11 : decode cJ0_charAt_5068e 11 = .ok (.iload_n 1, 1) := by decide +kernel
theorem sd_cha_12 : decode cJ0_charAt_5068e 12 = .ok (.invokestatic 495, 3) := by decide +kernel
theorem sd_cha_15 : decode cJ0_charAt_5068e 15 = .ok (.ireturn, 1) := by decide +kernel
theorem sd_cod_0 : decode cJ0_coder_7d493 0 = .ok (.getstatic 38, 3) := by decide +kernel
theorem sd_cod_3 : decode cJ0_coder_7d493 3 = .ok (.ifCond .eq 10, 3) := by decide +kernel
theorem sd_cod_6 : decode cJ0_coder_7d493 6 = .ok (.aload_n 0, 1) := by decide +kernel
theorem sd_cod_7 : decode cJ0_coder_7d493 7 = .ok (.getfield 15, 3) := by decide +kernel
theorem sd_cod_10 : decode cJ0_coder_7d493 10 = .ok (.goto 4, 3) := by decide +kernel
theorem sd_cod_14 : decode cJ0_coder_7d493 14 = .ok (.ireturn, 1) := by decide +kernel
theorem sd_lat_0 : decode cJ0_isLatin1_aae02 0 = .ok (.getstatic 38, 3) := by decide +kernel
theorem sd_lat_3 : decode cJ0_isLatin1_aae02 3 = .ok (.ifCond .eq 14, 3) := by decide +kernel
theorem sd_lat_6 : decode cJ0_isLatin1_aae02 6 = .ok (.aload_n 0, 1) := by decide +kernel
theorem sd_lat_7 : decode cJ0_isLatin1_aae02 7 = .ok (.getfield 15, 3) := by decide +kernel
theorem sd_lat_10 : decode cJ0_isLatin1_aae02 10 = .ok (.ifCond .ne 7, 3) := by decide +kernel
theorem sd_lat_13 : decode cJ0_isLatin1_aae02 13 = .ok (.iconst 1, 1) := by decide +kernel
theorem sd_lat_14 : decode cJ0_isLatin1_aae02 14 = .ok (.goto 4, 3) := by decide +kernel
theorem sd_lat_18 : decode cJ0_isLatin1_aae02 18 = .ok (.ireturn, 1) := by decide +kernel
theorem sd_chk_0 : decode cJ0_checkIndex_df160 0 = .ok (.iload_n 0, 1) := by decide +kernel
theorem sd_chk_1 : decode cJ0_checkIndex_df160 1 = .ok (.iload_n 1, 1) := by decide +kernel
theorem sd_chk_2 : decode cJ0_checkIndex_df160 2 = .ok (.getstatic 1053, 3) := by decide +kernel
theorem sd_chk_5 : decode cJ0_checkIndex_df160 5 = .ok (.invokestatic 1059, 3) := by decide +kernel
theorem sd_chk_8 : decode cJ0_checkIndex_df160 8 = .ok (.pop, 1) := by decide +kernel
theorem sd_chk_9 : decode cJ0_checkIndex_df160 9 = .ok (.return_, 1) := by decide +kernel
theorem sd_l1_0 : decode cJ1_charAt_3b067 0 = .ok (.iload_n 1, 1) := by decide +kernel
theorem sd_l1_1 : decode cJ1_charAt_3b067 1 = .ok (.aload_n 0, 1) := by decide +kernel
theorem sd_l1_2 : decode cJ1_charAt_3b067 2 = .ok (.arraylength, 1) := by decide +kernel
theorem sd_l1_3 : decode cJ1_charAt_3b067 3 = .ok (.invokestatic 9, 3) := by decide +kernel
theorem sd_l1_6 : decode cJ1_charAt_3b067 6 = .ok (.aload_n 0, 1) := by decide +kernel
theorem sd_l1_7 : decode cJ1_charAt_3b067 7 = .ok (.iload_n 1, 1) := by decide +kernel
theorem sd_l1_8 : decode cJ1_charAt_3b067 8 = .ok (.baload, 1) := by decide +kernel
theorem sd_l1_9 : decode cJ1_charAt_3b067 9 = .ok (.sipush 255, 3) := by decide +kernel
theorem sd_l1_12 : decode cJ1_charAt_3b067 12 = .ok (.iand, 1) := by decide +kernel
theorem sd_l1_13 : decode cJ1_charAt_3b067 13 = .ok (.i2c, 1) := by decide +kernel
theorem sd_l1_14 : decode cJ1_charAt_3b067 14 = .ok (.ireturn, 1) := by decide +kernel
theorem sd_pre_0 : decode cJ3_checkIndex_8e157 0 = .ok (.iload_n 0, 1) := by decide +kernel
theorem sd_pre_1 : decode cJ3_checkIndex_8e157 1 = .ok (.ifCond .lt 8, 3) := by decide +kernel
theorem sd_pre_4 : decode cJ3_checkIndex_8e157 4 = .ok (.iload_n 0, 1) := by decide +kernel
theorem sd_pre_5 : decode cJ3_checkIndex_8e157 5 = .ok (.iload_n 1, 1) := by decide +kernel
theorem sd_pre_6 : decode cJ3_checkIndex_8e157 6 = .ok (.if_icmp .lt 10, 3) := by decide +kernel
theorem sd_pre_16 : decode cJ3_checkIndex_8e157 16 = .ok (.iload_n 0, 1) := by decide +kernel
theorem sd_pre_17 : decode cJ3_checkIndex_8e157 17 = .ok (.ireturn, 1) := by decide +kernel
theorem sk_335 : CVk RJ0 335 yJ0_coder_7d493 cJ0_coder_7d493 1 (some .byte) 0 := ⟨inTB (by decide +kernel) rfl, inTB (by decide +kernel) rfl, inTB (by decide +kernel) rfl, ⟨by decide, by decide, by decide +kernel⟩, by decide⟩
theorem sk_492 : CVk RJ0 492 yJ0_isLatin1_aae02 cJ0_isLatin1_aae02 1 (some .boolean) 0 := ⟨inTB (by decide +kernel) rfl, inTB (by decide +kernel) rfl, inTB (by decide +kernel) rfl, ⟨by decide, by decide, by decide +kernel⟩, by decide⟩
theorem sk_495 : CVk RJ0 495 yJ1_charAt_3b067 cJ1_charAt_3b067 2 (some .char) 2 := ⟨inTB (by decide +kernel) rfl, inTB (by decide +kernel) rfl, inTB (by decide +kernel) rfl, ⟨by decide, by decide, by decide +kernel⟩, by decide⟩
theorem sk_9 : CVk RJ1 9 yJ0_checkIndex_df160 cJ0_checkIndex_df160 2 none 2 := ⟨inTB (by decide +kernel) rfl, inTB (by decide +kernel) rfl, inTB (by decide +kernel) rfl, ⟨by decide, by decide, by decide +kernel⟩, by decide⟩
theorem sk_1059 : CVk RJ0 1059 yJ3_checkIndex_8e157 cJ3_checkIndex_8e157 3 (some .int) 3 := ⟨inTB (by decide +kernel) rfl, inTB (by decide +kernel) rfl, inTB (by decide +kernel) rfl, ⟨by decide, by decide, by decide +kernel⟩, by decide⟩
theorem sw_coder : Cond.instanceMethod yJ0_coder_7d493 ∈ TB ∧ Cond.selects yJ0_coder_7d493.cls yJ0_coder_7d493 yJ0_coder_7d493 ∈ TB := ⟨inTB (by decide +kernel) rfl, inTB (by decide +kernel) rfl⟩
theorem sw_latin : Cond.instanceMethod yJ0_isLatin1_aae02 ∈ TB ∧ Cond.selects yJ0_isLatin1_aae02.cls yJ0_isLatin1_aae02 yJ0_isLatin1_aae02 ∈ TB := ⟨inTB (by decide +kernel) rfl, inTB (by decide +kernel) rfl⟩
theorem sw_l1 : Cond.static yJ1_charAt_3b067 ∈ TB := inTB (by decide +kernel) rfl
theorem sw_chk : Cond.static yJ0_checkIndex_df160 ∈ TB := inTB (by decide +kernel) rfl
theorem sw_pre : Cond.static yJ3_checkIndex_8e157 ∈ TB := inTB (by decide +kernel) rfl
theorem sf_val : Cond.fieldLink RJ0 9 "java/lang/String" "value" "[B" ∈ TB := inTB (by decide +kernel) rfl
theorem sf_cod : Cond.fieldLink RJ0 15 "java/lang/String" "coder" "B" ∈ TB := inTB (by decide +kernel) rfl
theorem sf_cs : Cond.fieldLink RJ0 38 "java/lang/String" "COMPACT_STRINGS" "Z" ∈ TB := inTB (by decide +kernel) rfl
theorem sf_fmt : Cond.fieldLink RJ0 1053 "jdk/internal/util/Preconditions" "SIOOBE_FORMATTER" "Ljava/util/function/BiFunction;" ∈ TB := inTB (by decide +kernel) rfl
section JT
variable {Fz : FinT} {own : String} {cc : ByteArray} {nL : Nat} {ret : Option FieldType} {hh : List (Nat × Nat × Nat × Nat)} {y : MethodName} {d : Nat} {S0 S : MS} {pc : Nat} {lv : List (Nat × Value)} {st : List Value} {Q : Out → MS → Prop}
theorem Cx.vk {T : Nat → Nat} {b0 : Nat} {D : va_G} {p : Program} {l : Launch} {R : Room} {s : State} {m : MethodId} {args : Array Value} {meth : Method} {c : Code} (C : Cx own cc nL ret hh y d T b0 D p l R s m args meth c) : vk_S strN lenJS bytJS T (fun i => T (8 + i)) (fun q => b0 ≤ q) s s.heap := C.wf.2.2.2.2.2.2.2.1
theorem Cx.cs {T : Nat → Nat} {b0 : Nat} {D : va_G} {p : Program} {l : Launch} {R : Room} {s : State} {m : MethodId} {args : Array Value} {meth : Method} {c : Code} (C : Cx own cc nL ret hh y d T b0 D p l R s m args meth c) : va_Z "java/lang/String" "COMPACT_STRINGS" "Z" (.int 1) (fun q => b0 ≤ q) s s.heap ∧ va_Zq "jdk/internal/util/Preconditions" "SIOOBE_FORMATTER" "Ljava/util/function/BiFunction;" (fun q => b0 ≤ q) s s.heap := C.wf.2.2.2.2.2.2.2.2.1
theorem j_sval {i idx : Nat} (hi : i < 8) (hw : Cond.fieldLink own idx "java/lang/String" "value" "[B" ∈ TB) (hd : decode cc pc = .ok (.getfield idx, 3)) (k : Jw Fz own cc nL ret hh y d S0 S (pc + 3) lv (vA (S.T (8 + i)) :: st) Q) : Jw Fz own cc nL ret hh y d S0 S pc lv (vA (S.T i) :: st) Q := by
  obtain ⟨o, S', h1, h2, h3⟩ := k
  refine ⟨o, S', h1, h2, fun C c1 c2 c3 hr hs hl => ?_⟩
  exact vk_getf C.1 C.2.1 (C.vk.1 i hi).2.2.1 hs C.2.2.2.1 (C.2.2.2.2.1 _ hw) (fun _ h => h) hd (h3 C c1 c2 c3 hr hs hl)
theorem j_scod {i idx : Nat} (hi : i < 8) (hw : Cond.fieldLink own idx "java/lang/String" "coder" "B" ∈ TB) (hd : decode cc pc = .ok (.getfield idx, 3)) (k : Jw Fz own cc nL ret hh y d S0 S (pc + 3) lv (vI 0 :: st) Q) : Jw Fz own cc nL ret hh y d S0 S pc lv (vA (S.T i) :: st) Q := by
  obtain ⟨o, S', h1, h2, h3⟩ := k
  refine ⟨o, S', h1, h2, fun C c1 c2 c3 hr hs hl => ?_⟩
  exact vk_getf C.1 C.2.1 (C.vk.1 i hi).2.1 hs C.2.2.2.1 (C.2.2.2.2.1 _ hw) (fun _ h => h) hd (h3 C c1 c2 c3 hr hs hl)
theorem j_scs {idx : Nat} (hw : Cond.fieldLink own idx "java/lang/String" "COMPACT_STRINGS" "Z" ∈ TB) (hd : decode cc pc = .ok (.getstatic idx, 3)) (k : Jw Fz own cc nL ret hh y d S0 S (pc + 3) lv (vI 1 :: st) Q) : Jw Fz own cc nL ret hh y d S0 S pc lv st Q := by
  obtain ⟨o, S', h1, h2, h3⟩ := k
  refine ⟨o, S', h1, h2, fun C c1 c2 c3 hr hs hl => ?_⟩
  exact va_gets C.1 C.2.1 C.cs.1 hs C.2.2.2.1 (C.2.2.2.2.1 _ hw) (fun _ h => h) hd (h3 C c1 c2 c3 hr hs hl)
theorem j_sfmt {idx : Nat} {o : Out} {S' : MS} (hw : Cond.fieldLink own idx "jdk/internal/util/Preconditions" "SIOOBE_FORMATTER" "Ljava/util/function/BiFunction;" ∈ TB) (hd : decode cc pc = .ok (.getstatic idx, 3)) (hQ : Q o S') (k : ∀ v : Value, v.category = 1 → Jw Fz own cc nL ret hh y d S0 S (pc + 3) lv (v :: st) (fun o1 S1 => o1 = o ∧ S1 = S')) : Jw Fz own cc nL ret hh y d S0 S pc lv st Q := by
  have k2 : ∀ v : Value, v.category = 1 → leM S S' ∧ ∀ {p : Program} {l : Launch} {e : Env} {R : Room} {s : State} {m : MethodId} {args : Array Value} {below : List Frame} {meth : Method} {c : Code} {D : va_G} {b0 : Nat} {H : Heap} {locs : List Loc} {ls : Array Slot},
    Cx own cc nL ret hh y d S.T b0 D p l R s m args meth c → leM S0 S → S'.nx - S0.nx ≤ R.cells → S'.us - S0.us ≤ R.slots → Rep D b0 S s H → va_S (fun q => b0 ≤ q) s.heap H locs → lv_has ls nL lv →
    W p l e R s m args below meth c H locs (S.nx - S0.nx) (S.us - S0.us) (Fz o S' D b0 below args s (S'.nx - S0.nx) (S'.us - S0.us)) (F0 m (pc + 3) ls (v :: st)) := by
    intro v hv
    obtain ⟨o1, S1, ⟨rfl, rfl⟩, h2, h3⟩ := k v hv
    exact ⟨h2, h3⟩
  refine ⟨o, S', hQ, (k2 .null rfl).1, fun C c1 c2 c3 hr hs hl => ?_⟩
  rcases C.cs.2 with hz | ⟨t, hz⟩
  · exact va_gets C.1 C.2.1 hz hs C.2.2.2.1 (C.2.2.2.2.1 _ hw) (fun _ h => h) hd ((k2 .null rfl).2 C c1 c2 c3 hr hs hl)
  · exact va_gets C.1 C.2.1 hz hs C.2.2.2.1 (C.2.2.2.2.1 _ hw) (fun _ h => h) hd ((k2 (.ref t) rfl).2 C c1 c2 c3 hr hs hl)
theorem j_stlen {i : Nat} (hi : i < 8) (hd : decode cc pc = .ok (.arraylength, 1)) (k : Jw Fz own cc nL ret hh y d S0 S (pc + 1) lv (vI (lenJS.getD i 0 : Nat) :: st) Q) : Jw Fz own cc nL ret hh y d S0 S pc lv (vA (S.T (8 + i)) :: st) Q := by
  obtain ⟨o, S', h1, h2, h3⟩ := k
  refine ⟨o, S', h1, h2, fun C c1 c2 c3 hr hs hl => ?_⟩
  obtain ⟨cell, t1, t2, t3, t4, t5, t6, t7⟩ := (C.vk.1 i hi).2.2.2.kept hs.2.1
  refine W.alen (n := Int32.ofNat (lenJS.getD i 0)) C.1 C.2.1 t1 t2 t5 rfl rfl hd ?_
  rw [← Int32.ofInt_eq_ofNat]
  exact h3 C c1 c2 c3 hr hs hl
theorem j_stb {i k : Nat} {n : Int} (hi : i < 8) (hk : k < lenJS.getD i 0) (h8 : lenJS.getD i 0 < 8) (hn : (bytJS.getD i []).getD k 0 = Int32.ofInt n) (hd : decode cc pc = .ok (.baload, 1)) (kk : Jw Fz own cc nL ret hh y d S0 S (pc + 1) lv (vI n :: st) Q) : Jw Fz own cc nL ret hh y d S0 S pc lv (vI (k : Int) :: vA (S.T (8 + i)) :: st) Q := by
  obtain ⟨o, S', h1, h2, h3⟩ := kk
  refine ⟨o, S', h1, h2, fun C c1 c2 c3 hr hs hl => ?_⟩
  obtain ⟨g1, g2, g3⟩ := r32_in (x := (k : Int)) (n := lenJS.getD i 0) (by omega) (by omega) (by omega)
  refine va_tb C.1 C.2.1 (C.vk.1 i hi).2.2.2 hs g2 (v := vI n) ?_ hd (h3 C c1 c2 c3 hr hs hl)
  show Value.int ((bytJS.getD i []).getD _ 0) = _
  rw [g3, Int.toNat_natCast, hn]
theorem j_i2c {x : Int} (hd : decode cc pc = .ok (.i2c, 1)) (k : Jw Fz own cc nL ret hh y d S0 S (pc + 1) lv (vI (i2C x) :: st) Q) : Jw Fz own cc nL ret hh y d S0 S pc lv (vI x :: st) Q :=
  j_step (fun hx hb _ _ _ w => lv_i2c hx hb hd (Int32.ofInt_toInt _).symm w) k
theorem j_nret {x : Int} {ty : FieldType} (hr : ret = some ty) (hn : narrow ty (vI x) = vI x) (hd : decode cc pc = .ok (.ireturn, 1)) (h : Q (.inl (some (vI x))) S) : Jw FinM own cc nL ret hh y d S0 S pc lv [vI x] Q := by
  refine ⟨_, S, h, leM.rf, fun C c1 c2 c3 hR hs hl => ?_⟩
  exact vx_ret (W.zret C.1 C.2.1 (C.ret.1.trans hr) hn (fun t ht hW => ⟨⟨_, rfl, rfl, by rw [ht]; exact hR.moved hW.alike⟩, hs.F ht⟩) hs.2.2 hd C.ret.2.1)
end JT
theorem m_coder {d i : Nat} {S : MS} {Q : Out → MS → Prop} (hi : i < 8) (h : Q (.inl (some (vI 0))) S) : Mw (.code yJ0_coder_7d493 cJ0_coder_7d493 1 (some .byte)) yJ0_coder_7d493 d [vA (S.T i)] S Q := by
  refine Mw.ofJ (by decide) (Nat.le_of_ble_eq_true rfl) ?_
  refine j_scs sf_cs sd_cod_0 (j_if_eq (A := False) (B := True) sd_cod_3 (tgt := 13) (by decide) ⟨⟨by decide, by decide⟩, fun q => absurd q (by decide), fun _ => trivial⟩ (fun q => q.elim) (fun _ => ?_))
  exact j_aload_n 0 sd_cod_6 rfl (j_scod hi sf_cod sd_cod_7 (j_goto (tgt := 14) sd_cod_10 (by decide) (j_nret rfl rfl sd_cod_14 h)))
theorem m_latin {d i : Nat} {S : MS} {Q : Out → MS → Prop} (hi : i < 8) (h : Q (.inl (some (vI 1))) S) : Mw (.code yJ0_isLatin1_aae02 cJ0_isLatin1_aae02 1 (some .boolean)) yJ0_isLatin1_aae02 d [vA (S.T i)] S Q := by
  refine Mw.ofJ (by decide) (Nat.le_of_ble_eq_true rfl) ?_
  refine j_scs sf_cs sd_lat_0 (j_if_eq (A := False) (B := True) sd_lat_3 (tgt := 17) (by decide) ⟨⟨by decide, by decide⟩, fun q => absurd q (by decide), fun _ => trivial⟩ (fun q => q.elim) (fun _ => ?_))
  refine j_aload_n 0 sd_lat_6 rfl (j_scod hi sf_cod sd_lat_7 (j_if_ne (A := False) (B := True) sd_lat_10 (tgt := 17) (by decide) ⟨⟨by decide, by decide⟩, fun q => absurd rfl q, fun _ => trivial⟩ (fun q => q.elim) (fun _ => ?_)))
  exact j_iconst sd_lat_13 (j_goto (tgt := 18) sd_lat_14 (by decide) (j_nret rfl rfl sd_lat_18 h))
theorem m_pre {d : Nat} {k n : Int} {v : Value} {S : MS} {Q : Out → MS → Prop} (hv : v.category = 1) (h0 : 0 ≤ k) (h1 : k < n) (hn : n < 2147483648) (h : Q (.inl (some (vI k))) S) : Mw (.code yJ3_checkIndex_8e157 cJ3_checkIndex_8e157 3 (some .int)) yJ3_checkIndex_8e157 d [vI k, vI n, v] S Q := by
  have hl : (lg_sl [vI k, vI n, v]).length ≤ 3 := by cases v <;> first | exact Nat.le_of_ble_eq_true rfl | (cases hv)
  refine Mw.ofJ (by decide) hl ?_
  have r1 : R32 k := ⟨by omega, by omega⟩
  have r2 : R32 n := ⟨by omega, by omega⟩
  refine j_iload_n 0 sd_pre_0 rfl (j_if_lt (A := False) (B := True) sd_pre_1 (tgt := 9) (by decide) ⟨r1, fun q => absurd q (by omega), fun _ => trivial⟩ (fun q => q.elim) (fun _ => ?_))
  refine j_iload_n 0 sd_pre_4 rfl (j_iload_n 1 sd_pre_5 rfl (j_icmp_lt (A := True) (B := False) sd_pre_6 (tgt := 16) (by decide) ⟨⟨r1, r2⟩, fun _ => trivial, fun q => absurd h1 q⟩ (fun _ => ?_) (fun q => q.elim)))
  exact j_iload_n 0 sd_pre_16 rfl (j_iret rfl sd_pre_17 h)
theorem m_chk {d : Nat} {k n : Int} {S : MS} {Q : Out → MS → Prop} (h0 : 0 ≤ k) (h1 : k < n) (hn : n < 2147483648) (h : Q (.inl none) S) : Mw (.code yJ0_checkIndex_df160 cJ0_checkIndex_df160 2 none) yJ0_checkIndex_df160 (d + 1) [vI k, vI n] S Q := by
  refine Mw.ofJ (by decide) (Nat.le_of_ble_eq_true rfl) ?_
  refine j_iload_n 0 sd_chk_0 rfl (j_iload_n 1 sd_chk_1 rfl (j_sfmt sf_fmt sd_chk_2 h (fun v hv => ?_)))
  refine j_callS (rest := []) (X := fun _ _ => False) (P := fun w S1 => w = some (vI k) ∧ S1 = S) [vI k, vI n, v] sk_1059 sw_pre rfl rfl (Nat.le_of_ble_eq_true rfl) sd_chk_5 (m_pre hv h0 h1 hn (Or.inl ⟨_, rfl, rfl, rfl⟩)) ?_ (fun _ _ q => q.elim)
  rintro w S1 ⟨rfl, rfl⟩
  exact j_pop rfl sd_chk_8 (j_vret rfl sd_chk_9 ⟨rfl, rfl⟩)
theorem byt_val : ∀ i : Fin 8, lenJS.getD i 0 < 8 ∧ ∀ k : Fin 8, ((bytJS.getD i []).getD k 0).toInt = ((bytJS.getD i []).getD k 0).toInt.toNat ∧ ((bytJS.getD i []).getD k 0).toInt.toNat < 128 := by decide +kernel
theorem and_255 : ∀ n : Fin 128, iAnd ((n : Nat) : Int) 255 = ((n : Nat) : Int) ∧ i2C ((n : Nat) : Int) = ((n : Nat) : Int) ∧ narrow .char (vI ((n : Nat) : Int)) = vI ((n : Nat) : Int) := by decide +kernel
theorem m_l1 {d i k : Nat} {S : MS} {Q : Out → MS → Prop} (hi : i < 8) (hk : k < lenJS.getD i 0) (h : Q (.inl (some (vI ((bytJS.getD i []).getD k 0).toInt))) S) : Mw (.code yJ1_charAt_3b067 cJ1_charAt_3b067 2 (some .char)) yJ1_charAt_3b067 (d + 2) [vA (S.T (8 + i)), vI (k : Int)] S Q := by
  refine Mw.ofJ (by decide) (Nat.le_of_ble_eq_true rfl) ?_
  obtain ⟨b1, b2⟩ := byt_val ⟨i, hi⟩
  obtain ⟨b3, b4⟩ := b2 ⟨k, Nat.lt_trans hk b1⟩
  obtain ⟨b5, b6, b7⟩ := and_255 ⟨_, b4⟩
  have b1' : lenJS.getD i 0 < 8 := b1
  refine j_iload_n 1 sd_l1_0 rfl (j_aload_n 0 sd_l1_1 rfl (j_stlen hi sd_l1_2 ?_))
  refine j_callS (rest := []) (X := fun _ _ => False) (P := fun w S1 => w = none ∧ S1 = S) [vI (k : Int), vI (lenJS.getD i 0 : Nat)] sk_9 sw_chk rfl rfl (Nat.le_of_ble_eq_true rfl) sd_l1_3 (m_chk (by omega) (by omega) (by omega) (Or.inl ⟨_, rfl, rfl, rfl⟩)) ?_ (fun _ _ q => q.elim)
  rintro w S1 ⟨rfl, rfl⟩
  refine j_aload_n 0 sd_l1_6 rfl (j_iload_n 1 sd_l1_7 rfl (j_stb (n := ((bytJS.getD i []).getD k 0).toInt) hi hk b1 (Int32.ofInt_toInt _).symm sd_l1_8 ?_))
  refine j_sipush (n := 255) sd_l1_9 rfl (j_iand sd_l1_12 (j_i2c sd_l1_13 ?_))
  have e : i2C (iAnd ((bytJS.getD i []).getD k 0).toInt 255) = ((bytJS.getD i []).getD k 0).toInt := by
    have b3' : ((bytJS.getD i []).getD k 0).toInt = (((bytJS.getD i []).getD k 0).toInt.toNat : Int) := b3
    rw [b3']
    exact (congrArg i2C b5).trans b6
  rw [e]
  refine j_nret rfl ?_ sd_l1_14 h
  have b3' : ((bytJS.getD i []).getD k 0).toInt = (((bytJS.getD i []).getD k 0).toInt.toNat : Int) := b3
  rw [b3']
  exact b7
theorem shr_0 : ∀ n : Fin 8, iShr ((n : Nat) : Int) 0 = ((n : Nat) : Int) := by decide +kernel
theorem m_length {d i : Nat} {S : MS} {Q : Out → MS → Prop} (hi : i < 8) (h : Q (.inl (some (vI (lenJS.getD i 0 : Nat)))) S) : Mw (.code yJ0_length_8abf5 cJ0_length_8abf5 1 (some .int)) yJ0_length_8abf5 (d + 1) [vA (S.T i)] S Q := by
  refine Mw.ofJ (by decide) (Nat.le_of_ble_eq_true rfl) ?_
  refine j_aload_n 0 sd_len_0 rfl (j_sval hi sf_val sd_len_1 (j_stlen hi sd_len_4 (j_aload_n 0 sd_len_5 rfl ?_)))
  refine j_callT (rest := [vI (lenJS.getD i 0 : Nat)]) (P := fun w S1 => w = some (vI 0) ∧ S1 = S) [] sk_335 sw_coder rfl rfl rfl (Nat.le_of_ble_eq_true rfl) sd_len_6 ⟨⟨i, hi, rfl⟩, m_coder hi (Or.inl ⟨_, rfl, rfl, rfl⟩)⟩ ?_
  rintro w S1 ⟨rfl, rfl⟩
  refine j_ishr sd_len_9 ?_
  rw [show iShr ((lenJS.getD i 0 : Nat) : Int) 0 = ((lenJS.getD i 0 : Nat) : Int) from shr_0 ⟨_, (byt_val ⟨i, hi⟩).1⟩]
  exact j_iret rfl sd_len_10 h
theorem m_charAt {d i k : Nat} {S : MS} {Q : Out → MS → Prop} (hi : i < 8) (hk : k < lenJS.getD i 0) (h : Q (.inl (some (vI ((bytJS.getD i []).getD k 0).toInt))) S) : Mw (.code yJ0_charAt_5068e cJ0_charAt_5068e 2 (some .char)) yJ0_charAt_5068e (d + 3) [vA (S.T i), vI (k : Int)] S Q := by
  refine Mw.ofJ (by decide) (Nat.le_of_ble_eq_true rfl) ?_
  refine j_aload_n 0 sd_cha_0 rfl ?_
  refine j_callT (rest := []) (P := fun w S1 => w = some (vI 1) ∧ S1 = S) [] sk_492 sw_latin rfl rfl rfl (Nat.le_of_ble_eq_true rfl) sd_cha_1 ⟨⟨i, hi, rfl⟩, m_latin hi (Or.inl ⟨_, rfl, rfl, rfl⟩)⟩ ?_
  rintro w S1 ⟨rfl, rfl⟩
  refine j_if_eq (A := False) (B := True) sd_cha_4 (tgt := 16) (by decide) ⟨⟨by decide, by decide⟩, fun q => absurd q (by decide), fun _ => trivial⟩ (fun q => q.elim) (fun _ => ?_)
  refine j_aload_n 0 sd_cha_7 rfl (j_sval hi sf_val sd_cha_8 (j_iload_n 1 sd_cha_11 rfl ?_))
  refine j_callS (rest := []) (X := fun _ _ => False) (P := fun w S2 => w = some (vI ((bytJS.getD i []).getD k 0).toInt) ∧ S2 = S1) [vA (S1.T (8 + i)), vI (k : Int)] sk_495 sw_l1 rfl rfl (Nat.le_of_ble_eq_true rfl) sd_cha_12 (m_l1 hi hk (Or.inl ⟨_, rfl, rfl, rfl⟩)) ?_ (fun _ _ q => q.elim)
  rintro w S2 ⟨rfl, rfl⟩
  refine j_nret rfl ?_ sd_cha_15 h
  obtain ⟨b1, b2⟩ := byt_val ⟨i, hi⟩
  obtain ⟨b3, b4⟩ := b2 ⟨k, Nat.lt_trans hk b1⟩
  have b3' : ((bytJS.getD i []).getD k 0).toInt = (((bytJS.getD i []).getD k 0).toInt.toNat : Int) := b3
  rw [b3']
  exact (and_255 ⟨_, b4⟩).2.2
