section JS
variable {Fz : FinT} {own : String} {cc : ByteArray} {nL : Nat} {ret : Option FieldType} {hh : List (Nat × Nat × Nat × Nat)} {y : MethodName} {d : Nat} {S0 S : MS} {pc : Nat} {lv : List (Nat × Value)} {st : List Value} {Q : Out → MS → Prop}
/-- a call on a String constant -/
theorem j_callT {idx n maxL b : Nat} {y' : MethodName} {bytes : ByteArray} {ret' : Option FieldType} (As : List Value) {rest : List Value} {P : Option Value → MS → Prop} (hC : CVk own idx y' bytes maxL ret' n) (hw : Cond.instanceMethod y' ∈ TB ∧ Cond.selects y'.cls y' y' ∈ TB) (hcls : y'.cls = "java/lang/String") (hn : As.length = n) (hst : st = As.reverse ++ vA b :: rest) (hcat : (rest.map fun v => v.category).sum ≤ 8)
    (hd : decode cc pc = .ok (.invokevirtual idx, 3)) (h : (∃ i, i < 8 ∧ b = S.T i) ∧ Mw (.code y' bytes maxL ret') y' d (vA b :: As) S (fun o S1 => (∃ v, o = .inl v ∧ P v S1) ∨ ∃ E, o = .inr E ∧ False))
    (k : ∀ v S1, P v S1 → Jw Fz own cc nL ret hh y (d + 1) S0 S1 (pc + 3) lv (v.toList ++ rest) Q) : Jw Fz own cc nL ret hh y (d + 1) S0 S pc lv st Q := by
  refine j_call (X := fun _ _ => False) (fun C hR hs hl ho hM q1 q2 => ?_) h.2 k (fun _ _ h => h.elim)
  obtain ⟨⟨i, hi, rfl⟩, -⟩ := h
  have hK := C.2.2.2.2.2.2.2.2.1
  have hts := C.2.2.2.2.1
  have hvk := C.wf.2.2.2.2.2.2.2.1
  have hrecv := vk_recv hvk hi hs
  exact vx_runV (cc := cc) (nL := nL) (Ts := TB) (C := y'.cls) (b := S.T i) (As := As) ⟨C.1, C.2.1, C.2.2.1, C.2.2.2.1, hts⟩ hM ⟨cvB hC C, hts _ hw.1, hts _ hw.2⟩ ⟨pq_blind, by rw [hcls]; exact hrecv, fun U hU hW => pq_at C.2.2.2.2.2.2.2.2.2.2.1 hK C.2.2.2.2.2.2.2.2.2.2.2.1 hR hs hU hW⟩ rfl hn hl.1 hst (by show 2 * 0 + _ ≤ 8; omega) hd ⟨q1, q2⟩
/-- the words of a static call of a method with a table -/
def CWk (own : String) (idx : Nat) (y' : MethodName) (bytes : ByteArray) (maxL : Nat) (ret' : Option FieldType) (hh' : List (Nat × Nat × Nat × Nat)) (n : Nat) : Prop :=
  Cond.codeWith y' bytes maxL ret' hh' ∈ TB ∧ Cond.methodLink own idx y' ∈ TB ∧ Cond.initialized y'.cls ∈ TB ∧ (y'.cls ≠ "java/lang/invoke/MethodHandle" ∧ y'.cls ≠ "java/lang/invoke/VarHandle" ∧ (parseMethodDescriptor y'.desc).map (fun d => d.parameters.length) = some n) ∧ maxL ≤ 40
theorem j_callSW {idx n maxL : Nat} {y' : MethodName} {bytes : ByteArray} {ret' : Option FieldType} {hh' : List (Nat × Nat × Nat × Nat)} (As : List Value) {rest : List Value} {P : Option Value → MS → Prop} (hC : CWk own idx y' bytes maxL ret' hh' n) (hw : Cond.static y' ∈ TB) (hn : As.length = n) (hst : st = As.reverse ++ rest) (hcat : (rest.map fun v => v.category).sum ≤ 8)
    (hd : decode cc pc = .ok (.invokestatic idx, 3)) (h : Mw (.codeWith y' bytes maxL ret' hh') y' d As S (fun o S1 => (∃ v, o = .inl v ∧ P v S1) ∨ ∃ E, o = .inr E ∧ False))
    (k : ∀ v S1, P v S1 → Jw Fz own cc nL ret hh y (d + 1) S0 S1 (pc + 3) lv (v.toList ++ rest) Q) : Jw Fz own cc nL ret hh y (d + 1) S0 S pc lv st Q := by
  refine j_call (X := fun _ _ => False) (fun C hR hs hl ho hM q1 q2 => ?_) h k (fun _ _ h => h.elim)
  have hK := C.2.2.2.2.2.2.2.2.1
  have hts := C.2.2.2.2.1
  have hf := C.2.2.2.2.2.2.2.2.2.2.2.2.2.1
  have hlo := C.2.2.2.2.2.2.2.2.2.2.2.2.2.2
  obtain ⟨h1, h2, h3, h4, h5⟩ := hC
  refine vx_runSX (hh := hh') (bytes := bytes) (maxL := maxL) (ret := ret') (cc := cc) (nL := nL) (Ts := TB) (As := As) ⟨C.1, C.2.1, C.2.2.1, C.2.2.2.1, hts⟩ hM (vx_cwSW n hts (gTB' (fun w hw9 => ?_)) rfl rfl rfl h4 ⟨hf, by show 8 + (maxL + 11) + 64 * d ≤ _; omega⟩) ⟨pq_blind, fun U hU hW => pq_at C.2.2.2.2.2.2.2.2.2.2.1 hK C.2.2.2.2.2.2.2.2.2.2.2.1 hR hs hU hW⟩ rfl hn hl.1 hst (by show 2 * 0 + _ ≤ 8; omega) hd ⟨q1, q2⟩
  rcases List.mem_append.mp hw9 with q | q
  · simp only [List.mem_cons, List.not_mem_nil, or_false] at q
    rcases q with q | q | q <;> subst q
    · exact h2
    · exact hw
    · exact h3
  · exact (List.mem_cons.mp q).elim (fun e => e ▸ h1) id
/-- caught, and answered by a number -/
theorem jx_catchR {E : String} {rest : List Value} {n : Int} {i : Nat} (pre : List ExceptionTableEntry) (x : ExceptionTableEntry) (suf : List ExceptionTableEntry) (hsp : tableOf hh = pre ++ x :: suf) (hpass : ∀ z ∈ pre, z.catchType ≠ 0 ∧ ∃ nm : String, Cond.classLink own z.catchType nm ∈ TB ∧ (E, nm) ∈ ncW) (hx : covers x pc = true) (h0 : x.catchType ≠ 0) (hlk : Cond.classLink own x.catchType E ∈ TB) (hcs : (E, E) ∈ castW) (hr : ret = some .int) (hi : i < nL)
    (da : (∃ k : Fin 4, (k : Nat) = i ∧ decode cc x.handlerPc = .ok (.astore_n k, 1) ∧ decode cc (x.handlerPc + 1) = .ok (.iconst n, 1) ∧ decode cc (x.handlerPc + 1 + 1) = .ok (.ireturn, 1)) ∨ (decode cc x.handlerPc = .ok (.astore i, 2) ∧ decode cc (x.handlerPc + 2) = .ok (.iconst n, 1) ∧ decode cc (x.handlerPc + 2 + 1) = .ok (.ireturn, 1))) (h : Q (.inl (some (vI n))) S) : JX FinM own cc nL ret hh y d S0 S pc lv rest E Q := by
  refine ⟨_, S, h, leM.rf, fun C c1 c2 c3 hR hs hl hce hcv hcl => ?_⟩
  have hts := C.2.2.2.2.1
  refine vx_catch C.2.2.2.1 pre x suf (C.ret.2.2.trans hsp) (fun z hz => Or.inr ?_) hx h0 (hts _ hlk) (va_Nw.use rfl (C.wf.2.1 _ hcs)) hce hcv hcl ?_
  · obtain ⟨g1, nm, g2, g3⟩ := hpass z hz
    exact ⟨g1, nm, hts _ g2, C.wf.2.2.1 _ g3⟩
  · rcases da with ⟨k, rfl, da, di, dr⟩ | ⟨da, di, dr⟩
    · refine lv_astore_n C.1 C.2.1 da rfl hl hi rfl (fun ls2 hl2 => ?_)
      refine lv_iconst C.1 C.2.1 di rfl ?_
      exact vx_ret (W.iret C.1 C.2.1 (C.ret.1.trans hr) (fun t ht hW => ⟨⟨_, rfl, rfl, by rw [ht]; exact hR.moved hW.alike⟩, hs.F ht⟩) hs.2.2 dr C.ret.2.1)
    · refine lv_astore C.1 C.2.1 da hl hi rfl (fun ls2 hl2 => ?_)
      refine lv_iconst C.1 C.2.1 di rfl ?_
      exact vx_ret (W.iret C.1 C.2.1 (C.ret.1.trans hr) (fun t ht hW => ⟨⟨_, rfl, rfl, by rw [ht]; exact hR.moved hW.alike⟩, hs.F ht⟩) hs.2.2 dr C.ret.2.1)
theorem j_mmax {idx : Nat} {x z : Int} {P : Prop} (hw : Cond.methodLink own idx Lib.Math.max.name ∈ TB) (hw2 : Cond.static Lib.Math.max.name ∈ TB) (hw3 : Cond.initialized "java/lang/Math" ∈ TB) (hw4 : Cond.code Lib.Math.max.name Lib.Math.max.code 2 (some .int) ∈ TB) (hcat : (st.map fun v => v.category).sum ≤ 8) (hd : decode cc pc = .ok (.invokestatic idx, 3)) (h : (R32 x ∧ R32 z) ∧ P) (k : P → Jw Fz own cc nL ret hh y (d + 1) S0 S (pc + 3) lv (vI (max x z) :: st) Q) : Jw Fz own cc nL ret hh y (d + 1) S0 S pc lv (vI z :: vI x :: st) Q := by
  obtain ⟨o, S', h1, h2, h3⟩ := k h.2
  refine ⟨o, S', h1, h2, fun C c1 c2 c3 hr hs hl => ?_⟩
  have hts := C.2.2.2.2.1
  have hf := C.2.2.2.2.2.2.2.2.2.2.2.2.2.1
  have hlo := C.2.2.2.2.2.2.2.2.2.2.2.2.2.2
  have g1 := h2.1; have g2 := h2.2.1
  have e : (if Int32.ofInt x < Int32.ofInt z then Int32.ofInt z else Int32.ofInt x) = Int32.ofInt (max x z) := by
    by_cases q : x < z
    · rw [if_pos ((r32_lt h.1.1 h.1.2).mpr q)]
      refine congrArg Int32.ofInt ?_
      omega
    · rw [if_neg (fun w => q ((r32_lt h.1.1 h.1.2).mp w))]
      refine congrArg Int32.ofInt ?_
      omega
  refine va_mmax C.1 C.2.1 (by rw [C.2.2.1]; exact hl.1.symm) C.2.2.2.1 (hts _ hw) (hts _ hw2) (hts _ hw3) (hts _ hw4) (by omega) (by omega) (by omega) (by omega) hd ?_
  rw [e]
  exact h3 C c1 c2 c3 hr hs hl
theorem j_mmin {idx : Nat} {x z : Int} {P : Prop} (hw : Cond.methodLink own idx Lib.Math.min.name ∈ TB) (hw2 : Cond.static Lib.Math.min.name ∈ TB) (hw3 : Cond.initialized "java/lang/Math" ∈ TB) (hw4 : Cond.code Lib.Math.min.name Lib.Math.min.code 2 (some .int) ∈ TB) (hcat : (st.map fun v => v.category).sum ≤ 8) (hd : decode cc pc = .ok (.invokestatic idx, 3)) (h : (R32 x ∧ R32 z) ∧ P) (k : P → Jw Fz own cc nL ret hh y (d + 1) S0 S (pc + 3) lv (vI (min x z) :: st) Q) : Jw Fz own cc nL ret hh y (d + 1) S0 S pc lv (vI z :: vI x :: st) Q := by
  obtain ⟨o, S', h1, h2, h3⟩ := k h.2
  refine ⟨o, S', h1, h2, fun C c1 c2 c3 hr hs hl => ?_⟩
  have hts := C.2.2.2.2.1
  have hf := C.2.2.2.2.2.2.2.2.2.2.2.2.2.1
  have hlo := C.2.2.2.2.2.2.2.2.2.2.2.2.2.2
  have g1 := h2.1; have g2 := h2.2.1
  have e : (if Int32.ofInt z < Int32.ofInt x then Int32.ofInt z else Int32.ofInt x) = Int32.ofInt (min x z) := by
    by_cases q : z < x
    · rw [if_pos ((r32_lt h.1.2 h.1.1).mpr q)]
      refine congrArg Int32.ofInt ?_
      omega
    · rw [if_neg (fun w => q ((r32_lt h.1.2 h.1.1).mp w))]
      refine congrArg Int32.ofInt ?_
      omega
  refine va_mmin C.1 C.2.1 (by rw [C.2.2.1]; exact hl.1.symm) C.2.2.2.1 (hts _ hw) (hts _ hw2) (hts _ hw3) (hts _ hw4) (by omega) (by omega) (by omega) (by omega) hd ?_
  rw [e]
  exact h3 C c1 c2 c3 hr hs hl
/-- the script -/
def scr (S : MS) (i : Int) : Int := (Int32.ofNat (S.T (18 + i.toNat))).toInt
theorem j_slen {a : Nat} {P : Prop} (hd : decode cc pc = .ok (.arraylength, 1)) (h : (a = S.T 16 ∧ S.T 17 < 2147483648) ∧ P) (k : P → Jw Fz own cc nL ret hh y d S0 S (pc + 1) lv (vI (S.T 17) :: st) Q) : Jw Fz own cc nL ret hh y d S0 S pc lv (vA a :: st) Q := by
  obtain ⟨o, S', h1, h2, h3⟩ := k h.2
  refine ⟨o, S', h1, h2, fun C c1 c2 c3 hr hs hl => ?_⟩
  have hX := C.wf.2.2.2.2.2.2.2.2.2.2.2.2
  rw [h.1.1]
  refine va_slen C.1 C.2.1 hX.1 hX.2.2 (by have := hX.2.1; omega) hs hd ?_
  rw [← Int32.ofInt_eq_ofNat]
  exact h3 C c1 c2 c3 hr hs hl
theorem j_sld {a : Nat} {i : Int} {P : Prop} (hd : decode cc pc = .ok (.iaload, 1)) (h : ((a = S.T 16 ∧ S.T 17 < 2147483648) ∧ 0 ≤ i ∧ i < S.T 17) ∧ P) (k : P → Jw Fz own cc nL ret hh y d S0 S (pc + 1) lv (vI (scr S i) :: st) Q) : Jw Fz own cc nL ret hh y d S0 S pc lv (vI i :: vA a :: st) Q := by
  obtain ⟨o, S', h1, h2, h3⟩ := k h.2
  refine ⟨o, S', h1, h2, fun C c1 c2 c3 hr hs hl => ?_⟩
  have hX := C.wf.2.2.2.2.2.2.2.2.2.2.2.2
  obtain ⟨⟨⟨ha, hL⟩, h5, h6⟩, -⟩ := h
  rw [ha]
  obtain ⟨g1, g2, g3⟩ := r32_in hL h5 h6
  refine va_sld C.1 C.2.1 hX.1 hX.2.2 (by have := hX.2.1; omega) hs g2 hd ?_
  rw [g3]
  have e : Int32.ofInt (scr S i) = Int32.ofNat (S.T (18 + i.toNat)) := Int32.ofInt_toInt _
  rw [← e]
  exact h3 C c1 c2 c3 hr hs hl
end JS
/-- a body with a table gives its method -/
theorem Mw.ofJH {y : MethodName} {cc : ByteArray} {nL : Nat} {ret : Option FieldType} {hh : List (Nat × Nat × Nat × Nat)} {d : Nat} {av : List Value} {S : MS} {Q : Out → MS → Prop} (hy : plainName y.cls = true) (hn : (lg_sl av).length ≤ nL) (h : Jw FinM y.cls cc nL ret hh y d S S 0 (lv_args 0 av) [] Q) : Mw (.codeWith y cc nL ret hh) y d av S Q := by
  obtain ⟨o, S', h1, h2, h3⟩ := h
  refine ⟨o, S', h1, h2, fun l hl D b0 => ?_⟩
  refine vx_ofWH (cc := cc) (maxL := nL) (ret := ret) (hh := hh) hy rfl ?_
  intro p e s m args below meth c s₁ B hml hv
  obtain ⟨rfl, hb0, hR, hK, hWf⟩ := hv
  have hts := atoms_spec (ws := .codeWith y cc nL ret hh :: TB) B.pre
  have hl0 := lv_entry av (n := nL) hn
  have key := h3 (p := p) (l := l) (e := e) (R := (headSpec (.codeWith y cc nL ret hh :: TB) (rmOf d S S')).room) (s := s) (m := m) (args := av.toArray) (below := below) (meth := meth) (c := c) (D := D) (b0 := b0) (H := s.heap) (locs := []) (ls := _)
    ⟨B.exec, B.bytes, hml, findClass_of_methodNamed B.named, fun w hw => hts w (List.mem_cons_of_mem _ hw), B.returns, B.notSynchronized, vx_table (x := y) B (hts _ List.mem_cons_self), hK, hl, hb0, hWf, (name_of_methodNamed B.named B.method).1, Nat.le_refl _, Nat.le_refl _⟩
    leM.rf (Nat.le_refl _) (Nat.le_refl _) hR va_S.rf hl0
  rw [lg_entry_eq]
  rw [Nat.sub_self, Nat.sub_self] at key
  exact key
