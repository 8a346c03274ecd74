theorem Cx.ret {own : String} {cc : ByteArray} {nL : Nat} {ret : Option FieldType} {hh : List (Nat × Nat × Nat × Nat)} {y : MethodName} {d : Nat} {T : Nat → Nat} {b0 : Nat} {D : va_G} {p : Program} {l : Launch} {R : Room} {s : State} {m : MethodId} {args : Array Value} {meth : Method} {c : Code} (C : Cx own cc nL ret hh y d T b0 D p l R s m args meth c) : meth.sig.returnType = ret ∧ meth.locks = false ∧ c.exceptionTable.toList = tableOf hh := ⟨C.2.2.2.2.2.1, C.2.2.2.2.2.2.1, C.2.2.2.2.2.2.2.1⟩
section JR
variable {own : String} {cc : ByteArray} {nL : Nat} {ret : Option FieldType} {hh : List (Nat × Nat × Nat × Nat)} {y : MethodName} {d : Nat} {S0 S : MS} {pc : Nat} {lv : List (Nat × Value)} {st : List Value} {Q : Out → MS → Prop}
theorem j_iret {x : Int} (hr : ret = some .int) (hd : decode cc pc = .ok (.ireturn, 1)) (h : Q (.inl (some (vI x))) S) : Jw FinM own cc nL ret hh y d S0 S pc lv [vI x] Q := by
  refine ⟨_, S, h, leM.rf, fun C c1 c2 c3 hR hs hl => ?_⟩
  exact vx_ret (W.iret C.1 C.2.1 (C.ret.1.trans hr) (fun t ht hW => ⟨⟨_, rfl, rfl, by rw [ht]; exact hR.moved hW.alike⟩, hs.F ht⟩) hs.2.2 hd C.ret.2.1)
theorem j_zret {x : Int} (hr : ret = some .boolean) (hd : decode cc pc = .ok (.ireturn, 1)) (h : B01 x ∧ Q (.inl (some (vI x))) S) : Jw FinM own cc nL ret hh y d S0 S pc lv [vI x] Q := by
  refine ⟨_, S, h.2, leM.rf, fun C c1 c2 c3 hR hs hl => ?_⟩
  exact vx_ret (W.zret C.1 C.2.1 (C.ret.1.trans hr) (by rcases h.1 with q | q <;> subst q <;> rfl) (fun t ht hW => ⟨⟨_, rfl, rfl, by rw [ht]; exact hR.moved hW.alike⟩, hs.F ht⟩) hs.2.2 hd C.ret.2.1)
theorem j_lret {x : BitVec 64} (hr : ret = some .long) (hd : decode cc pc = .ok (.lreturn, 1)) (h : Q (.inl (some (vL x))) S) : Jw FinM own cc nL ret hh y d S0 S pc lv [vL x] Q := by
  refine ⟨_, S, h, leM.rf, fun C c1 c2 c3 hR hs hl => ?_⟩
  exact vx_ret (W.lret C.1 C.2.1 (C.ret.1.trans hr) (fun t ht hW => ⟨⟨_, rfl, rfl, by rw [ht]; exact hR.moved hW.alike⟩, hs.F ht⟩) hs.2.2 hd C.ret.2.1)
theorem j_aret {x : Nat} {rt : FieldType} (hr : ret = some rt) (hrt : (∃ n, rt = .object n) ∨ ∃ t, rt = .array t) (hd : decode cc pc = .ok (.areturn, 1)) (h : Q (.inl (some (vA x))) S) : Jw FinM own cc nL ret hh y d S0 S pc lv [vA x] Q := by
  refine ⟨_, S, h, leM.rf, fun C c1 c2 c3 hR hs hl => ?_⟩
  exact vx_ret (W.aret C.1 C.2.1 (C.ret.1.trans hr) hrt (Or.inr ⟨x, rfl⟩) (fun t ht hW => ⟨⟨_, rfl, rfl, by rw [ht]; exact hR.moved hW.alike⟩, hs.F ht⟩) hs.2.2 hd C.ret.2.1)
theorem j_vret (hr : ret = none) (hd : decode cc pc = .ok (.return_, 1)) (h : Q (.inl none) S) : Jw FinM own cc nL ret hh y d S0 S pc lv [] Q := by
  refine ⟨_, S, h, leM.rf, fun C c1 c2 c3 hR hs hl => ?_⟩
  exact vx_ret (W.vret C.1 C.2.1 (C.ret.1.trans hr) (fun t ht hW => ⟨⟨_, rfl, rfl, by rw [ht]; exact hR.moved hW.alike⟩, hs.F ht⟩) hs.2.2 hd C.ret.2.1)
end JR
/-- a body gives its method -/
theorem Mw.ofJ {y : MethodName} {cc : ByteArray} {nL : Nat} {ret : Option FieldType} {d : Nat} {av : List Value} {S : MS} {Q : Out → MS → Prop} (hy : plainName y.cls = true) (hn : (lg_sl av).length ≤ nL) (h : Jw FinM y.cls cc nL ret [] y d S S 0 (lv_args 0 av) [] Q) : Mw (.code y cc nL ret) y d av S Q := by
  obtain ⟨o, S', h1, h2, h3⟩ := h
  refine ⟨o, S', h1, h2, fun l hl D b0 => ?_⟩
  refine vx_ofW (cc := cc) (maxL := nL) (ret := ret) hy rfl ?_
  intro p e s m args below meth c s₁ B hml htab hv
  obtain ⟨rfl, hb0, hR, hK, hWf⟩ := hv
  have hts := atoms_spec (ws := .code y cc nL ret :: TB) B.pre
  have hl0 := lv_entry av (n := nL) hn
  have key := h3 (p := p) (l := l) (e := e) (R := (headSpec (.code y cc nL ret :: TB) (rmOf d S S')).room) (s := s) (m := m) (args := av.toArray) (below := below) (meth := meth) (c := c) (D := D) (b0 := b0) (H := s.heap) (locs := []) (ls := _)
    ⟨B.exec, B.bytes, hml, findClass_of_methodNamed B.named, fun w hw => hts w (List.mem_cons_of_mem _ hw), B.returns, B.notSynchronized, List.eq_nil_iff_forall_not_mem.mpr (fun x hx => htab x hx), hK, hl, hb0, hWf, (name_of_methodNamed B.named B.method).1, Nat.le_refl _, Nat.le_refl _⟩
    leM.rf (Nat.le_refl _) (Nat.le_refl _) hR va_S.rf hl0
  rw [lg_entry_eq]
  rw [Nat.sub_self, Nat.sub_self] at key
  exact key
section WC
variable {p : Program} {l : Launch} {e : Env} {R : Room} {s : State} {m : MethodId} {args : Array Value} {below : List Frame} {meth : Method} {c : Code} {H : Heap} {locs : List Loc} {cells slots : Nat} {Qs : State → Prop} {pc : Nat} {ls : Array Slot} {st0 rest : List Value} {D : va_G} {b0 mc ms : Nat} {o : Out} {S1 : MS} {a : Array Value}
theorem w_call (hr : vx_Run p l e R s m args below meth c H locs cells slots mc ms (F0 m pc ls st0) rest (Qq o S1 D b0 a) (Xq o S1 D b0) (fun q => b0 ≤ q)) (hS : va_S (fun q => b0 ≤ q) s.heap H locs)
    (kx : ∀ (E : String) (ce : Cell) (q9 : Addr) (H1 : Heap) (locs1 : List Loc), o = .inr E → Rep D b0 S1 s H1 → va_S (fun q => b0 ≤ q) s.heap H1 locs1 → H1[q9]? = some ce → ce.vm = .none → s.vm.findClass E = some ce.cls → vx_W p l e R s m args below meth c H1 locs1 (cells + mc) (slots + ms) Qs (F0 m pc ls rest) q9)
    (kk : ∀ (v : Option Value) (H1 : Heap) (locs1 : List Loc), o = .inl v → Rep D b0 S1 s H1 → va_S (fun q => b0 ≤ q) s.heap H1 locs1 → W p l e R s m args below meth c H1 locs1 (cells + mc) (slots + ms) Qs (F0 m (pc + 3) ls (v.toList ++ rest))) : W p l e R s m args below meth c H locs cells slots Qs (F0 m pc ls st0) := by
  intro T hT X
  rcases hr T hT X with ⟨v, st₀, t, T', L, h0, X', hL, e1, e2, ⟨⟨v', ho, hv, hR⟩, hF⟩, stp⟩ | ⟨q, st₀, t, T', L, E, ce, h0, X', hL, e1, e2, ⟨ho, hR, hF⟩, hce, hcv, hcl, stp⟩
  · cases hv
    obtain ⟨k1, k2, k3⟩ := vx_keep h0 e1 hS (fun q _ h => h) (fun q h => h) hL hF
    have hal : t.vm.Alike s.vm := (by rw [← e2]; exact X'.warmed.alike.symm)
    obtain ⟨t2, a1, b1⟩ := kk v T'.heap (locs ++ L) ho (by rw [e1]; exact hR.moved hal) k3 T' rfl X'
    exact ⟨t2, stp t2 a1, b1⟩
  · obtain ⟨k1, k2, k3⟩ := vx_keep h0 e1 hS (fun q _ h => h) (fun q h => h) hL hF
    have hal : t.vm.Alike s.vm := (by rw [← e2]; exact X'.warmed.alike.symm)
    obtain ⟨t2, a1, b1⟩ := kx E ce q T'.heap (locs ++ L) ho (by rw [e1]; exact hR.moved hal) k3 (by rw [e1]; exact hce) hcv hcl T' rfl X'
    exact ⟨t2, stp.trans a1, b1⟩
theorem run_of {g : JFrame} {free : Addr → Prop} {Qa : State → Outcome → State → Prop} {XC : String → State → State → Prop} (h : va_Run p l e R s m args below meth c H locs cells slots mc ms g rest Qa free) : vx_Run p l e R s m args below meth c H locs cells slots mc ms g rest Qa XC free := fun T hT X => Or.inl (h T hT X)
end WC
theorem met_of {l : Launch} {y : MethodName} {ws : List Cond} {rm : Room} {P : Array Value → State → Prop} {v : Option Value} {S1 : MS} {D : va_G} {b0 mc ms : Nat} {free : Addr → Prop} (h : vx_Met l y ws rm P (Qq (.inl v) S1 D b0) (Xq (.inl v) S1 D b0) mc ms free) : Met l y ws rm P (Qq (.inl v) S1 D b0) mc ms free := by
  refine MetFree.mono h (fun _ _ h => h) (fun _ _ _ _ _ h => h) (fun a s o s' _ hq => ?_)
  rcases hq with hq | ⟨q, -, E, ce, L, ⟨hx, -⟩, -⟩
  · exact hq
  · cases hx
theorem pq_blind {av : List Value} {S : MS} {D : va_G} {b0 : Nat} : FrameBlind (Pq av S D b0) := by
  intro a U g mk h
  obtain ⟨h0, h1, h2, h3, h4⟩ := h
  exact ⟨h0, h1, h2.moved (U := U.calling g mk a) (Vm.Alike.refl U.vm), va_K.moved (u := U) (U := U.calling g mk a) (Vm.Alike.refl U.vm) h3, Wf.next h4 (State.WarmedH.refl U) (Nat.le_refl _) (fun q _ _ => rfl)⟩
theorem pq_at {av : List Value} {S : MS} {D : va_G} {b0 : Nat} {s U : State} {H : Heap} {locs : List Loc} (hb : b0 ≤ s.heap.size) (hK : va_K D vwCl [] s) (hWf : Wf b0 S.T s) (hR : Rep D b0 S s H) (hS : va_S (fun q => b0 ≤ q) s.heap H locs) (hU : U.heap = H) (hW : s.WarmedH U.vm) : Pq av S D b0 av.toArray U :=
  ⟨rfl, by rw [hU]; exact Nat.le_trans hb hS.1, by rw [hU]; exact hR.moved hW.alike, va_K.moved hW.alike hK, hWf.next hW (by rw [hU]; exact hS.1) (fun q h1 h2 => by rw [hU]; exact hS.2.1 q h1 h2)⟩
/-- with an exception of the class E thrown over the frame at pc -/
def JX (Fz : FinT) (own : String) (cc : ByteArray) (nL : Nat) (ret : Option FieldType) (hh : List (Nat × Nat × Nat × Nat)) (y : MethodName) (d : Nat) (S0 S : MS) (pc : Nat) (lv : List (Nat × Value)) (rest : List Value) (E : String) (Q : Out → MS → Prop) : Prop :=
  ∃ (o : Out) (S' : MS), Q o S' ∧ leM S S' ∧ ∀ {p : Program} {l : Launch} {e : Env} {R : Room} {s : State} {m : MethodId} {args : Array Value} {below : List Frame} {meth : Method} {c : Code} {D : va_G} {b0 : Nat} {H : Heap} {locs : List Loc} {ls : Array Slot} {ce : Cell} {q : Addr},
    Cx own cc nL ret hh y d S.T b0 D p l R s m args meth c → leM S0 S → S'.nx - S0.nx ≤ R.cells → S'.us - S0.us ≤ R.slots → Rep D b0 S s H → va_S (fun q => b0 ≤ q) s.heap H locs → lv_has ls nL lv → H[q]? = some ce → ce.vm = .none → s.vm.findClass E = some ce.cls →
    vx_W p l e R s m args below meth c H locs (S.nx - S0.nx) (S.us - S0.us) (Fz o S' D b0 below args s (S'.nx - S0.nx) (S'.us - S0.us)) (F0 m pc ls rest) q
section JC
variable {Fz : FinT} {own : String} {cc : ByteArray} {nL : Nat} {ret : Option FieldType} {hh : List (Nat × Nat × Nat × Nat)} {y : MethodName} {d : Nat} {S0 S : MS} {pc : Nat} {lv : List (Nat × Value)} {st : List Value} {Q : Out → MS → Prop}
theorem jx_out {E : String} {rest : List Value} (h : Q (.inr E) S) : JX FinM own cc nL ret [] y d S0 S pc lv rest E Q := by
  refine ⟨_, S, h, leM.rf, fun C c1 c2 c3 hR hs hl hce hcv hcl => ?_⟩
  exact vx_out (fun x hx => by rw [C.ret.2.2] at hx; cases hx) C.ret.2.1 hce hcv hcl (fun t ht hW => ⟨rfl, by rw [ht]; exact hR.moved hW, hs.F ht⟩) hs.2.2 (Nat.le_refl _) (Nat.le_refl _)
/-- a call; nx: it surely returns -/
theorem j_call {hd' : Cond} {y' : MethodName} {av rest : List Value} {P : Option Value → MS → Prop} {X : String → MS → Prop}
    (hrun : ∀ {p : Program} {l : Launch} {e : Env} {R : Room} {s : State} {m : MethodId} {args : Array Value} {below : List Frame} {meth : Method} {c : Code} {D : va_G} {b0 : Nat} {H : Heap} {locs : List Loc} {ls : Array Slot} {cells slots : Nat} {o : Out} {S1 : MS},
      Cx own cc nL ret hh y (d + 1) S.T b0 D p l R s m args meth c → Rep D b0 S s H → va_S (fun q => b0 ≤ q) s.heap H locs → lv_has ls nL lv → ((∃ v, o = .inl v ∧ P v S1) ∨ ∃ E, o = .inr E ∧ X E S1) →
      vx_Met l y' (hd' :: TB) (rmOf d S S1) (Pq av S D b0) (Qq o S1 D b0) (Xq o S1 D b0) (S1.nx - S.nx) (S1.us - S.us) (fun q => b0 ≤ q) → cells + (S1.nx - S.nx) ≤ R.cells → slots + (S1.us - S.us) ≤ R.slots →
      vx_Run p l e R s m args below meth c H locs cells slots (S1.nx - S.nx) (S1.us - S.us) (F0 m pc ls st) rest (Qq o S1 D b0 av.toArray) (Xq o S1 D b0) (fun q => b0 ≤ q))
    (h : Mw hd' y' d av S (fun o S1 => (∃ v, o = .inl v ∧ P v S1) ∨ ∃ E, o = .inr E ∧ X E S1))
    (k : ∀ v S1, P v S1 → Jw Fz own cc nL ret hh y (d + 1) S0 S1 (pc + 3) lv (v.toList ++ rest) Q) (kx : ∀ E S1, X E S1 → JX Fz own cc nL ret hh y (d + 1) S0 S1 pc lv rest E Q) : Jw Fz own cc nL ret hh y (d + 1) S0 S pc lv st Q := by
  obtain ⟨o, S1, h1, h2, h3⟩ := h
  have h1' := h1
  rcases h1 with ⟨v, ho, hP⟩ | ⟨E, ho, hX⟩
  · obtain ⟨o2, S2, g1, g2, g3⟩ := k v S1 hP
    refine ⟨o2, S2, g1, leM.tr h2 g2, fun C c1 c2 c3 hR hs hl => ?_⟩
    have hc1 := c1.1; have hc2 := c1.2.1; have hd1 := h2.1; have hd2 := h2.2.1; have he1 := g2.1; have he2 := g2.2.1
    refine w_call (hrun C hR hs hl h1' (h3 _ C.2.2.2.2.2.2.2.2.2.1 _ _) (by omega) (by omega)) hs (fun E ce q9 H1 locs1 ho2 _ _ _ _ _ => by rw [ho] at ho2; cases ho2) (fun v2 H1 locs1 ho2 hR1 hs1 => ?_)
    rw [ho] at ho2
    cases ho2
    have w := fun {e} {below} => g3 (e := e) (below := below) (by rw [h2.2.2]; exact C) (leM.tr c1 h2) c2 c3 hR1 hs1 hl
    rw [show S.nx - S0.nx + (S1.nx - S.nx) = S1.nx - S0.nx by omega, show S.us - S0.us + (S1.us - S.us) = S1.us - S0.us by omega]
    exact w
  · obtain ⟨o2, S2, g1, g2, g3⟩ := kx E S1 hX
    refine ⟨o2, S2, g1, leM.tr h2 g2, fun C c1 c2 c3 hR hs hl => ?_⟩
    have hc1 := c1.1; have hc2 := c1.2.1; have hd1 := h2.1; have hd2 := h2.2.1; have he1 := g2.1; have he2 := g2.2.1
    refine w_call (hrun C hR hs hl h1' (h3 _ C.2.2.2.2.2.2.2.2.2.1 _ _) (by omega) (by omega)) hs (fun E2 ce q9 H1 locs1 ho2 hR1 hs1 hce hcv hcl => ?_) (fun v2 H1 locs1 ho2 hR1 hs1 => by rw [ho] at ho2; cases ho2)
    rw [ho] at ho2
    cases ho2
    have w := fun {e} {below} => g3 (e := e) (below := below) (by rw [h2.2.2]; exact C) (leM.tr c1 h2) c2 c3 hR1 hs1 hl hce hcv hcl
    rw [show S.nx - S0.nx + (S1.nx - S.nx) = S1.nx - S0.nx by omega, show S.us - S0.us + (S1.us - S.us) = S1.us - S0.us by omega]
    exact w
/-- the words of a call of y' by its entry idx -/
def CVk (own : String) (idx : Nat) (y' : MethodName) (bytes : ByteArray) (maxL : Nat) (ret' : Option FieldType) (n : Nat) : Prop :=
  Cond.code y' bytes maxL ret' ∈ TB ∧ Cond.methodLink own idx y' ∈ TB ∧ Cond.initialized y'.cls ∈ TB ∧ (y'.cls ≠ "java/lang/invoke/MethodHandle" ∧ y'.cls ≠ "java/lang/invoke/VarHandle" ∧ (parseMethodDescriptor y'.desc).map (fun d => d.parameters.length) = some n) ∧ maxL ≤ 40
/-- .. across the nest -/
def CNk (own : String) (idx : Nat) (y' : MethodName) (bytes : ByteArray) (maxL : Nat) (ret' : Option FieldType) (n : Nat) : Prop :=
  Cond.code y' bytes maxL ret' ∈ TB ∧ (∃ q ∈ nestW, q.1 = own ∧ q.2.1 = idx ∧ q.2.2.1 = y') ∧ Cond.initialized y'.cls ∈ TB ∧ (y'.cls ≠ "java/lang/invoke/MethodHandle" ∧ y'.cls ≠ "java/lang/invoke/VarHandle" ∧ (parseMethodDescriptor y'.desc).map (fun d => d.parameters.length) = some n) ∧ maxL ≤ 40
theorem cvB {idx n maxL : Nat} {y' : MethodName} {bytes : ByteArray} {ret' : Option FieldType} (hC : CVk own idx y' bytes maxL ret' n) {T : Nat → Nat} {b0 : Nat} {D : va_G} {p : Program} {l : Launch} {R : Room} {s : State} {m : MethodId} {args : Array Value} {meth : Method} {c : Code} {S1 : MS} (C : Cx own cc nL ret hh y (d + 1) T b0 D p l R s m args meth c) : CallB R s args own idx y' bytes maxL ret' (.code y' bytes maxL ret' :: TB) (rmOf d S S1) (S1.nx - S.nx) (S1.us - S.us) n := by
  obtain ⟨h1, h2, h3, h4, h5⟩ := hC
  obtain ⟨-, -, -, -, hts, -, -, -, -, -, -, -, -, hf, hl⟩ := C
  exact callB_of n hts (gTB' (fun w hw => (List.mem_cons.mp hw).elim (fun e => e ▸ h1) id)) rfl rfl rfl (hts _ h3) (hts _ h2) h4 ⟨hf, by show 8 + (maxL + 11) + 64 * d ≤ R.locals; omega⟩
theorem j_callV {idx n maxL b : Nat} {y' : MethodName} {bytes : ByteArray} {ret' : Option FieldType} (ci : Nat) (As : List Value) {rest : List Value} {P : Option Value → MS → Prop} {X : String → MS → Prop} (hC : CVk own idx y' bytes maxL ret' n) (hw : Cond.instanceMethod y' ∈ TB ∧ Cond.selects y'.cls y' y' ∈ TB) (hci : ∃ T N, vwCl[ci]? = some (y'.cls, T, N)) (h12 : ci < 12) (hn : As.length = n) (hst : st = As.reverse ++ vA b :: rest) (hcat : (rest.map fun v => v.category).sum ≤ 8)
    (hd : decode cc pc = .ok (.invokevirtual idx, 3)) (h : S.K b = ci ∧ Mw (.code y' bytes maxL ret') y' d (vA b :: As) S (fun o S1 => (∃ v, o = .inl v ∧ P v S1) ∨ ∃ E, o = .inr E ∧ X E S1))
    (k : ∀ v S1, P v S1 → Jw Fz own cc nL ret hh y (d + 1) S0 S1 (pc + 3) lv (v.toList ++ rest) Q) (kx : ∀ E S1, X E S1 → JX Fz own cc nL ret hh y (d + 1) S0 S1 pc lv rest E Q) : Jw Fz own cc nL ret hh y (d + 1) S0 S pc lv st Q := by
  refine j_call (fun C hR hs hl _ hM q1 q2 => ?_) h.2 k kx
  obtain ⟨T, N, hci⟩ := hci
  have hK := C.2.2.2.2.2.2.2.2.1
  have hts := C.2.2.2.2.1
  refine vx_runV (cc := cc) (nL := nL) (Ts := TB) (C := y'.cls) (b := b) (As := As) ⟨C.1, C.2.1, C.2.2.1, C.2.2.2.1, hts⟩ hM ⟨cvB hC C, hts _ hw.1, hts _ hw.2⟩ ⟨pq_blind, va_recv (q0 := 0) hK (hR.one h.1 h12) hci rfl, fun U hU hW => pq_at C.2.2.2.2.2.2.2.2.2.2.1 hK C.2.2.2.2.2.2.2.2.2.2.2.1 hR hs hU hW⟩ rfl hn hl.1 hst (by show 2 * 0 + _ ≤ 8; omega) hd ⟨q1, q2⟩
theorem j_callS {idx n maxL : Nat} {y' : MethodName} {bytes : ByteArray} {ret' : Option FieldType} (As : List Value) {rest : List Value} {P : Option Value → MS → Prop} {X : String → MS → Prop} (hC : CVk own idx y' bytes maxL ret' n) (hw : Cond.static y' ∈ TB) (hn : As.length = n) (hst : st = As.reverse ++ rest) (hcat : (rest.map fun v => v.category).sum ≤ 8)
    (hd : decode cc pc = .ok (.invokestatic idx, 3)) (h : Mw (.code y' bytes maxL ret') y' d As S (fun o S1 => (∃ v, o = .inl v ∧ P v S1) ∨ ∃ E, o = .inr E ∧ X E S1))
    (k : ∀ v S1, P v S1 → Jw Fz own cc nL ret hh y (d + 1) S0 S1 (pc + 3) lv (v.toList ++ rest) Q) (kx : ∀ E S1, X E S1 → JX Fz own cc nL ret hh y (d + 1) S0 S1 pc lv rest E Q) : Jw Fz own cc nL ret hh y (d + 1) S0 S pc lv st Q := by
  refine j_call (fun C hR hs hl _ hM q1 q2 => ?_) h k kx
  have hK := C.2.2.2.2.2.2.2.2.1
  have hts := C.2.2.2.2.1
  refine vx_runS (cc := cc) (nL := nL) (Ts := TB) (As := As) ⟨C.1, C.2.1, C.2.2.1, C.2.2.2.1, hts⟩ hM ⟨cvB hC C, hts _ hw⟩ ⟨pq_blind, fun U hU hW => pq_at C.2.2.2.2.2.2.2.2.2.2.1 hK C.2.2.2.2.2.2.2.2.2.2.2.1 hR hs hU hW⟩ rfl hn hl.1 hst (by show 2 * 0 + _ ≤ 8; omega) hd ⟨q1, q2⟩
theorem cnB {idx n maxL : Nat} {y' : MethodName} {bytes : ByteArray} {ret' : Option FieldType} (hC : CNk own idx y' bytes maxL ret' n) {T : Nat → Nat} {b0 : Nat} {D : va_G} {p : Program} {l : Launch} {R : Room} {s : State} {m : MethodId} {args : Array Value} {meth : Method} {c : Code} {S1 : MS} (C : Cx own cc nL ret hh y (d + 1) T b0 D p l R s m args meth c) : ∃ host, va_CN R s args own idx y' host bytes maxL ret' (.code y' bytes maxL ret' :: TB) (rmOf d S S1) (S1.nx - S.nx) (S1.us - S.us) n := by
  obtain ⟨h1, ⟨q, hq, e1, e2, e3⟩, h3, h4, h5⟩ := hC
  obtain ⟨-, -, -, -, hts, -, -, -, -, -, -, hWf, -, hf, hl⟩ := C
  have hnw := hWf.1 q hq
  rw [e1, e2, e3] at hnw
  exact ⟨_, va_cnB n hts (gTB' (fun w hw => (List.mem_cons.mp hw).elim (fun e => e ▸ h1) id)) rfl rfl rfl hnw (hts _ h3) h4 ⟨hf, by show 8 + (maxL + 11) + 64 * d ≤ R.locals; omega⟩⟩
theorem inl_of {o : Out} {P : Option Value → MS → Prop} {S1 : MS} (h : (∃ v, o = .inl v ∧ P v S1) ∨ ∃ E, o = .inr E ∧ (fun (_ : String) (_ : MS) => False) E S1) : ∃ v, o = .inl v := by
  rcases h with ⟨v, h, -⟩ | ⟨E, -, h⟩
  · exact ⟨v, h⟩
  · exact h.elim
theorem j_callSN {idx n maxL : Nat} {y' : MethodName} {bytes : ByteArray} {ret' : Option FieldType} (As : List Value) {rest : List Value} {P : Option Value → MS → Prop} (hC : CNk own idx y' bytes maxL ret' n) (hw : Cond.static y' ∈ TB) (hn : As.length = n) (hst : st = As.reverse ++ rest) (hcat : (rest.map fun v => v.category).sum ≤ 8)
    (hd : decode cc pc = .ok (.invokestatic idx, 3)) (h : Mw (.code y' bytes maxL ret') y' d As S (fun o S1 => (∃ v, o = .inl v ∧ P v S1) ∨ ∃ E, o = .inr E ∧ False))
    (k : ∀ v S1, P v S1 → Jw Fz own cc nL ret hh y (d + 1) S0 S1 (pc + 3) lv (v.toList ++ rest) Q) : Jw Fz own cc nL ret hh y (d + 1) S0 S pc lv st Q := by
  refine j_call (X := fun _ _ => False) (fun C hR hs hl ho hM q1 q2 => ?_) h k (fun _ _ h => h.elim)
  have hK := C.2.2.2.2.2.2.2.2.1
  have hts := C.2.2.2.2.1
  obtain ⟨v, rfl⟩ := inl_of ho
  obtain ⟨host, hcn⟩ := cnB (S := S) hC C
  exact run_of (va_runSN (cc := cc) (nL := nL) (Ts := TB) (As := As) ⟨C.1, C.2.1, C.2.2.1, C.2.2.2.1, hts⟩ (met_of hM) ⟨hcn, hts _ hw, trivial⟩ ⟨pq_blind, fun U hU hW => pq_at C.2.2.2.2.2.2.2.2.2.2.1 hK C.2.2.2.2.2.2.2.2.2.2.2.1 hR hs hU hW⟩ rfl hn hl.1 hst (by show 2 * 0 + _ ≤ 8; omega) hd ⟨q1, q2⟩)
theorem j_callVN {idx n maxL b : Nat} {y' : MethodName} {bytes : ByteArray} {ret' : Option FieldType} (ci : Nat) (As : List Value) {rest : List Value} {P : Option Value → MS → Prop} (hC : CNk own idx y' bytes maxL ret' n) (hw : Cond.instanceMethod y' ∈ TB ∧ Cond.selects y'.cls y' y' ∈ TB) (hci : ∃ T N, vwCl[ci]? = some (y'.cls, T, N)) (h12 : ci < 12) (hn : As.length = n) (hst : st = As.reverse ++ vA b :: rest) (hcat : (rest.map fun v => v.category).sum ≤ 8)
    (hd : decode cc pc = .ok (.invokevirtual idx, 3)) (h : S.K b = ci ∧ Mw (.code y' bytes maxL ret') y' d (vA b :: As) S (fun o S1 => (∃ v, o = .inl v ∧ P v S1) ∨ ∃ E, o = .inr E ∧ False))
    (k : ∀ v S1, P v S1 → Jw Fz own cc nL ret hh y (d + 1) S0 S1 (pc + 3) lv (v.toList ++ rest) Q) : Jw Fz own cc nL ret hh y (d + 1) S0 S pc lv st Q := by
  refine j_call (X := fun _ _ => False) (fun C hR hs hl ho hM q1 q2 => ?_) h.2 k (fun _ _ h => h.elim)
  obtain ⟨T, N, hci⟩ := hci
  have hK := C.2.2.2.2.2.2.2.2.1
  have hts := C.2.2.2.2.1
  obtain ⟨v, rfl⟩ := inl_of ho
  obtain ⟨host, hcn⟩ := cnB (S := S) hC C
  exact run_of (va_runVN (cc := cc) (nL := nL) (Ts := TB) (C := y'.cls) (b := b) (As := As) ⟨C.1, C.2.1, C.2.2.1, C.2.2.2.1, hts⟩ (met_of hM) ⟨hcn, hts _ hw.1, hts _ hw.2⟩ ⟨pq_blind, va_recv (q0 := 0) hK (hR.one h.1 h12) hci rfl, fun U hU hW => pq_at C.2.2.2.2.2.2.2.2.2.2.1 hK C.2.2.2.2.2.2.2.2.2.2.2.1 hR hs hU hW⟩ rfl hn hl.1 hst (by show 2 * 0 + _ ≤ 8; omega) hd ⟨q1, q2⟩)
theorem j_callI {idx n maxL b : Nat} {y' : MethodName} {bytes : ByteArray} (As : List Value) {rest : List Value} {P : Option Value → MS → Prop} (hC : CVk own idx y' bytes maxL none n) (hy : y'.name = "<init>") (hw : Cond.instanceMethod y' ∈ TB) (hn : As.length = n) (hst : st = As.reverse ++ vA b :: rest) (hcat : (rest.map fun v => v.category).sum ≤ 8)
    (hd : decode cc pc = .ok (.invokespecial idx, 3)) (h : Mw (.code y' bytes maxL none) y' d (vA b :: As) S (fun o S1 => (∃ v, o = .inl v ∧ P v S1) ∨ ∃ E, o = .inr E ∧ False))
    (k : ∀ v S1, P v S1 → Jw Fz own cc nL ret hh y (d + 1) S0 S1 (pc + 3) lv (v.toList ++ rest) Q) : Jw Fz own cc nL ret hh y (d + 1) S0 S pc lv st Q := by
  refine j_call (X := fun _ _ => False) (fun C hR hs hl ho hM q1 q2 => ?_) h k (fun _ _ h => h.elim)
  have hK := C.2.2.2.2.2.2.2.2.1
  have hts := C.2.2.2.2.1
  obtain ⟨v, rfl⟩ := inl_of ho
  exact run_of (va_runI (cc := cc) (nL := nL) (Ts := TB) (b := b) (As := As) ⟨C.1, C.2.1, C.2.2.1, C.2.2.2.1, hts⟩ (met_of hM) ⟨cvB hC C, hy, hts _ hw⟩ ⟨pq_blind, fun U hU hW => pq_at C.2.2.2.2.2.2.2.2.2.2.1 hK C.2.2.2.2.2.2.2.2.2.2.2.1 hR hs hU hW⟩ rfl hn hl.1 hst (by show 2 * 0 + _ ≤ 8; omega) hd ⟨q1, q2⟩)
theorem j_callIN {idx n maxL b : Nat} {y' : MethodName} {bytes : ByteArray} (As : List Value) {rest : List Value} {P : Option Value → MS → Prop} (hC : CNk own idx y' bytes maxL none n) (hy : y'.name = "<init>") (hw : Cond.instanceMethod y' ∈ TB) (hn : As.length = n) (hst : st = As.reverse ++ vA b :: rest) (hcat : (rest.map fun v => v.category).sum ≤ 8)
    (hd : decode cc pc = .ok (.invokespecial idx, 3)) (h : Mw (.code y' bytes maxL none) y' d (vA b :: As) S (fun o S1 => (∃ v, o = .inl v ∧ P v S1) ∨ ∃ E, o = .inr E ∧ False))
    (k : ∀ v S1, P v S1 → Jw Fz own cc nL ret hh y (d + 1) S0 S1 (pc + 3) lv (v.toList ++ rest) Q) : Jw Fz own cc nL ret hh y (d + 1) S0 S pc lv st Q := by
  refine j_call (X := fun _ _ => False) (fun C hR hs hl ho hM q1 q2 => ?_) h k (fun _ _ h => h.elim)
  have hK := C.2.2.2.2.2.2.2.2.1
  have hts := C.2.2.2.2.1
  obtain ⟨v, rfl⟩ := inl_of ho
  obtain ⟨host, hcn⟩ := cnB (S := S) hC C
  exact run_of (va_runIN (cc := cc) (nL := nL) (Ts := TB) (b := b) (As := As) ⟨C.1, C.2.1, C.2.2.1, C.2.2.2.1, hts⟩ (met_of hM) ⟨hcn, hy, hts _ hw⟩ ⟨pq_blind, fun U hU hW => pq_at C.2.2.2.2.2.2.2.2.2.2.1 hK C.2.2.2.2.2.2.2.2.2.2.2.1 hR hs hU hW⟩ rfl hn hl.1 hst (by show 2 * 0 + _ ≤ 8; omega) hd ⟨q1, q2⟩)
end JC
