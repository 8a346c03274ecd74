/-! the law's end, in the claim's own room -/
def lx_Q (_ : Array Value) (s : State) (o : Outcome) (t : State) : Prop := o = .returned (some (.int 1)) ∧ Framed s o t [] room_1.cells room_1.slots
def lx_Z (below : List Frame) (a : Array Value) (s : State) : State → Prop := fun t => ∃ o, t.status = .running ∧ Ended t below o ∧ lx_Q a s o t
theorem lx_retR {p : Program} {l : Launch} {e : Env} {R : Room} {s : State} {m : MethodId} {args : Array Value} {below : List Frame} {meth : Method} {c : Code} (hx : p.tables.exec = Jvm.exec) (hb : c.code = code) (hr : meth.sig.returnType = ret) (hlocks : meth.locks = false) {pc : Nat} {H : Heap} {ls : Array Slot} (hdg : decode code pc = .ok (.ireturn, 1)) : W p l e R s m args below meth c H [] room_1.cells room_1.slots (lx_Z below args s) (F0 m pc ls [.int 1]) := by
  intro T hT X
  obtain ⟨fs, hret, hrun, hended, hW, hframe⟩ := X.leave (v := some (.int 1)) (hlocks := hlocks) (fun h => by rw [hr] at h; cases h)
  have hmeth' : T.vm.method? m = some meth := X.method'
  refine ⟨T.setFrames fs, ?_, .returned (some (.int 1)), hrun, hended, rfl, ⟨_, rfl⟩, hW, hframe⟩
  jvm_step X.here [X.here.top, hx, hb, hdg, hmeth', hr, ret, narrow_b1]
  (try refine ⟨rfl, ?_⟩); (try refine ⟨rfl, ?_⟩)
  first | (intro acts; rw [hret _ acts rfl rfl rfl]) | rw [hret _ _ rfl rfl rfl]
  exact Steps.refl _
def FinW : FinT := fun _ _ _ b0 below args s mc ms t => (mc ≤ 10000 ∧ ms ≤ 2000000 ∧ b0 = s.heap.size) → lx_Z below args s t
theorem j_lawretM {own : String} {nL : Nat} {hh : List (Nat × Nat × Nat × Nat)} {y : MethodName} {d : Nat} {S0 S : MS} {pc : Nat} {lv : List (Nat × Value)} {Q : Out → MS → Prop} {x : Int} (hd : decode code pc = .ok (.ireturn, 1)) (h : x = 1 ∧ Q (.inl (some (vI x))) S) : Jw FinW own code nL (some .boolean) hh y d S0 S pc lv [vI x] Q := by
  obtain ⟨rfl, h⟩ := h
  refine ⟨_, S, h, leM.rf, fun {p l e R s m args below meth c D b0 H locs ls} C c1 c2 c3 hR hs hl => ?_⟩
  intro T hT X
  by_cases hc : S.nx - S0.nx ≤ 10000 ∧ S.us - S0.us ≤ 2000000 ∧ b0 = s.heap.size
  · have w : W p l e R s m args below meth c H locs (S.nx - S0.nx) (S.us - S0.us) (lx_Z below args s) (F0 m pc ls [vI 1]) := by
      refine va_forget (fun q hq => by have := hs.2.2 q hq; rw [hc.2.2] at this; exact this) ?_
      refine W.widen (Nat.le_trans hc.1 (show 10000 ≤ room_1.cells by decide)) (Nat.le_trans hc.2.1 (show 2000000 ≤ room_1.slots by decide)) ?_
      exact lx_retR C.1 C.2.1 C.ret.1 C.ret.2.1 hd
    obtain ⟨t, a1, b1⟩ := w T hT X
    exact ⟨t, a1, fun _ => b1⟩
  · exact ⟨_, Steps.refl _, fun q => absurd q hc⟩
