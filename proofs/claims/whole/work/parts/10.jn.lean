theorem mk_K {S : MS} {k n a : Nat} : (S.mk k n).K a = if a = S.nx then k else S.K a := rfl
theorem mk_new {S : MS} {k n : Nat} : (S.mk k n).K S.nx = k := by simp [mk_K]
theorem mk_old {S : MS} {k n a : Nat} (h : a ≠ S.nx) : (S.mk k n).K a = S.K a := by simp [mk_K, h]
theorem mk_flo {S : MS} {k n a : Nat} (h : a ≠ S.nx) : (S.mk k n).fl a = S.fl a ∧ (S.mk k n).arr a = S.arr a ∧ (S.mk k n).N a = S.N a := by
  have e1 : (S.mk k n).I a = S.I a := up1_ne h
  have e2 : (S.mk k n).J a = S.J a := up1_ne h
  have e3 : (S.mk k n).R a = S.R a := up1_ne h
  have e4 : (S.mk k n).N a = S.N a := up1_ne h
  refine ⟨?_, ?_, e4⟩
  · unfold MS.fl
    rw [mk_old h, e1, e3]
  · unfold MS.arr
    rw [mk_old h, e1, e2, e3, e4]
theorem mk_fl {S : MS} {k n : Nat} : (S.mk k n).fl S.nx = (ftI k).map (fun t => if t then vI 0 else va_rf none) := by
  have e1 : (S.mk k n).I S.nx = fun _ => 0 := up1_eq
  have e3 : (S.mk k n).R S.nx = fun _ => none := up1_eq
  unfold MS.fl
  rw [mk_new, e1, e3]
  exact List.ext_getElem? (fun i => by simp [List.getElem?_mapIdx])
/-- a new thing at the end of the heap -/
theorem Rep.mk {D : va_G} {b0 : Nat} {S : MS} {U : State} {H H1 : Heap} {k n : Nat} (h : Rep D b0 S U H) (hz : H1.size = H.size + 1) (ho : ∀ q, q < H.size → H1[q]? = H[q]?) (hn : n < 2147483648) (ha : AtE D U (S.mk k n) S.nx H1) : Rep D b0 (S.mk k n) U H1 := by
  have hx : (S.mk k n).nx = S.nx + 1 := rfl
  refine ⟨by rw [hz, h.1, hx], by rw [hx]; have := h.2.1; omega, fun q hq => ?_⟩
  by_cases e : q = S.nx
  · subst e
    refine ⟨h.2.1, by rw [hx]; omega, ?_, ha⟩
    show up1 S.N S.nx n S.nx < _
    rw [up1_eq]; exact hn
  · rw [mk_old e] at hq
    obtain ⟨h1, h2, h3, h4, h5⟩ := h.2.2 q hq
    obtain ⟨e1, e2, e3⟩ := mk_flo (k := k) (n := n) e
    refine ⟨h1, by rw [hx]; omega, by rw [e3]; exact h3, ?_, ?_⟩
    · rw [mk_old e, e1]
      exact fun h6 => (h4 h6).kept (ho q (by rw [h.1]; exact h2))
    · rw [mk_old e, e2, ho q (by rw [h.1]; exact h2)]
      exact h5
theorem Rep.junk {D : va_G} {b0 : Nat} {S : MS} {U : State} {H H1 : Heap} {n : Nat} (h : Rep D b0 S U H) (hz : H1.size = H.size + 1) (ho : ∀ q, q < H.size → H1[q]? = H[q]?) : Rep D b0 (S.junk n) U H1 := by
  have hx : (S.junk n).nx = S.nx + 1 := rfl
  have hK : ∀ q, (S.junk n).K q = if q = S.nx then 99 else S.K q := fun _ => rfl
  refine ⟨by rw [hz, h.1, hx], by rw [hx]; have := h.2.1; omega, fun q hq => ?_⟩
  by_cases e : q = S.nx
  · rw [hK, if_pos e] at hq
    omega
  · have hKq : (S.junk n).K q = S.K q := by rw [hK, if_neg e]
    rw [hKq] at hq
    obtain ⟨h1, h2, h3, h4, h5⟩ := h.2.2 q hq
    have e1 : (S.junk n).fl q = S.fl q := by unfold MS.fl; rw [hKq]; rfl
    have e2 : (S.junk n).arr q = S.arr q := by unfold MS.arr; rw [hKq]; rfl
    refine ⟨h1, by rw [hx]; omega, h3, ?_, ?_⟩
    · rw [hKq, e1]
      exact fun h6 => (h4 h6).kept (ho q (by rw [h.1]; exact h2))
    · rw [hKq, e2, ho q (by rw [h.1]; exact h2)]
      exact h5
theorem va_S.grow {b0 : Nat} {H0 H H1 : Heap} {locs : List Loc} (h : va_S (fun q => b0 ≤ q) H0 H locs) (z : H.size ≤ H1.size) (ho : ∀ q, q < H.size → H1[q]? = H[q]?) : va_S (fun q => b0 ≤ q) H0 H1 locs :=
  ⟨Nat.le_trans h.1 z, fun q h1 h2 => (ho q (Nat.lt_of_lt_of_le h1 h.1)).trans (h.2.1 q h1 h2), h.2.2⟩
/-- class ci can be made by the entry idx of own -/
def NWk (own : String) (idx ci : Nat) : Prop := ∃ (C : String) (T : u_T) (N : Nat) (ty : Nat → FieldType), vwCl[ci]? = some (C, T, N) ∧ (∀ w ∈ u_ws C T N, w ∈ TB) ∧ (∀ j, j < N → parseFieldDescriptor (T j).2.2.1 = some (ty j)) ∧ (ftI ci).length = N ∧ ci < 12 ∧ (∀ j, j < N → defaultValue (ty j) = vp_V ((ftI ci).map (fun t => if t then vI 0 else va_rf none)) j) ∧ Cond.classLink own idx C ∈ TB ∧ Cond.instantiable C N ∈ TB ∧ Cond.initialized C ∈ TB
section JN
variable {Fz : FinT} {own : String} {cc : ByteArray} {nL : Nat} {ret : Option FieldType} {hh : List (Nat × Nat × Nat × Nat)} {y : MethodName} {d : Nat} {S0 S : MS} {pc : Nat} {lv : List (Nat × Value)} {st : List Value} {Q : Out → MS → Prop}
/-- something new comes -/
theorem j_mk {kd n pc2 : Nat} {st2 : List Value} (h : ∀ {p : Program} {l : Launch} {e : Env} {R : Room} {s : State} {m : MethodId} {args : Array Value} {below : List Frame} {meth : Method} {c : Code} {H : Heap} {locs : List Loc} {ls : Array Slot} {kc ks : Nat} {Qs : State → Prop} {D : va_G} {b0 : Nat},
      p.tables.exec = Jvm.exec → c.code = cc → s.vm.findClass own = some m.cls → (∀ w ∈ TB, w.before args s = true) → va_K D vwCl [] s → Wf b0 S.T s → Rep D b0 S s H → kc + 1 ≤ R.cells → ks + n ≤ R.slots → (∀ (H1 : Heap), H1.size = H.size + 1 → (∀ q, q < H.size → H1[q]? = H[q]?) → Rep D b0 (S.mk kd n) s H1 → W p l e R s m args below meth c H1 locs (kc + 1) (ks + n) Qs (F0 m pc2 ls st2)) → W p l e R s m args below meth c H locs kc ks Qs (F0 m pc ls st))
    (k : Jw Fz own cc nL ret hh y d S0 (S.mk kd n) pc2 lv st2 Q) : Jw Fz own cc nL ret hh y d S0 S pc lv st Q := by
  obtain ⟨o, S', h1, h2, h3⟩ := k
  have hle : leM S (S.mk kd n) := ⟨Nat.le_succ _, Nat.le_add_right _ _, rfl⟩
  refine ⟨o, S', h1, leM.tr hle h2, fun C c1 c2 c3 hr hs hl => ?_⟩
  have e1 : (S.mk kd n).nx = S.nx + 1 := rfl
  have e2 : (S.mk kd n).us = S.us + n := rfl
  have g1 := c1.1; have g2 := c1.2.1; have g3 := h2.1; have g4 := h2.2.1
  rw [e1] at g3
  rw [e2] at g4
  refine h C.1 C.2.1 C.2.2.2.1 C.2.2.2.2.1 C.2.2.2.2.2.2.2.2.1 C.2.2.2.2.2.2.2.2.2.2.2.1 hr (by omega) (by omega) (fun H1 hz ho hR1 => ?_)
  have w := fun {e} {below} => h3 (e := e) (below := below) (by exact C) (leM.tr c1 hle) c2 c3 hR1 (hs.grow (by omega) ho) hl
  rw [e1, e2, show S.nx + 1 - S0.nx = S.nx - S0.nx + 1 by omega, show S.us + n - S0.us = S.us - S0.us + n by omega] at w
  exact w
theorem j_new {idx : Nat} (ci : Nat) (hN : NWk own idx ci) (hd : decode cc pc = .ok (.new idx, 3)) (k : Jw Fz own cc nL ret hh y d S0 (S.mk ci (ftI ci).length) (pc + 3) lv (vA S.nx :: st) Q) : Jw Fz own cc nL ret hh y d S0 S pc lv st Q := by
  obtain ⟨C, T, N, ty, hc, hin, hty, hL, h12, hdf, hw1, hw2, hw3⟩ := hN
  refine j_mk (fun hx hb ho ht hK _ hR q1 q2 w => ?_) k
  have hKn := hK.1 ci _ hc
  rw [hL] at q2 w
  refine W.newcK hx hb ho (ht _ hw1) (ht _ hw2) (ht _ hw3) rfl hd q1 q2 hKn.2.1 hR.1 fun H1 kC hkC e1 z1 o1 => ?_
  have hz : H1.size = _ + 1 := z1.trans (by rw [← hR.1])
  refine w H1 hz (fun q hq => o1 q (by rw [← hR.1]; exact hq)) ?_
  refine Rep.mk hR hz (fun q hq => o1 q (by rw [← hR.1]; exact hq)) ?_ ⟨fun _ => ?_, fun h7 => ?_⟩
  · have : ∀ c, c < 12 → (ftI c).length < 2147483648 := by decide
    rw [← hL]; exact this ci h12
  · rw [mk_new, mk_fl]
    exact ⟨_, hc, (u_born ty ht hin hKn hkC e1 hty).to hdf⟩
  · rw [mk_new] at h7
    omega
theorem j_newa {at' : ArrayType} {x : Int} (kd : Nat) {P : Prop} (hty : newarray.typeOf at' = ety kd) (hkd : 12 ≤ kd ∧ kd < 17) (hw : Cond.arrayClass (newarray.typeOf at') ∈ TB) (hd : decode cc pc = .ok (.newarray at', 2)) (h : (0 ≤ x ∧ x < 1000000) ∧ P) (k : P → Jw Fz own cc nL ret hh y d S0 (S.mk kd x.toNat) (pc + 2) lv (vA S.nx :: st) Q) : Jw Fz own cc nL ret hh y d S0 S pc lv (vI x :: st) Q := by
  obtain ⟨⟨h1, h2⟩, h3⟩ := h
  have hr : R32 x := ⟨by omega, by omega⟩
  refine j_mk (fun {p l e R s m args below meth c H locs ls kc ks Qs D b0} hx hb ho ht hK _ hR q1 q2 w => ?_) (k h3)
  have hneg : ¬ Int32.ofInt x < 0 := fun q => by
    have := (r32_lt hr r32_0).mp q
    omega
  have hbytes : x.toNat * componentBytes (newarray.typeOf at') ≤ 536870912 := by
    have h9 : ∀ at' : ArrayType, componentBytes (newarray.typeOf at') ≤ 8 := fun a => by cases a <;> decide
    have := h9 at'
    calc x.toNat * componentBytes (newarray.typeOf at') ≤ x.toNat * 8 := Nat.mul_le_mul_left _ this
      _ ≤ 536870912 := by omega
  refine va_newaK hx hb (ht _ hw) rfl hd rfl hneg (r32_cl hr) hbytes q1 q2 hR.1 fun H1 cA e1 z1 o1 hA hNm => ?_
  have hz : H1.size = H.size + 1 := z1.trans (by rw [← hR.1])
  refine w H1 hz (fun q hq => o1 q (by rw [← hR.1]; exact hq)) ?_
  refine Rep.mk hR hz (fun q hq => o1 q (by rw [← hR.1]; exact hq)) (by omega) ⟨fun h7 => ?_, fun _ => ⟨cA, ?_, ?_⟩⟩
  · rw [mk_new] at h7
    omega
  · rw [mk_new]
    rw [hty] at hA hNm
    refine ⟨hA, ?_⟩
    rcases (show kd = 12 ∨ kd = 13 ∨ kd = 14 ∨ kd = 15 ∨ kd = 16 by omega) with q | q | q | q | q <;> subst q <;> exact hNm
  · rw [e1]
    have hN : (S.mk kd x.toNat).N S.nx = x.toNat := up1_eq
    have hI : (S.mk kd x.toNat).I S.nx = fun _ => 0 := up1_eq
    have hJ : (S.mk kd x.toNat).J S.nx = fun _ => 0#64 := up1_eq
    by_cases h14 : kd = 14
    · subst h14
      rw [arr_l mk_new, vp_cell_l, hN, hJ, hty]
      rfl
    · rw [arr_i (by rw [mk_new]; omega) (by rw [mk_new]; exact h14), vp_cell_i, hN, hI, hty]
      have hdv : ∀ k, 12 ≤ k → k < 17 → k ≠ 14 → defaultValue (ety k) = .int (Int32.ofInt 0) := fun k g1 g2 g3 => by
        rcases (show k = 12 ∨ k = 13 ∨ k = 15 ∨ k = 16 by omega) with q | q | q | q <;> subst q <;> rfl
      rw [hdv kd hkd.1 hkd.2 h14]
end JN
