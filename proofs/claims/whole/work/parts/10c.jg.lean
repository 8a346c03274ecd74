theorem mg_outer (c : ClassId) (N h0 : Nat) : ∀ i : Nat, Jvm.Free.Multi.outerC c N h0 i = arrV c N (fun j => va_rf (if j < i then some (h0 + 1 + j) else none))
  | 0 => by
    show ({ cls := c, slots := Array.replicate N .null, vm := .none } : Cell) = _
    rw [arrV_new]
    refine congrArg (arrV c N) (funext fun j => ?_)
    simp [va_rf]
  | i + 1 => by
    show (Jvm.Free.Multi.outerC c N h0 i).setSlot i (.ref (h0 + 1 + i)) = _
    rw [mg_outer c N h0 i, arrV_store]
    refine congrArg (arrV c N) (funext fun j => ?_)
    by_cases e : j = i
    · subst e
      simp [updV, va_rf]
    · by_cases h : j < i
      · simp [updV, e, h, Nat.lt_succ_of_lt h]
      · simp [updV, e, h, show ¬ j < i + 1 by omega]
/-- new long[n][k]: the outer row at the next address, its n rows behind it -/
def MS.mk2 (S : MS) (n k : Nat) : MS := (fun x => if x = S.nx then 20 else if S.nx < x ∧ x < S.nx + 1 + n then 14 else S.K x, fun x => if x = S.nx then n else if S.nx < x ∧ x < S.nx + 1 + n then k else S.N x, fun x => if S.nx ≤ x ∧ x < S.nx + 1 + n then (fun _ => 0) else S.I x, fun x => if S.nx ≤ x ∧ x < S.nx + 1 + n then (fun _ => 0#64) else S.J x,
  fun x => if x = S.nx then (fun j => if j < n then some (S.nx + 1 + j) else none) else if S.nx < x ∧ x < S.nx + 1 + n then (fun _ => none) else S.R x, S.T, S.nx + 1 + n, S.us + n + n * k)
theorem Rep.mk2 {D : va_G} {b0 : Nat} {S : MS} {U : State} {H H1 : Heap} {n k : Nat} (h : Rep D b0 S U H) (hn : n < 2147483648) (hk : k < 2147483648) (hz : H1.size = H.size + 1 + n) (ho : ∀ q, q < H.size → H1[q]? = H[q]?) {cA cL : ClassId} (hA : ArrOfT U cA (.array .long) ∧ va_RA U cA (.array .long)) (hL : ArrOfT U cL .long ∧ va_RA U cL .long)
    (h0 : H1[S.nx]? = some (vp_cell cA (n, .inr (.inr (.inr (.inr (fun j => if j < n then some (S.nx + 1 + j) else none))))))) (h1 : ∀ j, j < n → H1[S.nx + 1 + j]? = some (vp_cell cL (k, .inr (.inl (fun _ => Int64.ofBitVec 0#64))))) : Rep D b0 (S.mk2 n k) U H1 := by
  have hx : (S.mk2 n k).nx = S.nx + 1 + n := rfl
  have hb := h.2.1
  refine ⟨by rw [hz, h.1, hx], by rw [hx]; omega, fun q hq => ?_⟩
  by_cases e : q = S.nx
  · subst e
    have eK : (S.mk2 n k).K S.nx = 20 := by simp [MS.mk2, MS.K]
    have eN : (S.mk2 n k).N S.nx = n := by simp [MS.mk2, MS.N]
    have eR : (S.mk2 n k).R S.nx = fun j => if j < n then some (S.nx + 1 + j) else none := by simp [MS.mk2, MS.R]
    refine ⟨hb, by rw [hx]; omega, by rw [eN]; exact hn, fun h6 => by rw [eK] at h6; omega, fun _ => ⟨cA, by rw [eK]; exact hA, ?_⟩⟩
    rw [h0, arr_q (by rw [eK]; omega), eN, eR]
  · by_cases e2 : S.nx < q ∧ q < S.nx + 1 + n
    · have eK : (S.mk2 n k).K q = 14 := by simp [MS.mk2, MS.K, e, e2]
      have eN : (S.mk2 n k).N q = k := by simp [MS.mk2, MS.N, e, e2]
      have eJ : (S.mk2 n k).J q = fun _ => 0#64 := by simp [MS.mk2, MS.J, show S.nx ≤ q by omega, e2]
      refine ⟨by omega, by rw [hx]; omega, by rw [eN]; exact hk, fun h6 => by rw [eK] at h6; omega, fun _ => ⟨cL, by rw [eK]; exact hL, ?_⟩⟩
      have := h1 (q - (S.nx + 1)) (by omega)
      rw [show S.nx + 1 + (q - (S.nx + 1)) = q by omega] at this
      rw [this, arr_l eK, eN, eJ]
    · have eK : (S.mk2 n k).K q = S.K q := by simp [MS.mk2, MS.K, e, e2]
      have eN : (S.mk2 n k).N q = S.N q := by simp [MS.mk2, MS.N, e, e2]
      rw [eK] at hq
      obtain ⟨g1, g2, g3, g4, g5⟩ := h.2.2 q hq
      have e3 : ¬ (S.nx ≤ q ∧ q < S.nx + 1 + n) := by omega
      have eI : (S.mk2 n k).I q = S.I q := by simp [MS.mk2, MS.I, e3]
      have eJ : (S.mk2 n k).J q = S.J q := by simp [MS.mk2, MS.J, e3]
      have eR : (S.mk2 n k).R q = S.R q := by simp [MS.mk2, MS.R, e, e2]
      have ef : (S.mk2 n k).fl q = S.fl q := by unfold MS.fl; rw [eK, eI, eR]
      have ea : (S.mk2 n k).arr q = S.arr q := by unfold MS.arr; rw [eK, eI, eJ, eR, eN]
      refine ⟨g1, by rw [hx]; omega, by rw [eN]; exact g3, ?_, ?_⟩
      · rw [eK, ef]
        exact fun h6 => (g4 h6).kept (ho q (by rw [h.1]; exact g2))
      · rw [eK, ea, ho q (by rw [h.1]; exact g2)]
        exact g5
/-- a copy of n places -/
def MS.cpy (S : MS) (a : Nat) (sp : Nat) (b : Nat) (dp n : Nat) : MS := (S.1, S.2.1, up1 S.I b (fun j => if dp ≤ j ∧ j < dp + n then S.I a (sp + (j - dp)) else S.I b j), S.2.2.2)
theorem ot_cpy {S : MS} {a b sp dp n : Nat} : ∀ q, q ≠ b → (S.cpy a sp b dp n).fl q = S.fl q ∧ (S.cpy a sp b dp n).arr q = S.arr q := by
  intro q hq
  have e : (S.cpy a sp b dp n).I q = S.I q := up1_ne hq
  constructor
  · show (ftI (S.K q)).mapIdx (fun k' t => if t then vI ((S.cpy a sp b dp n).I q k') else va_rf (S.R q k')) = _
    rw [e]; rfl
  · show (if S.K q = 14 then _ else if S.K q < 17 then ((S.N q, Sum.inl (fun j => Int32.ofInt ((S.cpy a sp b dp n).I q j))) : vp_A) else _) = _
    rw [e]; rfl
section WCP
variable {p : Program} {l : Launch} {e : Env} {R : Room} {s : State} {m : MethodId} {args : Array Value} {below : List Frame} {meth : Method} {c : Code} {H : Heap} {locs : List Loc} {cells slots : Nat} {Qs : State → Prop} {cc : ByteArray} {pc : Nat} {ls : Array Slot} {rest : List Value}
/-- System.arraycopy of ints: what it writes lies in the second row -/
theorem w_copy (hexec : p.tables.exec = Jvm.exec) (hb : c.code = cc) (hml : c.maxLocals = ls.size) {own : String} {index : Nat} (hown : s.vm.findClass own = some m.cls) (hlink : (Cond.methodLink own index arraycopyName).before args s = true) (hnat : (Cond.native arraycopyName).before args s = true) (hstat : (Cond.static arraycopyName).before args s = true) (hini : (Cond.initialized "java/lang/System").before args s = true)
    {a0 a : Nat} {c0 c1 : ClassId} {n0 n1 : Nat} {f g : Nat → Int32} (hc0 : H[a0]? = some (vp_cell c0 (n0, .inl f))) (hc1 : H[a]? = some (vp_cell c1 (n1, .inl g))) (ht0 : ArrOfT s c0 .int) (ht1 : ArrOfT s c1 .int)
    {sp dp n : Int32} (h1 : ¬ sp < 0) (h2 : ¬ dp < 0) (h3 : ¬ n < 0) (h4 : sp.toNatClampNeg + n.toNatClampNeg ≤ n0) (h5 : dp.toNatClampNeg + n.toNatClampNeg ≤ n1)
    (hframes : 1 ≤ R.frames) (hlocals : (rest.map fun v => v.category).sum + (nativeFrameWords "java/lang/System" "arraycopy" 5 + 11) ≤ R.locals) (hdg : decode cc pc = .ok (.invokestatic index, 3))
    (kk : ∀ (H1 : Heap) (locs1 : List Loc), H1.size = H.size → (∀ q, q ≠ a → H1[q]? = H[q]?) → H1[a]? = some (vp_cell c1 (n1, .inl (va_cpy f g sp.toNatClampNeg dp.toNatClampNeg n.toNatClampNeg))) → (∀ x ∈ locs1, x ∈ locs ∨ x.base = a) → W p l e R s m args below meth c H1 locs1 cells slots Qs (F0 m (pc + 3) ls rest)) : W p l e R s m args below meth c H locs cells slots Qs (F0 m pc ls (.int n :: .int dp :: .ref a :: .int sp :: .ref a0 :: rest)) := by
  have nn : ∀ z : Int32, ¬ z < 0 → z.toInt = (z.toNatClampNeg : Int) := by
    intro z hz
    have hz0 : (0 : Int) ≤ z.toInt := by
      have := Int32.not_lt.mp hz
      simpa using Int32.le_iff_toInt_le.mp this
    show z.toInt = ((z.toInt.toNat : Nat) : Int)
    omega
  intro T hT X
  obtain ⟨-, k0, hk0, cm0, hkk0⟩ := ht0 n0 (fun j => .int (f j))
  obtain ⟨-, k1, hk1, cm1, hkk1⟩ := ht1 n1 (fun j => .int (g j))
  obtain ⟨vm', X', step⟩ := X.arraycopy hexec hown hlink hnat hstat hini (src := a0) (dst := a) (cs := vp_cell c0 (n0, .inl f)) (cd := vp_cell c1 (n1, .inl g)) (srcPos := sp) (destPos := dp) (n := n) (by rw [hT]; exact hc0) (by rw [hT]; exact hc1)
    (fun _ h => by cases h) (fun _ h => by cases h) (fun h => by cases h) (fun h => by cases h) hk0 hk1 hkk0 hkk1 (by simp [refKind]) h1 h2 h3
    (by rw [nn sp h1, nn n h3]; show ¬ _ > ((arrV c0 n0 (fun j => .int (f j))).slots.size : Int); rw [arrV_size]; omega)
    (by rw [nn dp h2, nn n h3]; show ¬ _ > ((arrV c1 n1 (fun j => .int (g j))).slots.size : Int); rw [arrV_size]; omega)
    (fun vm₁ _ i hi => by
      have e : (vp_cell c0 (n0, .inl f)).slots.getD (sp.toNatClampNeg + i) .null = .int (f (sp.toNatClampNeg + i)) := by
        show (arrV c0 n0 (fun j => .int (f j))).slots.getD _ _ = _
        rw [Array.getD_eq_getD_getElem?, arrV_read _ _ (by omega)]
        rfl
      refine ⟨?_, ?_⟩
      · rw [e]
        rfl
      · rw [e]
        exact trivial)
    (g := F0 m pc ls (.int n :: .int dp :: .ref a :: .int sp :: .ref a0 :: rest)) rfl (by rw [hml]) (rest := rest) rfl (by rw [hb]; exact hdg) hframes (by show 2 * 0 + _ + _ ≤ _; omega)
  have e1 : copied (vp_cell c0 (n0, .inl f)) (vp_cell c1 (n1, .inl g)) sp dp n = vp_cell c1 (n1, .inl (va_cpy f g sp.toNatClampNeg dp.toNatClampNeg n.toNatClampNeg)) := va_copied (fun z => .int z) c0 c1 f g h4
  rw [e1] at X' step
  have hl : a < H.size := (Array.getElem?_eq_some_iff.mp hc1).1
  have hheap : ((T.setVm vm').setCell a (vp_cell c1 (n1, .inl (va_cpy f g sp.toNatClampNeg dp.toNatClampNeg n.toNatClampNeg)))).heap = H.setIfInBounds a (vp_cell c1 (n1, .inl (va_cpy f g sp.toNatClampNeg dp.toNatClampNeg n.toNatClampNeg))) := by rw [← hT]; rfl
  obtain ⟨t, a1, b1⟩ := kk _ _ (by simp) (fun q hq => by simp [Array.getElem?_setIfInBounds, Ne.symm hq]) (show (H.setIfInBounds a _)[a]? = some _ by simp [Array.getElem?_setIfInBounds, hl]) (fun x hx => by
      rcases List.mem_append.mp hx with h | h
      · exact Or.inl h
      · obtain ⟨i, -, rfl⟩ := List.mem_map.mp h
        exact Or.inr rfl) _ hheap X'
  exact ⟨t, step t a1, b1⟩
end WCP
section JG
variable {Fz : FinT} {own : String} {cc : ByteArray} {nL : Nat} {ret : Option FieldType} {hh : List (Nat × Nat × Nat × Nat)} {y : MethodName} {d : Nat} {S0 S : MS} {pc : Nat} {lv : List (Nat × Value)} {st : List Value} {Q : Out → MS → Prop}
theorem j_mna {idx : Nat} {n k : Int} {P : Prop} (hw : Cond.classLink own idx "[[J" ∈ TB) (hw2 : Cond.arrayClass .long ∈ TB) (hd : decode cc pc = .ok (.multianewarray idx 2, 4)) (h : ((0 ≤ n ∧ n < 100000) ∧ 0 ≤ k ∧ k < 100000) ∧ P) (kk : P → Jw Fz own cc nL ret hh y d S0 (S.mk2 n.toNat k.toNat) (pc + 4) lv (vA S.nx :: st) Q) : Jw Fz own cc nL ret hh y d S0 S pc lv (vI k :: vI n :: st) Q := by
  obtain ⟨⟨⟨hn1, hn2⟩, hk1, hk2⟩, hP⟩ := h
  have hrn : R32 n := ⟨by omega, by omega⟩
  have hrk : R32 k := ⟨by omega, by omega⟩
  obtain ⟨o, S', h1, h2, h3⟩ := kk hP
  have hle : leM S (S.mk2 n.toNat k.toNat) := ⟨by show S.nx ≤ S.nx + 1 + n.toNat; omega, by show S.us ≤ S.us + n.toNat + n.toNat * k.toNat; omega, rfl⟩
  refine ⟨o, S', h1, leM.tr hle h2, fun {p l e R s m args below meth c D b0 H locs ls} C c1 c2 c3 hR hs hl => ?_⟩
  have e1 : (S.mk2 n.toNat k.toNat).nx = S.nx + 1 + n.toNat := rfl
  have e2 : (S.mk2 n.toNat k.toNat).us = S.us + n.toNat + n.toNat * k.toNat := rfl
  have g1 := c1.1; have g2 := c1.2.1; have g3 := h2.1; have g4 := h2.2.1
  rw [e1] at g3
  rw [e2] at g4
  have hts := C.2.2.2.2.1
  have hov : (Cond.arrayOver (.array .long)).before #[] s = true := C.wf.2.2.2.2.2.2.2.2.2.2.2.1
  have hneg : ∀ {x : Int}, R32 x → 0 ≤ x → ¬ Int32.ofInt x < 0 := fun hr h0 q => by
    have := (r32_lt hr r32_0).mp q
    omega
  have cn := r32_cl hrn
  have ck := r32_cl hrk
  intro T hT X
  obtain ⟨vm₁, cA, comp, -, fA, fC, hO, hI, X', step⟩ := X.multianewarray2F C.1 (ty := .long) C.2.2.2.1 (hts _ hw) (over_moved (Vm.Alike.refl s.vm) hov) (hts _ hw2) (g := F0 m pc ls (vI k :: vI n :: st)) rfl (by rw [C.2.1]; exact hd) rfl (hneg hrn hn1) (hneg hrk hk1) (by rw [cn]; omega) (by rw [ck]; show k.toNat * 8 ≤ _; omega) (by rw [ck]; omega) rfl rfl (by rw [cn]; omega) (by rw [cn, ck]; omega)
  rw [cn, ck] at X' step
  generalize hF : Jvm.Free.Multi.fill (T.setVm vm₁) cA comp n.toNat k.toNat (defaultValue .long) n.toNat = F at X' step
  have hTh : (T.setVm vm₁).heap = H := hT
  obtain ⟨f1, f2, -, -⟩ := Jvm.Free.Multi.fill_facts (T.setVm vm₁) cA comp n.toNat k.toNat (defaultValue .long) n.toNat
  rw [hF, hTh] at f1 f2
  have hold : ∀ x : Nat, x < H.size → F.heap[x]? = H[x]? := fun x hx => by
    have := Jvm.Free.Multi.fill_old (T.setVm vm₁) cA comp n.toNat k.toNat (defaultValue .long) (a := x) (by rw [hTh]; exact hx) n.toNat
    rw [hF, hTh] at this
    exact this
  have hrow : ∀ j : Nat, j < n.toNat → F.heap[S.nx + 1 + j]? = some (vp_cell comp (k.toNat, .inr (.inl (fun _ => Int64.ofBitVec 0#64)))) := fun j hj => by
    have := Jvm.Free.Multi.fill_inner (T.setVm vm₁) cA comp n.toNat k.toNat (defaultValue .long) n.toNat j hj
    rw [hF, hTh, hR.1] at this
    rw [this, vp_cell_l]
    exact congrArg some (arrV_new comp k.toNat _)
  rw [mg_outer, hR.1] at f2
  have hAc : ArrOfT s cA (.array .long) := by
    obtain ⟨comp2, c2', k2, q1, q2, q3, q4, q5⟩ := arrayOverA_spec (over_moved (a' := args) (Vm.Alike.refl s.vm) hov)
    have ec : c2' = cA := Option.some.inj (q5.symm.trans fA)
    subst ec
    exact fun N z => ⟨(fun k h => by cases h), k2, q3, comp2, q4⟩
  have hLc : ArrOfT s comp .long := fun N z => by
    obtain ⟨-, kc, hkc, cm, hkk⟩ := (hI 0 (defaultValue .long)).1
    exact ⟨(fun k h => by cases h), kc, hkc, cm, hkk⟩
  have hR1 := Rep.mk2 (n := n.toNat) (k := k.toNat) hR (by omega) (by omega) f1 hold ⟨hAc, fA⟩ ⟨hLc, fC⟩ (by rw [f2, vp_cell_q]) hrow
  have w := h3 (e := e) (below := below) (by exact C) (leM.tr c1 hle) c2 c3 hR1 (hs.grow (by omega) hold) hl
  rw [e1, e2, show S.nx + 1 + n.toNat - S0.nx = S.nx - S0.nx + 1 + n.toNat by omega, show S.us + n.toNat + n.toNat * k.toNat - S0.us = S.us - S0.us + n.toNat + n.toNat * k.toNat by omega] at w
  obtain ⟨t, a1, b1⟩ := w F rfl X'
  rw [show S.nx = T.heap.size by rw [hT, hR.1]] at a1
  exact ⟨t, step t a1, b1⟩
/-- a row of longs is put into an array of such -/
theorem j_aastA {a b : Nat} {i : Int} {P : Prop} (hd : decode cc pc = .ok (.aastore, 1)) (h : (S.K a = 20 ∧ S.K b = 14 ∧ 0 ≤ i ∧ i < S.N a) ∧ P) (k : P → Jw Fz own cc nL ret hh y d S0 (S.setR a i.toNat (some b)) (pc + 1) lv st Q) : Jw Fz own cc nL ret hh y d S0 S pc lv (vA b :: vI i :: vA a :: st) Q := by
  obtain ⟨⟨h1, hb1, h2, h3⟩, h4⟩ := h
  obtain ⟨o, S', g1, g2, g3⟩ := k h4
  have hle : leM S (S.setR a i.toNat (some b)) := ⟨Nat.le_refl _, Nat.le_refl _, rfl⟩
  refine ⟨o, S', g1, leM.tr hle g2, fun C c1 c2 c3 hR hs hl => ?_⟩
  have hov : (Cond.arrayOver (.array .long)).before #[] _ = true := C.wf.2.2.2.2.2.2.2.2.2.2.2.1
  obtain ⟨cA, q1, q2⟩ := hR.arr (a := a) (by omega) (by omega)
  obtain ⟨cL, r1, r2⟩ := hR.arr (a := b) (by omega) (by omega)
  rw [arr_q (by omega)] at q2
  rw [arr_l hb1] at r2
  rw [h1] at q1
  rw [hb1] at r1
  obtain ⟨comp, c2', k2, u1, u2, u3, u4, u5⟩ := arrayOverA_spec hov
  have ec : c2' = cA := Option.some.inj (u5.symm.trans q1.2)
  subst ec
  have el : comp = cL := Option.some.inj (u1.symm.trans r1.2)
  subst el
  obtain ⟨kL, hkL, -⟩ := Vm.findClass_spec u1
  obtain ⟨v1, v2, v3⟩ := r32_in (hR.2.2 a (by omega)).2.2.1 h2 h3
  have hlt : (Int32.ofInt i).toNatClampNeg < S.N a := Nat.not_le.mp fun q => v2 (Or.inr q)
  have hbA := (hR.2.2 a (by omega)).1
  refine W.aast C.1 C.2.1 q2 (fun q e => by cases e) (fun e => by cases e) u3 u4 rfl (kcomp := kL) hkL ⟨fun q => v2 (Or.inl q), by show _ < (arrV _ _ _).slots.size; rw [arrV_size]; exact hlt⟩ r2 (fun q e => by cases e) (kv := kL) hkL (Jvm.Free.SB.assignable_self _ _) rfl rfl hd fun H1 e z oq => ?_
  refine g3 (by exact C) (leM.tr c1 hle) c2 c3 (hR.put z oq rfl rfl rfl ot_setR (fun _ => ⟨fun h7 => ?_, fun _ => ⟨c2', ?_, ?_⟩⟩)) (hs.put' z oq hbA) hl
  · have h7 : S.K a < 12 := h7
    omega
  · show ArrOfT _ c2' (ety (S.K a)) ∧ va_RA _ c2' (ety (S.K a))
    rw [h1]; exact q1
  · rw [e, arr_q (S := S.setR a i.toNat (some b)) (a := a) (show 17 ≤ S.K a by omega), vp_cell_q, vp_cell_q, arrV_store]
    refine congrArg some (congrArg (arrV c2' (S.N a)) (funext fun q => ?_))
    show updV _ _ _ q = va_rf (up2 S.R a i.toNat (some b) a q)
    rw [v3]
    by_cases hq : q = i.toNat
    · subst hq
      simp [updV, up2, up1, va_rf]
    · simp [updV, up2, up1, hq]
theorem j_copy {idx a b : Nat} {sp dp n : Int} {P : Prop} (hw : Cond.methodLink own idx arraycopyName ∈ TB) (hw2 : Cond.native arraycopyName ∈ TB) (hw3 : Cond.static arraycopyName ∈ TB) (hw4 : Cond.initialized "java/lang/System" ∈ TB) (hcat : (st.map fun v => v.category).sum ≤ 8) (hd : decode cc pc = .ok (.invokestatic idx, 3))
    (h : (S.K a = 13 ∧ S.K b = 13 ∧ (0 ≤ sp ∧ 0 ≤ dp ∧ 0 ≤ n) ∧ sp + n ≤ S.N a ∧ dp + n ≤ S.N b) ∧ P) (k : P → Jw Fz own cc nL ret hh y (d + 1) S0 (S.cpy a sp.toNat b dp.toNat n.toNat) (pc + 3) lv st Q) : Jw Fz own cc nL ret hh y (d + 1) S0 S pc lv (vI n :: vI dp :: vA b :: vI sp :: vA a :: st) Q := by
  obtain ⟨⟨h1, h2, ⟨h3, h4, h5⟩, h6, h7⟩, h8⟩ := h
  obtain ⟨o, S', g1, g2, g3⟩ := k h8
  have hle : leM S (S.cpy a sp.toNat b dp.toNat n.toNat) := ⟨Nat.le_refl _, Nat.le_refl _, rfl⟩
  refine ⟨o, S', g1, leM.tr hle g2, fun C c1 c2 c3 hR hs hl => ?_⟩
  have hts := C.2.2.2.2.1
  have hf := C.2.2.2.2.2.2.2.2.2.2.2.2.2.1
  have hlo := C.2.2.2.2.2.2.2.2.2.2.2.2.2.2
  obtain ⟨cA, q1, q2⟩ := hR.arr (a := a) (by omega) (by omega)
  obtain ⟨cB, r1, r2⟩ := hR.arr (a := b) (by omega) (by omega)
  have na := (hR.2.2 a (by omega)).2.2.1
  have nb := (hR.2.2 b (by omega)).2.2.1
  have hbB := (hR.2.2 b (by omega)).1
  rw [arr_i (by omega) (by omega)] at q2 r2
  rw [h1] at q1
  rw [h2] at r1
  have rs : R32 sp := ⟨by omega, by omega⟩
  have rd : R32 dp := ⟨by omega, by omega⟩
  have rn : R32 n := ⟨by omega, by omega⟩
  have hneg : ∀ {x : Int}, R32 x → 0 ≤ x → ¬ Int32.ofInt x < 0 := fun hr h0 q => by
    have := (r32_lt hr r32_0).mp q
    omega
  have hnw : nativeFrameWords "java/lang/System" "arraycopy" 5 + 11 ≤ 40 := by decide
  refine w_copy C.1 C.2.1 (by rw [C.2.2.1]; exact hl.1.symm) C.2.2.2.1 (hts _ hw) (hts _ hw2) (hts _ hw3) (hts _ hw4) q2 r2 q1.1 r1.1 (hneg rs h3) (hneg rd h4) (hneg rn h5) (by rw [r32_cl rs, r32_cl rn]; omega) (by rw [r32_cl rd, r32_cl rn]; omega) (by omega) (by omega) hd fun H1 locs1 z oq e hlc => ?_
  refine g3 (by exact C) (leM.tr c1 hle) c2 c3 (hR.put z oq rfl rfl rfl ot_cpy (fun _ => ⟨fun h9 => ?_, fun _ => ⟨cB, ?_, ?_⟩⟩)) ⟨by rw [z]; exact hs.1, fun q w1 w2 => ?_, fun x hx => ?_⟩ hl
  · have h9 : S.K b < 12 := h9
    omega
  · show ArrOfT _ cB (ety (S.K b)) ∧ va_RA _ cB (ety (S.K b))
    rw [h2]; exact r1
  · rw [e, arr_i (S := S.cpy a sp.toNat b dp.toNat n.toNat) (a := b) (show S.K b < 17 by omega) (show S.K b ≠ 14 by omega), r32_cl rs, r32_cl rd, r32_cl rn]
    refine congrArg some (congrArg (vp_cell cB) ?_)
    refine Prod.ext rfl (congrArg Sum.inl (funext fun q => ?_))
    show va_cpy _ _ _ _ _ q = Int32.ofInt (up1 S.I b (fun j => if dp.toNat ≤ j ∧ j < dp.toNat + n.toNat then S.I a (sp.toNat + (j - dp.toNat)) else S.I b j) b q)
    rw [up1_eq]
    by_cases hq : dp.toNat ≤ q ∧ q < dp.toNat + n.toNat
    · rw [pk_cpy_in hq.1 hq.2, if_pos hq]
    · rw [pk_cpy_out (by omega), if_neg hq]
  · rw [oq q (fun e9 => w2 (by rw [e9]; exact hbB))]
    exact hs.2.1 q w1 w2
  · rcases hlc x hx with q | q
    · exact hs.2.2 x q
    · rw [q]; exact hbB
end JG
