/-! numbers: an int is told by an Int, a long by 64 bits, a reference by an address or none -/
abbrev vI (x : Int) : Value := .int (Int32.ofInt x)
abbrev vL (x : BitVec 64) : Value := .long (Int64.ofBitVec x)
abbrev vA (a : Nat) : Value := .ref a
def B01 (x : Int) : Prop := x = 0 ∨ x = 1
def R32 (x : Int) : Prop := -2147483648 ≤ x ∧ x < 2147483648
theorem r32_to {x : Int} (h : R32 x) : (Int32.ofInt x).toInt = x := Int32.toInt_ofInt_of_le (by have := h.1; omega) (by have := h.2; omega)
theorem r32_lt {x y : Int} (hx : R32 x) (hy : R32 y) : Int32.ofInt x < Int32.ofInt y ↔ x < y := by
  rw [Int32.lt_iff_toInt_lt, r32_to hx, r32_to hy]
theorem r32_le {x y : Int} (hx : R32 x) (hy : R32 y) : Int32.ofInt x ≤ Int32.ofInt y ↔ x ≤ y := by
  rw [Int32.le_iff_toInt_le, r32_to hx, r32_to hy]
theorem r32_eq {x y : Int} (hx : R32 x) (hy : R32 y) : Int32.ofInt x = Int32.ofInt y ↔ x = y := by
  rw [← Int32.toInt_inj, r32_to hx, r32_to hy]
theorem r32_0 : R32 0 := ⟨by decide, by decide⟩
theorem i32_0 : Int32.ofInt 0 = 0 := rfl
theorem r32_cl {x : Int} (h : R32 x) : (Int32.ofInt x).toNatClampNeg = x.toNat := Int32.toNatClampNeg_ofInt_of_le (by have := h.1; omega) (by have := h.2; omega)
/-- an index of a row of n places -/
theorem r32_in {x : Int} {n : Nat} (hn : n < 2147483648) (h0 : 0 ≤ x) (h1 : x < n) : R32 x ∧ vp_in (Int32.ofInt x) n ∧ (Int32.ofInt x).toNatClampNeg = x.toNat := by
  have hr : R32 x := ⟨by omega, by omega⟩
  refine ⟨hr, ?_, r32_cl hr⟩
  rw [vp_in_iff, r32_to hr]
  exact ⟨h0, h1⟩
/-! the words of the tables that every method may use -/
def TB : List Cond := lw_tbl.filter goodWord
theorem inTB {w : Cond} (h : w ∈ lw_tbl) (g : goodWord w = true) : w ∈ TB := List.mem_filter.mpr ⟨h, g⟩
theorem tbTB {w : Cond} (h : w ∈ TB) : w ∈ lw_tbl ∧ goodWord w = true := List.mem_filter.mp h
theorem gTB {h0 : Cond} {L : List Cond} (h : ∀ w ∈ L, w ∈ TB) : GoodIn (h0 :: TB) L := fun w hw => ⟨List.mem_cons_of_mem _ (h w hw), good_of_word (tbTB (h w hw)).2⟩
theorem gTB' {L : List Cond} (h : ∀ w ∈ L, w ∈ TB) : GoodIn TB L := fun w hw => ⟨h w hw, good_of_word (tbTB (h w hw)).2⟩
/-! THE STATE: kinds, lengths, ints, longs, references, the String constants' addresses, the next address, the slots used -/
def MS : Type := (Nat → Nat) × (Nat → Nat) × (Nat → Nat → Int) × (Nat → Nat → BitVec 64) × (Nat → Nat → Option Nat) × (Nat → Nat) × Nat × Nat
def MS.K (S : MS) : Nat → Nat := S.1
def MS.N (S : MS) : Nat → Nat := S.2.1
def MS.I (S : MS) : Nat → Nat → Int := S.2.2.1
def MS.J (S : MS) : Nat → Nat → BitVec 64 := S.2.2.2.1
def MS.R (S : MS) : Nat → Nat → Option Nat := S.2.2.2.2.1
def MS.T (S : MS) : Nat → Nat := S.2.2.2.2.2.1
def MS.nx (S : MS) : Nat := S.2.2.2.2.2.2.1
def MS.us (S : MS) : Nat := S.2.2.2.2.2.2.2
def up1 {α : Type} (f : Nat → α) (a : Nat) (v : α) : Nat → α := fun x => if x = a then v else f x
def up2 {α : Type} (f : Nat → Nat → α) (a k : Nat) (v : α) : Nat → Nat → α := fun x => if x = a then up1 (f a) k v else f x
theorem up1_eq {α : Type} {f : Nat → α} {a : Nat} {v : α} : up1 f a v a = v := by simp [up1]
theorem up1_ne {α : Type} {f : Nat → α} {a b : Nat} {v : α} (h : b ≠ a) : up1 f a v b = f b := by simp [up1, h]
theorem up2_eq {α : Type} {f : Nat → Nat → α} {a k : Nat} {v : α} : up2 f a k v a = up1 (f a) k v := by simp [up2]
theorem up2_ne {α : Type} {f : Nat → Nat → α} {a b k : Nat} {v : α} (h : b ≠ a) : up2 f a k v b = f b := by simp [up2, h]
def MS.setI (S : MS) (a k : Nat) (v : Int) : MS := (S.1, S.2.1, up2 S.I a k v, S.2.2.2)
def MS.setJ (S : MS) (a k : Nat) (v : BitVec 64) : MS := (S.1, S.2.1, S.2.2.1, up2 S.J a k v, S.2.2.2.2)
def MS.setR (S : MS) (a k : Nat) (v : Option Nat) : MS := (S.1, S.2.1, S.2.2.1, S.2.2.2.1, up2 S.R a k v, S.2.2.2.2.2)
/-- a new thing of kind k with n places: its address is the next one -/
def MS.mk (S : MS) (k n : Nat) : MS := (up1 S.K S.nx k, up1 S.N S.nx n, up1 S.I S.nx (fun _ => 0), up1 S.J S.nx (fun _ => 0#64), up1 S.R S.nx (fun _ => none), S.T, S.nx + 1, S.us + n)
/-- a thing that nobody looks at -/
def MS.junk (S : MS) (n : Nat) : MS := (up1 S.K S.nx 99, S.N, S.I, S.J, S.R, S.T, S.nx + 1, S.us + n)
/-- which fields hold numbers (true) and which references, by the classes' numbers -/
def ftI : Nat → List Bool := fun c => match c with
  | 0 => [true, true, true, false, false, false, false, false, false]
  | 1 => [false]
  | 2 => [true, false, true, true, true, true, false, false, false]
  | 3 => [true]
  | 4 => [false, false, true, true, true, true]
  | 5 => [true, false, false, true]
  | 6 => [false, true]
  | 7 => [false, false, false, false, false, false, false, true, true, true, true]
  | 8 => [false, true]
  | 9 => [true, true, true]
  | 10 => [false, false, false, false, false, false, false, false, false, false, false, false, true, true, true]
  | _ => [true, false, false, false, true, false, true, true, true, true, true, false, false, true, true, false, false, false, false, false, true, false, false, true, false, true, true, true, false, false, true, false, false, true, true, true, false, true, true]
/-- the places of an object -/
def MS.fl (S : MS) (a : Nat) : List Value := (ftI (S.K a)).mapIdx (fun k t => if t then vI (S.I a k) else va_rf (S.R a k))
def ety : Nat → FieldType := fun k => match k with
  | 12 => .byte
  | 13 => .int
  | 14 => .long
  | 15 => .short
  | 16 => .boolean
  | 17 => .object "MiddleScale$AllRows"
  | 18 => .object "MiddleScale$Layings"
  | 19 => .object "MiddleScale$RowSet"
  | _ => .array .long
/-- an array's contents -/
def MS.arr (S : MS) (a : Nat) : vp_A := if S.K a = 14 then (S.N a, .inr (.inl (fun j => Int64.ofBitVec (S.J a j)))) else if S.K a < 17 then (S.N a, .inl (fun j => Int32.ofInt (S.I a j))) else (S.N a, .inr (.inr (.inr (.inr (S.R a)))))
def AtE (D : va_G) (U : State) (S : MS) (a : Nat) (H : Heap) : Prop := (S.K a < 12 → va_at D vwCl (a, .inr (S.K a, S.fl a)) H) ∧ (12 ≤ S.K a → ∃ cA, (ArrOfT U cA (ety (S.K a)) ∧ va_RA U cA (ety (S.K a))) ∧ H[a]? = some (vp_cell cA (S.arr a)))
def Rep (D : va_G) (b0 : Nat) (S : MS) (U : State) (H : Heap) : Prop := H.size = S.nx ∧ b0 ≤ S.nx ∧ ∀ a, S.K a < 21 → b0 ≤ a ∧ a < S.nx ∧ S.N a < 2147483648 ∧ AtE D U S a H
theorem Rep.moved {D : va_G} {b0 : Nat} {S : MS} {u U : State} {H : Heap} (hvm : u.vm.Alike U.vm) (h : Rep D b0 S u H) : Rep D b0 S U H := by
  refine ⟨h.1, h.2.1, fun a ha => ?_⟩
  obtain ⟨h1, h2, h3, h4, h5⟩ := h.2.2 a ha
  refine ⟨h1, h2, h3, h4, fun h6 => ?_⟩
  obtain ⟨cA, ⟨q1, q2⟩, q3⟩ := h5 h6
  exact ⟨cA, ⟨arrOfT_moved hvm q1, q2.moved hvm⟩, q3⟩
/-- what a change at one address leaves of the others -/
theorem Rep.put {D : va_G} {b0 : Nat} {S S1 : MS} {U : State} {H H1 : Heap} {a : Nat} (h : Rep D b0 S U H) (hz : H1.size = H.size) (ho : ∀ q, q ≠ a → H1[q]? = H[q]?) (hk : S1.K = S.K) (hn : S1.N = S.N) (hx : S1.nx = S.nx)
    (he : ∀ q, q ≠ a → S1.fl q = S.fl q ∧ S1.arr q = S.arr q) (ha : S.K a < 21 → AtE D U S1 a H1) : Rep D b0 S1 U H1 := by
  refine ⟨by rw [hz, hx]; exact h.1, by rw [hx]; exact h.2.1, fun q hq => ?_⟩
  rw [hk] at hq
  obtain ⟨h1, h2, h3, h4⟩ := h.2.2 q hq
  rw [hx, hn]
  refine ⟨h1, h2, h3, ?_⟩
  by_cases e : q = a
  · subst e
    exact ha hq
  · obtain ⟨e1, e2⟩ := he q e
    unfold AtE
    rw [hk, e1, e2, ho q e]
    refine ⟨fun h6 => (h4.1 h6).kept (ho q e), h4.2⟩
/-! what is known of the machine beside the state: words that are not of TB, the String constants, two statics of Throwable's -/
def Wf (b0 : Nat) (T : Nat → Nat) (U : State) : Prop :=
  (∀ q ∈ nestW, va_Nw (.methodLinkNest q.1 q.2.1 q.2.2.1 q.2.2.2) U) ∧ (∀ q ∈ castW, va_Nw (.castable q.1 q.2) U) ∧ (∀ q ∈ ncW, va_Nc q.1 q.2 U) ∧
  vx_Zq Bundle.tN "UNASSIGNED_STACK" Bundle.steD (fun q => b0 ≤ q) U U.heap ∧ vx_Zq Bundle.tN "SUPPRESSED_SENTINEL" Bundle.listD (fun q => b0 ≤ q) U U.heap ∧
  (∀ q ∈ msgW, ∃ a, vk_R q.1 q.2.1 q.2.2 a U) ∧ (∀ q ∈ wordW, vk_R q.1 q.2.1 q.2.2.1 (T q.2.2.2) U) ∧
  vk_S strN lenJS bytJS T (fun i => T (8 + i)) (fun q => b0 ≤ q) U U.heap ∧ (va_Z "java/lang/String" "COMPACT_STRINGS" "Z" (.int 1) (fun q => b0 ≤ q) U U.heap ∧ va_Zq "jdk/internal/util/Preconditions" "SIOOBE_FORMATTER" "Ljava/util/function/BiFunction;" (fun q => b0 ≤ q) U U.heap) ∧
  (∀ C ∈ aoW, va_AO C U) ∧ (∀ x ∈ declW, va_Nw (.declares x) U) ∧ (Cond.arrayOver (.array .long)).before #[] U = true ∧ (va_X (T 16) (T 17) (fun j => Int32.ofNat (T (18 + j))) U U.heap ∧ T 16 < b0 ∧ T 16 < U.heap.size)
theorem Wf.next {b0 : Nat} {T : Nat → Nat} {s U : State} (h : Wf b0 T s) (hW : s.WarmedH U.vm) (hz : s.heap.size ≤ U.heap.size) (hq : ∀ q : Nat, q < s.heap.size → ¬ b0 ≤ q → U.heap[q]? = s.heap[q]?) : Wf b0 T U := by
  obtain ⟨h1, h2, h3, h4, h5, h9, h6, h7, h8, h10, h15, h11, h12, h13, h14⟩ := h
  exact ⟨fun q hm => va_Nw.warmM hW (h1 q hm), fun q hm => va_Nw.warmC hW (h2 q hm), fun q hm => va_Nc.moved hW.alike (h3 q hm), vx_Zq.kept (vx_Zq.moved hW.alike h4) hq, vx_Zq.kept (vx_Zq.moved hW.alike h5) hq,
    fun q hm => ⟨(h9 q hm).choose, vk_R.warm hW (h9 q hm).choose_spec⟩, fun q hm => vk_R.warm hW (h6 q hm), vk_S.kept (vk_S.moved hW.alike h7) hq, ⟨va_Z.kept (va_Z.moved hW.alike h8.1) hq, va_Zq.kept (va_Zq.moved hW.alike h8.2) hq⟩, fun C hm => (h10 C hm).moved hW.alike, fun x hm => va_Nw.warmD hW (h15 x hm), over_moved hW.alike h11, (va_X.moved hW.alike h12).kept (hq _ h14 (by omega)), h13, Nat.lt_of_lt_of_le h14 hz⟩
/-- an outcome: an answer (or none), or the class that is thrown -/
abbrev Out : Type := Option Value ⊕ String
def leM (S S' : MS) : Prop := S.nx ≤ S'.nx ∧ S.us ≤ S'.us ∧ S'.T = S.T
theorem leM.rf {S : MS} : leM S S := ⟨Nat.le_refl _, Nat.le_refl _, rfl⟩
theorem leM.tr {S S1 S2 : MS} (h : leM S S1) (k : leM S1 S2) : leM S S2 := ⟨Nat.le_trans h.1 k.1, Nat.le_trans h.2.1 k.2.1, k.2.2.trans h.2.2⟩
def rmOf (d : Nat) (S S' : MS) : Room := { frames := d, cells := S'.nx - S.nx, slots := S'.us - S.us, locals := 64 * d }
def Pq (av : List Value) (S : MS) (D : va_G) (b0 : Nat) : Array Value → State → Prop := va_Pc av (fun U => b0 ≤ U.heap.size ∧ Rep D b0 S U U.heap ∧ va_K D vwCl [] U ∧ Wf b0 S.T U)
def Qq (o : Out) (S' : MS) (D : va_G) (b0 : Nat) : Array Value → State → Outcome → State → Prop := fun _ st oc t => (∃ v, o = .inl v ∧ oc = .returned v ∧ Rep D b0 S' t t.heap) ∧ va_F (fun q => b0 ≤ q) st t
def Xq (o : Out) (S' : MS) (D : va_G) (b0 : Nat) : String → State → State → Prop := fun E st t => o = .inr E ∧ Rep D b0 S' t t.heap ∧ va_F (fun q => b0 ≤ q) st t
/-- THE METHOD y on the arguments av in the state S: it comes to an end of Q, with at most d frames above its own -/
def Mw (hd : Cond) (y : MethodName) (d : Nat) (av : List Value) (S : MS) (Q : Out → MS → Prop) : Prop :=
  ∃ (o : Out) (S' : MS), Q o S' ∧ leM S S' ∧ ∀ (l : Launch), l.stackTraces = false → ∀ (D : va_G) (b0 : Nat), vx_Met l y (hd :: TB) (rmOf d S S') (Pq av S D b0) (Qq o S' D b0) (Xq o S' D b0) (S'.nx - S.nx) (S'.us - S.us) (fun q => b0 ≤ q)
theorem Mw.mono {hd : Cond} {y : MethodName} {d : Nat} {av : List Value} {S : MS} {Q Q' : Out → MS → Prop} (h : Mw hd y d av S Q) (k : ∀ o S', Q o S' → Q' o S') : Mw hd y d av S Q' := by
  obtain ⟨o, S', h1, h2, h3⟩ := h
  exact ⟨o, S', k o S' h1, h2, h3⟩
abbrev FinT : Type := Out → MS → va_G → Nat → List Frame → Array Value → State → Nat → Nat → State → Prop
def FinM : FinT := fun o S' D b0 below args s mc ms => vx_MQ below (Qq o S' D b0) (Xq o S' D b0) args s mc ms (fun q => b0 ≤ q)
/-- what stands through a body -/
def Cx (own : String) (cc : ByteArray) (nL : Nat) (ret : Option FieldType) (hh : List (Nat × Nat × Nat × Nat)) (y : MethodName) (d : Nat) (T : Nat → Nat) (b0 : Nat) (D : va_G) (p : Program) (l : Launch) (R : Room) (s : State) (m : MethodId) (args : Array Value) (meth : Method) (c : Code) : Prop :=
  p.tables.exec = Jvm.exec ∧ c.code = cc ∧ c.maxLocals = nL ∧ s.vm.findClass own = some m.cls ∧ (∀ w ∈ TB, w.before args s = true) ∧ meth.sig.returnType = ret ∧ meth.locks = false ∧ c.exceptionTable.toList = tableOf hh ∧ va_K D vwCl [] s ∧ l.stackTraces = false ∧ b0 ≤ s.heap.size ∧ Wf b0 T s ∧ meth.name = y.name ∧ d ≤ R.frames ∧ 64 * d ≤ R.locals
def Jw (Fz : FinT) (own : String) (cc : ByteArray) (nL : Nat) (ret : Option FieldType) (hh : List (Nat × Nat × Nat × Nat)) (y : MethodName) (d : Nat) (S0 S : MS) (pc : Nat) (lv : List (Nat × Value)) (st : List Value) (Q : Out → MS → Prop) : Prop :=
  ∃ (o : Out) (S' : MS), Q o S' ∧ leM S S' ∧ ∀ {p : Program} {l : Launch} {e : Env} {R : Room} {s : State} {m : MethodId} {args : Array Value} {below : List Frame} {meth : Method} {c : Code} {D : va_G} {b0 : Nat} {H : Heap} {locs : List Loc} {ls : Array Slot},
    Cx own cc nL ret hh y d S.T b0 D p l R s m args meth c → leM S0 S → S'.nx - S0.nx ≤ R.cells → S'.us - S0.us ≤ R.slots → Rep D b0 S s H → va_S (fun q => b0 ≤ q) s.heap H locs → lv_has ls nL lv →
    W p l e R s m args below meth c H locs (S.nx - S0.nx) (S.us - S0.us) (Fz o S' D b0 below args s (S'.nx - S0.nx) (S'.us - S0.us)) (F0 m pc ls st)
section JL
variable {Fz : FinT} {own : String} {cc : ByteArray} {nL : Nat} {ret : Option FieldType} {hh : List (Nat × Nat × Nat × Nat)} {y : MethodName} {d : Nat} {S0 S : MS} {pc : Nat} {lv : List (Nat × Value)} {st : List Value} {Q : Out → MS → Prop}
theorem Jw.mono {Q' : Out → MS → Prop} (h : Jw Fz own cc nL ret hh y d S0 S pc lv st Q) (k : ∀ o S', Q o S' → Q' o S') : Jw Fz own cc nL ret hh y d S0 S pc lv st Q' := by
  obtain ⟨o, S', h1, h2, h3⟩ := h
  exact ⟨o, S', k o S' h1, h2, h3⟩
/-- an instruction of the frame alone -/
theorem j_step {pc2 : Nat} {st2 : List Value} (h : ∀ {p : Program} {l : Launch} {e : Env} {R : Room} {s : State} {m : MethodId} {args : Array Value} {below : List Frame} {meth : Method} {c : Code} {H : Heap} {locs : List Loc} {ls : Array Slot} {k n : Nat} {Qs : State → Prop},
      p.tables.exec = Jvm.exec → c.code = cc → s.vm.findClass own = some m.cls → (∀ w ∈ TB, w.before args s = true) → lv_has ls nL lv → W p l e R s m args below meth c H locs k n Qs (F0 m pc2 ls st2) → W p l e R s m args below meth c H locs k n Qs (F0 m pc ls st))
    (k : Jw Fz own cc nL ret hh y d S0 S pc2 lv st2 Q) : Jw Fz own cc nL ret hh y d S0 S pc lv st Q := by
  obtain ⟨o, S', h1, h2, h3⟩ := k
  refine ⟨o, S', h1, h2, fun C c1 c2 c3 hr hs hl => ?_⟩
  exact h C.1 C.2.1 C.2.2.2.1 C.2.2.2.2.1 hl (h3 C c1 c2 c3 hr hs hl)
/-- an instruction of the frame that changes the locals -/
theorem j_stepL {pc2 : Nat} {lv2 : List (Nat × Value)} {st2 : List Value} (h : ∀ {p : Program} {l : Launch} {e : Env} {R : Room} {s : State} {m : MethodId} {args : Array Value} {below : List Frame} {meth : Method} {c : Code} {H : Heap} {locs : List Loc} {ls : Array Slot} {k n : Nat} {Qs : State → Prop},
      p.tables.exec = Jvm.exec → c.code = cc → lv_has ls nL lv → (∀ ls2 : Array Slot, lv_has ls2 nL lv2 → W p l e R s m args below meth c H locs k n Qs (F0 m pc2 ls2 st2)) → W p l e R s m args below meth c H locs k n Qs (F0 m pc ls st))
    (k : Jw Fz own cc nL ret hh y d S0 S pc2 lv2 st2 Q) : Jw Fz own cc nL ret hh y d S0 S pc lv st Q := by
  obtain ⟨o, S', h1, h2, h3⟩ := k
  refine ⟨o, S', h1, h2, fun C c1 c2 c3 hr hs hl => ?_⟩
  exact h C.1 C.2.1 hl (fun ls2 hl2 => h3 C c1 c2 c3 hr hs hl2)
/-- fewer locals -/
theorem j_sub (ks : List Nat) {lv2 : List (Nat × Value)} (hk : lv_pick lv ks = lv2) (k : Jw Fz own cc nL ret hh y d S0 S pc lv2 st Q) : Jw Fz own cc nL ret hh y d S0 S pc lv st Q := by
  obtain ⟨o, S', h1, h2, h3⟩ := k
  exact ⟨o, S', h1, h2, fun C c1 c2 c3 hr hs hl => h3 C c1 c2 c3 hr hs (lv_sub hl ks hk)⟩
theorem j_iconst {n : Int} (hd : decode cc pc = .ok (.iconst n, 1)) (k : Jw Fz own cc nL ret hh y d S0 S (pc + 1) lv (vI n :: st) Q) : Jw Fz own cc nL ret hh y d S0 S pc lv st Q :=
  j_step (fun hx hb _ _ _ w => lv_iconst hx hb hd rfl w) k
theorem j_bipush {n : Int} (hd : decode cc pc = .ok (.bipush n, 2)) (hn : (Int8.ofInt n).toInt32 = Int32.ofInt n) (k : Jw Fz own cc nL ret hh y d S0 S (pc + 2) lv (vI n :: st) Q) : Jw Fz own cc nL ret hh y d S0 S pc lv st Q :=
  j_step (fun hx hb _ _ _ w => lv_bipush hx hb hd hn w) k
theorem j_sipush {n : Int} (hd : decode cc pc = .ok (.sipush n, 3)) (hn : (Int16.ofInt n).toInt32 = Int32.ofInt n) (k : Jw Fz own cc nL ret hh y d S0 S (pc + 3) lv (vI n :: st) Q) : Jw Fz own cc nL ret hh y d S0 S pc lv st Q :=
  j_step (fun hx hb _ _ _ w => lv_sipush hx hb hd hn w) k
theorem j_lconst {n : Fin 2} {v : BitVec 64} (hd : decode cc pc = .ok (.lconst n, 1)) (hn : Int64.ofNat (n : Nat) = Int64.ofBitVec v) (k : Jw Fz own cc nL ret hh y d S0 S (pc + 1) lv (vL v :: st) Q) : Jw Fz own cc nL ret hh y d S0 S pc lv st Q :=
  j_step (fun hx hb _ _ _ w => lv_lconst hx hb hd hn w) k
theorem j_iload_n {i : Fin 4} (j : Nat) {x : Int} (hd : decode cc pc = .ok (.iload_n i, 1)) (hl : lv[j]? = some ((i : Nat), vI x)) (k : Jw Fz own cc nL ret hh y d S0 S (pc + 1) lv (vI x :: st) Q) : Jw Fz own cc nL ret hh y d S0 S pc lv st Q :=
  j_step (fun hx hb _ _ h w => lv_iload_n hx hb hd rfl (lv_at h j hl) w) k
theorem j_iload {i : Nat} (j : Nat) {x : Int} (hd : decode cc pc = .ok (.iload i, 2)) (hl : lv[j]? = some (i, vI x)) (k : Jw Fz own cc nL ret hh y d S0 S (pc + 2) lv (vI x :: st) Q) : Jw Fz own cc nL ret hh y d S0 S pc lv st Q :=
  j_step (fun hx hb _ _ h w => lv_iload hx hb hd (lv_at h j hl) w) k
theorem j_lload_n {i : Fin 4} (j : Nat) {x : BitVec 64} (hd : decode cc pc = .ok (.lload_n i, 1)) (hl : lv[j]? = some ((i : Nat), vL x)) (k : Jw Fz own cc nL ret hh y d S0 S (pc + 1) lv (vL x :: st) Q) : Jw Fz own cc nL ret hh y d S0 S pc lv st Q :=
  j_step (fun hx hb _ _ h w => lv_lload_n hx hb hd rfl (lv_at h j hl) w) k
theorem j_lload {i : Nat} (j : Nat) {x : BitVec 64} (hd : decode cc pc = .ok (.lload i, 2)) (hl : lv[j]? = some (i, vL x)) (k : Jw Fz own cc nL ret hh y d S0 S (pc + 2) lv (vL x :: st) Q) : Jw Fz own cc nL ret hh y d S0 S pc lv st Q :=
  j_step (fun hx hb _ _ h w => lv_lload hx hb hd (lv_at h j hl) w) k
theorem j_aload_n {i : Fin 4} (j : Nat) {x : Nat} (hd : decode cc pc = .ok (.aload_n i, 1)) (hl : lv[j]? = some ((i : Nat), vA x)) (k : Jw Fz own cc nL ret hh y d S0 S (pc + 1) lv (vA x :: st) Q) : Jw Fz own cc nL ret hh y d S0 S pc lv st Q :=
  j_step (fun hx hb _ _ h w => lv_aload_n hx hb hd rfl (lv_at h j hl) w) k
theorem j_aload {i : Nat} (j : Nat) {x : Nat} (hd : decode cc pc = .ok (.aload i, 2)) (hl : lv[j]? = some (i, vA x)) (k : Jw Fz own cc nL ret hh y d S0 S (pc + 2) lv (vA x :: st) Q) : Jw Fz own cc nL ret hh y d S0 S pc lv st Q :=
  j_step (fun hx hb _ _ h w => lv_aload hx hb hd (lv_at h j hl) w) k
theorem j_istore_n {i : Fin 4} {x : Int} {lv2 : List (Nat × Value)} (hd : decode cc pc = .ok (.istore_n i, 1)) (hn : (i : Nat) < nL) (hl : ((i : Nat), vI x) :: lv.filter (fun q => !(q.1 == (i : Nat)) && !(q.1 + 1 == (i : Nat) && q.2.category == 2)) = lv2) (k : Jw Fz own cc nL ret hh y d S0 S (pc + 1) lv2 st Q) : Jw Fz own cc nL ret hh y d S0 S pc lv (vI x :: st) Q :=
  j_stepL (fun hx hb h w => lv_istore_n hx hb hd rfl h hn hl w) k
theorem j_istore {i : Nat} {x : Int} {lv2 : List (Nat × Value)} (hd : decode cc pc = .ok (.istore i, 2)) (hn : i < nL) (hl : (i, vI x) :: lv.filter (fun q => !(q.1 == i) && !(q.1 + 1 == i && q.2.category == 2)) = lv2) (k : Jw Fz own cc nL ret hh y d S0 S (pc + 2) lv2 st Q) : Jw Fz own cc nL ret hh y d S0 S pc lv (vI x :: st) Q :=
  j_stepL (fun hx hb h w => lv_istore hx hb hd h hn hl w) k
theorem j_lstore_n {i : Fin 4} {x : BitVec 64} {lv2 : List (Nat × Value)} (hd : decode cc pc = .ok (.lstore_n i, 1)) (hn : (i : Nat) + 1 < nL) (hl : ((i : Nat), vL x) :: lv.filter (fun q => !(q.1 == (i : Nat)) && (!(q.1 == (i : Nat) + 1) && !(q.1 + 1 == (i : Nat) && q.2.category == 2))) = lv2) (k : Jw Fz own cc nL ret hh y d S0 S (pc + 1) lv2 st Q) : Jw Fz own cc nL ret hh y d S0 S pc lv (vL x :: st) Q :=
  j_stepL (fun hx hb h w => lv_lstore_n hx hb hd rfl h hn hl w) k
theorem j_lstore {i : Nat} {x : BitVec 64} {lv2 : List (Nat × Value)} (hd : decode cc pc = .ok (.lstore i, 2)) (hn : i + 1 < nL) (hl : (i, vL x) :: lv.filter (fun q => !(q.1 == i) && (!(q.1 == i + 1) && !(q.1 + 1 == i && q.2.category == 2))) = lv2) (k : Jw Fz own cc nL ret hh y d S0 S (pc + 2) lv2 st Q) : Jw Fz own cc nL ret hh y d S0 S pc lv (vL x :: st) Q :=
  j_stepL (fun hx hb h w => lv_lstore hx hb hd h hn hl w) k
theorem j_astore_n {i : Fin 4} {x : Nat} {lv2 : List (Nat × Value)} (hd : decode cc pc = .ok (.astore_n i, 1)) (hn : (i : Nat) < nL) (hl : ((i : Nat), vA x) :: lv.filter (fun q => !(q.1 == (i : Nat)) && !(q.1 + 1 == (i : Nat) && q.2.category == 2)) = lv2) (k : Jw Fz own cc nL ret hh y d S0 S (pc + 1) lv2 st Q) : Jw Fz own cc nL ret hh y d S0 S pc lv (vA x :: st) Q :=
  j_stepL (fun hx hb h w => lv_astore_n hx hb hd rfl h hn hl w) k
theorem j_astore {i : Nat} {x : Nat} {lv2 : List (Nat × Value)} (hd : decode cc pc = .ok (.astore i, 2)) (hn : i < nL) (hl : (i, vA x) :: lv.filter (fun q => !(q.1 == i) && !(q.1 + 1 == i && q.2.category == 2)) = lv2) (k : Jw Fz own cc nL ret hh y d S0 S (pc + 2) lv2 st Q) : Jw Fz own cc nL ret hh y d S0 S pc lv (vA x :: st) Q :=
  j_stepL (fun hx hb h w => lv_astore hx hb hd h hn hl w) k
theorem j_iinc {i : Nat} (j : Nat) {n x : Int} {lv2 : List (Nat × Value)} (hd : decode cc pc = .ok (.iinc i n, 3)) (hj : lv[j]? = some (i, vI x)) (hn : i < nL) (hl : (i, vI (x + n)) :: lv.filter (fun q => !(q.1 == i) && !(q.1 + 1 == i && q.2.category == 2)) = lv2) (k : Jw Fz own cc nL ret hh y d S0 S (pc + 3) lv2 st Q) : Jw Fz own cc nL ret hh y d S0 S pc lv st Q :=
  j_stepL (fun hx hb h w => lv_iinc hx hb hd h hj (by rw [Int32.ofInt_add]) hn hl w) k
theorem j_iadd {x z : Int} (hd : decode cc pc = .ok (.iadd, 1)) (k : Jw Fz own cc nL ret hh y d S0 S (pc + 1) lv (vI (x + z) :: st) Q) : Jw Fz own cc nL ret hh y d S0 S pc lv (vI z :: vI x :: st) Q :=
  j_step (fun hx hb _ _ _ w => lv_iadd hx hb hd (by rw [← Int32.ofInt_add]; exact w)) k
theorem j_isub {x z : Int} (hd : decode cc pc = .ok (.isub, 1)) (k : Jw Fz own cc nL ret hh y d S0 S (pc + 1) lv (vI (x - z) :: st) Q) : Jw Fz own cc nL ret hh y d S0 S pc lv (vI z :: vI x :: st) Q :=
  j_step (fun hx hb _ _ _ w => lv_isub hx hb hd (by rw [← Int32.ofInt_sub]; exact w)) k
theorem j_imul {x z : Int} (hd : decode cc pc = .ok (.imul, 1)) (k : Jw Fz own cc nL ret hh y d S0 S (pc + 1) lv (vI (x * z) :: st) Q) : Jw Fz own cc nL ret hh y d S0 S pc lv (vI z :: vI x :: st) Q :=
  j_step (fun hx hb _ _ _ w => lv_imul hx hb hd (by rw [← Int32.ofInt_mul]; exact w)) k
theorem j_goto {off : Int} {tgt : Nat} (hd : decode cc pc = .ok (.goto off, 3)) (ht : (pc : Int) + off = (tgt : Int)) (k : Jw Fz own cc nL ret hh y d S0 S tgt lv st Q) : Jw Fz own cc nL ret hh y d S0 S pc lv st Q :=
  j_step (fun hx hb _ _ _ w => lv_goto hx hb hd ht w) k
theorem j_dup {v : Value} (hc : v.category = 1) (hd : decode cc pc = .ok (.dup, 1)) (k : Jw Fz own cc nL ret hh y d S0 S (pc + 1) lv (v :: v :: st) Q) : Jw Fz own cc nL ret hh y d S0 S pc lv (v :: st) Q :=
  j_step (fun hx hb _ _ _ w => lv_dup hx hb hd hc w) k
end JL
