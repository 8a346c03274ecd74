/-! the machine at the start -/
theorem i32_back (x : Int32) : Int32.ofNat x.toBitVec.toNat = x := by
  apply Int32.toBitVec_inj.mp
  show BitVec.ofNat 32 x.toBitVec.toNat = x.toBitVec
  rw [BitVec.ofNat_toNat]
  exact BitVec.setWidth_eq _
theorem str1 {args : Array Value} {s : State} (hn : ∀ w ∈ nrw, w.before args s = true) {i : Nat} (hi : i < 8) : ∃ q : Nat × Nat, (tmR i).eval args s none [] s = some (.ref q.1) ∧ va_O "java/lang/String" q.1 (fun a => s.heap.size ≤ a) s s.heap ∧ va_OF "java/lang/String" "coder" "B" (.int 0) q.1 (fun a => s.heap.size ≤ a) s s.heap ∧ va_OF "java/lang/String" "value" "[B" (.ref q.2) q.1 (fun a => s.heap.size ≤ a) s s.heap ∧ va_T .byte q.2 (lenJS.getD i 0) (fun j => .int ((bytJS.getD i []).getD j 0)) (fun a => s.heap.size ≤ a) s s.heap := by
  obtain ⟨adK, adV, h, hv⟩ := vk_Sof (args := args) (s := s) (N := 1) (tm := fun _ => tmR i) (len := [lenJS.getD i 0]) (byt := [bytJS.getD i []]) (A := fun a => s.heap.size ≤ a)
    (fun j hj => by cases Nat.lt_one_iff.mp hj; exact (len_lt i hi i hi).1) (fun j hj => hn _ (sn_ex i hi)) (fun j hj => hn _ (sn_co i hi)) (fun j hj => hn _ (sn_ar i hi)) (fun j hj => by cases Nat.lt_one_iff.mp hj; exact hn _ (sn_le i hi)) (fun j hj k hk => by cases Nat.lt_one_iff.mp hj; exact hn _ (sn_el i hi k hk)) (fun j k hj hk hne => absurd (show j = k by omega) hne) (fun a ha => Nat.not_le.mpr ha)
  exact ⟨(adK 0, adV 0), hv 0 (by decide), h.1 0 (by decide)⟩
theorem str_ne {s : State} {i j a v v' : Nat} (hi : i < 8) (hj : j < 8) (h : va_OF "java/lang/String" "value" "[B" (.ref v) a (fun a => s.heap.size ≤ a) s s.heap) (h' : va_OF "java/lang/String" "value" "[B" (.ref v') a (fun a => s.heap.size ≤ a) s s.heap) (t : va_T .byte v (lenJS.getD i 0) (fun j => .int ((bytJS.getD i []).getD j 0)) (fun a => s.heap.size ≤ a) s s.heap) (t' : va_T .byte v' (lenJS.getD j 0) (fun k => .int ((bytJS.getD j []).getD k 0)) (fun a => s.heap.size ≤ a) s s.heap) : i = j := by
  obtain ⟨cf, k, n, f, cell, e1, -, e2, -, e3, -⟩ := h
  obtain ⟨cf', k', n', f', cell', e1', -, e2', -, e3', -⟩ := h'
  rw [e1] at e1'
  cases e1'
  rw [e2] at e2'
  cases e2'
  rw [e3] at e3'
  cases e3'
  obtain ⟨c, a1, -, -, -, a2, a3, -⟩ := t
  obtain ⟨c', b1, -, -, -, b2, b3, -⟩ := t'
  rw [a1] at b1
  cases b1
  by_cases e : i = j
  · exact e
  · exfalso
    have el := (len_lt i hi j hj).2 (a2.symm.trans b2)
    obtain ⟨k, k1, k2⟩ := byt_ne i hi j hj e el
    have x1 := a3 k k1
    have x2 := b3 k (by rw [← el]; exact k1)
    rw [x1] at x2
    have x3 := Option.some.inj x2
    injection x3 with x4
    exact k2 x4
theorem wf_start {b L : Nat} {xs : Nat → Int32} {s : State} {args : Array Value} (hts : ∀ w ∈ lw_tbl, w.before args s = true) (hgv : (Jvm.Cond.and given_1 narrow_1).before args s = true) (hX : va_X b L xs s s.heap) (hbl : b < s.heap.size) : ∃ T : Nat → Nat, Wf s.heap.size T s ∧ T 16 = b ∧ T 17 = L := by
  have hn : ∀ w ∈ nrw, w.before args s = true := flat_of_before _ hgv
  have h0 : ∀ i : Nat, ∃ q : Nat × Nat, i < 8 → (tmR i).eval args s none [] s = some (.ref q.1) ∧ va_O "java/lang/String" q.1 (fun a => s.heap.size ≤ a) s s.heap ∧ va_OF "java/lang/String" "coder" "B" (.int 0) q.1 (fun a => s.heap.size ≤ a) s s.heap ∧ va_OF "java/lang/String" "value" "[B" (.ref q.2) q.1 (fun a => s.heap.size ≤ a) s s.heap ∧ va_T .byte q.2 (lenJS.getD i 0) (fun j => .int ((bytJS.getD i []).getD j 0)) (fun a => s.heap.size ≤ a) s s.heap := by
    intro i
    by_cases hi : i < 8
    · obtain ⟨q, h⟩ := str1 hn hi
      exact ⟨q, fun _ => h⟩
    · exact ⟨(0, 0), fun h => absurd h hi⟩
  obtain ⟨ad, had⟩ := Classical.axiomOfChoice h0
  have hA : ∀ a : Nat, a < s.heap.size → ¬ (s.heap.size ≤ a) := fun a ha => Nat.not_le.mpr ha
  refine ⟨fun i => if i < 8 then (ad i).1 else if i < 16 then (ad (i - 8)).2 else if i = 16 then b else if i = 17 then L else (xs (i - 18)).toBitVec.toNat, ?_, rfl, rfl⟩
  have e1 : ∀ i, i < 8 → (if i < 8 then (ad i).1 else if i < 16 then (ad (i - 8)).2 else if i = 16 then b else if i = 17 then L else (xs (i - 18)).toBitVec.toNat) = (ad i).1 := fun i hi => if_pos hi
  have e2 : ∀ i, i < 8 → (if 8 + i < 8 then (ad (8 + i)).1 else if 8 + i < 16 then (ad (8 + i - 8)).2 else if 8 + i = 16 then b else if 8 + i = 17 then L else (xs (8 + i - 18)).toBitVec.toNat) = (ad i).2 := fun i hi => by
    rw [if_neg (by omega), if_pos (by omega), show 8 + i - 8 = i by omega]
  refine ⟨fun q hq => va_Nw.of rfl (hts _ (st_nest q hq)), fun q hq => va_Nw.of rfl (hts _ (st_cast q hq)), fun q hq => va_Nc.of (hn _ (sn_nc q hq)), vx_Zqof (hts _ st_cs.2.2.1) (hts _ st_cs.2.2.2.2) (hn _ sn_us) hA, vx_Zqof (hts _ st_cs.2.2.2.1) (hts _ st_cs.2.2.2.2) (hn _ sn_ss) hA, fun q hq => ?_, fun q hq => ?_, ?_, ⟨va_Zof (hts _ st_cs.1) (hts _ st_cs.2.1) (va_eqt (hn _ sn_cs)) hA, va_Zqof (hts _ st_fm.1) (hts _ st_fm.2) (hn _ sn_fm) hA⟩, fun C hC => va_AO.of (hts _ (st_ao C hC)), fun x hx => va_Nw.of rfl (hts _ (st_decl x hx)), hts _ st_arr, ?_, hbl, hbl⟩
  · obtain ⟨a, c, cA, kA, q1, -⟩ := Cond.exactly_spec (args := args) (first := s) (o := none) (s := s) (idx := []) (hn _ (sn_msg q hq))
    exact ⟨a, vk_R.of (hts _ (st_msg q hq)) q1⟩
  · obtain ⟨h8, hw⟩ := word_ok q hq
    have hv := (had _ h8).1
    refine vk_R.of (hts _ (st_word q hq)) ?_
    show _ = some (Value.ref (if q.2.2.2 < 8 then _ else _))
    rw [e1 _ h8]
    rcases hw with ⟨w1, w2⟩ | ⟨w1, w2⟩
    · rw [w1, w2]
      exact hv
    · rw [w1, w2]
      exact va_eqR (hn _ (sn_eq _ h8)) hv
  · refine ⟨fun i hi => ?_, fun i j hi hj e => ?_⟩
    · have hi' : i < 8 := hi
      have := (had i hi').2
      dsimp only
      rw [e1 i hi', e2 i hi']
      exact this
    · have hi' : i < 8 := hi
      have hj' : j < 8 := hj
      dsimp only at e
      rw [e1 i hi', e1 j hj'] at e
      have hi2 := (had i hi').2.2.2
      have hj2 := (had j hj').2.2.2
      rw [e] at hi2
      exact str_ne hi' hj' hi2.1 hj2.1 hi2.2 hj2.2
  · have : (fun j => Int32.ofNat (if 18 + j < 8 then (ad (18 + j)).1 else if 18 + j < 16 then (ad (18 + j - 8)).2 else if 18 + j = 16 then b else if 18 + j = 17 then L else (xs (18 + j - 18)).toBitVec.toNat)) = xs := by
      funext j
      rw [if_neg (by omega), if_neg (by omega), if_neg (by omega), if_neg (by omega), show 18 + j - 18 = j by omega]
      exact i32_back _
    show va_X b L (fun j => Int32.ofNat (if 18 + j < 8 then (ad (18 + j)).1 else if 18 + j < 16 then (ad (18 + j - 8)).2 else if 18 + j = 16 then b else if 18 + j = 17 then L else (xs (18 + j - 18)).toBitVec.toNat)) s s.heap
    rw [this]
    exact hX
theorem vk_start {s : State} {args : Array Value} (hts : ∀ w ∈ lw_tbl, w.before args s = true) : ∃ D : va_G, va_K D vwCl [] s := by
  have h0 : ∀ k : Nat, ∃ d : ClassId × (Nat → Nat), ∀ q, vwCl[k]? = some q → u_Kn s q.1 q.2.1 q.2.2 d.1 d.2 := by
    intro k
    cases hq : vwCl[k]? with
    | none => exact ⟨(0, fun _ => 0), fun q h => by cases h⟩
    | some q =>
      have hm := st_cl q (List.mem_of_getElem? hq)
      obtain ⟨cC, iS, h⟩ := u_known (ws := lw_tbl) (s := s) (args := args) hts hm.1 (hts _ hm.2)
      exact ⟨(cC, iS), fun q' h' => by cases h'; exact h⟩
  obtain ⟨f, hf⟩ := Classical.axiomOfChoice h0
  exact ⟨(fun k => (f k).1, fun k => (f k).2), fun k q hq => hf k q hq, fun k q h => by simp at h⟩
/-- from the entry the law comes to its end with true -/
theorem whole_start {p : Program} {e : Env} {s : State} {m : MethodId} {below : List Frame} {meth : Method} {c : Code} (l : Launch) (hl : l.stackTraces = false) {b L : Nat} {xs : Nat → Int32} (hL : L ≤ 3072) (hexec : p.tables.exec = Jvm.exec) (hcode : c.code = code) (hret : meth.sig.returnType = ret) (hml : c.maxLocals = 7) (hown : s.vm.findClass RL = some m.cls) (hts : ∀ w ∈ lw_tbl, w.before #[Value.ref b] s = true) (hX : va_X b L xs s s.heap) (hbl : b < s.heap.size) (hlocks : meth.locks = false) (hgv : (Jvm.Cond.and given_1 narrow_1).before #[Value.ref b] s = true) (htab : c.exceptionTable.toList = []) (hname : meth.name = "law") : W p l e room_1 s m #[Value.ref b] below meth c s.heap [] 0 0 (lx_Z below #[Value.ref b] s) (entryFrame m ([Value.ref b] : List Value).toArray 7) := by
  obtain ⟨T, hW, h16, h17⟩ := wf_start hts hgv hX hbl
  obtain ⟨D, hK⟩ := vk_start hts
  have hV : VL_law_0 45 (fun o S' => S'.nx ≤ s.heap.size + 6000 ∧ S'.us ≤ 0 + 800000) b ((fun _ => 99, fun _ => 0, fun _ _ => 0, fun _ _ => 0#64, fun _ _ => none, T, s.heap.size, 0) : MS) := law_start (L := L) (Nat.le_refl _) h16.symm h17 hL (fun S' h1 h2 => ⟨h1, h2⟩)
  obtain ⟨o, S', hQ, hle, key⟩ := JL_law_0 (S0 := ((fun _ => 99, fun _ => 0, fun _ _ => 0, fun _ _ => 0#64, fun _ _ => none, T, s.heap.size, 0) : MS)) b _ hV
  have hl0 : lv_has _ 7 [(0, vA b)] := lv_entry ([.ref b]) (n := 7) (Nat.le_of_ble_eq_true rfl)
  have b1 : S'.nx - s.heap.size ≤ 6000 := by have := hQ.1; omega
  have b2 : S'.us - 0 ≤ 800000 := by have := hQ.2; omega
  have w := key (p := p) (l := l) (e := e) (R := room_1) (s := s) (m := m) (args := #[Value.ref b]) (below := below) (meth := meth) (c := c) (D := D) (b0 := s.heap.size) (H := s.heap) (locs := []) (ls := _)
    ⟨hexec, hcode, hml, hown, fun w hw => hts w (tbTB hw).1, hret, hlocks, htab, hK, hl, Nat.le_refl _, hW, hname, by decide, by decide⟩
    leM.rf (Nat.le_trans b1 (show 6000 ≤ room_1.cells by decide)) (Nat.le_trans b2 (show 800000 ≤ room_1.slots by decide)) ⟨rfl, Nat.le_refl _, fun a ha => absurd ha (by show ¬ (99 < 21); decide)⟩ va_S.rf hl0
  rw [lg_entry_eq]
  intro U hU X
  have w' := w
  rw [Nat.sub_self, Nat.sub_self] at w'
  obtain ⟨t, a1, b3⟩ := w' U hU X
  exact ⟨t, a1, b3 ⟨Nat.le_trans b1 (by decide), Nat.le_trans b2 (by decide), rfl⟩⟩
