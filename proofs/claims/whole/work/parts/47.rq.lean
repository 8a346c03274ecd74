/-! the reference's questions -/
theorem bc_all : ∀ x : Nat, x < 128 → (iAnd (((iAnd (((iAnd ((x : Int) - (iAnd (iUshr (x : Int) 1) 1431655765)) 858993459) + (iAnd (iUshr ((x : Int) - (iAnd (iUshr (x : Int) 1) 1431655765)) 2) 858993459)) + (iUshr ((iAnd ((x : Int) - (iAnd (iUshr (x : Int) 1) 1431655765)) 858993459) + (iAnd (iUshr ((x : Int) - (iAnd (iUshr (x : Int) 1) 1431655765)) 2) 858993459)) 4)) 252645135) + (iUshr (iAnd (((iAnd ((x : Int) - (iAnd (iUshr (x : Int) 1) 1431655765)) 858993459) + (iAnd (iUshr ((x : Int) - (iAnd (iUshr (x : Int) 1) 1431655765)) 2) 858993459)) + (iUshr ((iAnd ((x : Int) - (iAnd (iUshr (x : Int) 1) 1431655765)) 858993459) + (iAnd (iUshr ((x : Int) - (iAnd (iUshr (x : Int) 1) 1431655765)) 2) 858993459)) 4)) 252645135) 8)) + (iUshr ((iAnd (((iAnd ((x : Int) - (iAnd (iUshr (x : Int) 1) 1431655765)) 858993459) + (iAnd (iUshr ((x : Int) - (iAnd (iUshr (x : Int) 1) 1431655765)) 2) 858993459)) + (iUshr ((iAnd ((x : Int) - (iAnd (iUshr (x : Int) 1) 1431655765)) 858993459) + (iAnd (iUshr ((x : Int) - (iAnd (iUshr (x : Int) 1) 1431655765)) 2) 858993459)) 4)) 252645135) + (iUshr (iAnd (((iAnd ((x : Int) - (iAnd (iUshr (x : Int) 1) 1431655765)) 858993459) + (iAnd (iUshr ((x : Int) - (iAnd (iUshr (x : Int) 1) 1431655765)) 2) 858993459)) + (iUshr ((iAnd ((x : Int) - (iAnd (iUshr (x : Int) 1) 1431655765)) 858993459) + (iAnd (iUshr ((x : Int) - (iAnd (iUshr (x : Int) 1) 1431655765)) 2) 858993459)) 4)) 252645135) 8)) 16)) 63) = ((pc x : Nat) : Int) := by decide +kernel
theorem c_bitCount {d x : Nat} {S : MS} {Q : Out → MS → Prop} {v : Int} (hd : 1 ≤ d) (e : v = (x : Int)) (hx : x < 128) (h : Q (.inl (some (vI ((pc x : Nat) : Int)))) S) : Mw hJ6_bitCount_0f7a4 yJ6_bitCount_0f7a4 d [vI v] S Q := by
  subst e
  obtain ⟨dd, rfl⟩ : ∃ e, d = e + 1 := ⟨d - 1, by omega⟩
  refine MJ6_bitCount_0f7a4 ?_
  unfold VJ6_bitCount_0f7a4_0
  rw [bc_all x hx]
  exact h

theorem pc_le (x : Nat) : pc x ≤ 7 := cntB_le _ 7
theorem iShr_0 {x : Int} {n : Nat} (hx : R32 x) (h3 : 3 ≤ n) (h7 : n ≤ 7) : R32 (iShr x (n : Int)) ∧ (iShr x (n : Int) = 0 ↔ 0 ≤ x ∧ x < ((2 ^ n : Nat) : Int)) := by
  have e : iShr x (n : Int) = x / ((2 ^ n : Nat) : Int) := by
    unfold iShr
    rw [q_n n]
    show ((Int32.ofInt x) >>> (nI n &&& 31)).toBitVec.toInt = _
    rw [Int32.toBitVec_shiftRight]
    show ((Int32.ofInt x).toBitVec.sshiftRight ((nI n &&& 31).toBitVec.smod 32).toNat).toInt = _
    rw [q_sl n (by omega), BitVec.toInt_sshiftRight]
    have : (Int32.ofInt x).toBitVec.toInt = x := r32_to hx
    rw [this, Int.shiftRight_eq_div_pow]
  rw [e]
  obtain ⟨h1, h2⟩ := hx
  have h : n = 3 ∨ n = 4 ∨ n = 5 ∨ n = 6 ∨ n = 7 := by omega
  rcases h with rfl | rfl | rfl | rfl | rfl <;> (unfold R32; simp only [Nat.reducePow, Int.cast_ofNat_Int]; omega)
def IsSet (n k : Nat) (x : Int) : Prop := 0 ≤ x ∧ x < ((2 ^ n : Nat) : Int) ∧ pc x.toNat = k
theorem IsSet.n {n k : Nat} {x : Int} (h : IsSet n k x) : x = (x.toNat : Int) ∧ x.toNat < 2 ^ n ∧ pc x.toNat = k := by
  obtain ⟨h1, h2, h3⟩ := h
  exact ⟨by omega, by omega, h3⟩
theorem c_isNoThree {d m n : Nat} {S : MS} {Q : Out → MS → Prop} {x : Int} (hd : 2 ≤ d) (hL : RLay S m) (hg : GW n (S.I (m+1))) (hx : R32 x) (h : ∀ q, BI q (¬ IsSet n 3 x) → Q (.inl (some (vI q))) S) : Mw hX11_isNoThree yX11_isNoThree d [vA m, vI x] S Q := by
  obtain ⟨⟨h3, h7, h0⟩, -⟩ := hg
  have p7 := p2_7 h7
  obtain ⟨dd, rfl⟩ : ∃ e, d = e + 1 := ⟨d - 1, by omega⟩
  refine MX11_isNoThree ?_
  have hl := hL
  unfold RLay at hl
  unfold VX11_isNoThree_0
  simp only [hl, sI_K, sI_N, sI_R, sI_J, Option.some.injEq, exists_eq_left', true_and, and_true, Int.toNat_zero, Int.reduceToNat, Int.reduceLT, Int.reduceLE, Int.cast_ofNat_Int, forall_eq, ge_iff_le, Int.reduceNeg, Int.reduceAdd, Int.reduceSub, Int.reduceMul, Int.reduceEq, r32_0, r32_1, r32_m1, b01_0, b01_1, not_true_eq_false, not_false_eq_true, false_implies, true_implies, implies_true, forall_const]
  refine c_things (by omega) hL (oI_i ?_)
  rw [h0]
  obtain ⟨r1, r2⟩ := iShr_0 hx h3 h7
  unfold VX11_isNoThree_17
  refine ⟨r1, fun c => ⟨b01_1, h _ (.y (fun k => c (r2.mpr ⟨k.1, k.2.1⟩)))⟩, fun c => ?_⟩
  have c' := r2.mp c
  refine c_bitCount (x := x.toNat) (by omega) (by omega) (by omega) (oI_i ?_)
  have := pc_le x.toNat
  refine ⟨⟨(by unfold R32; omega), (by unfold R32; omega)⟩, fun c2 => h _ (.n (fun k => k ⟨c'.1, c'.2, by omega⟩)), fun c2 => ⟨b01_1, h _ (.y (fun k => c2 (by have := k.2.2; omega)))⟩⟩
theorem pansK_le (k : Nat) : 2 ≤ pansK k ∧ pansK k ≤ 4 := by
  unfold pansK
  split
  · decide
  · split <;> decide
theorem c_isNoSet {d m n i : Nat} {S : MS} {Q : Out → MS → Prop} {x y : Int} (hd : 3 ≤ d) (hL : RLay S m) (hg : GW n (S.I (m+1))) (e : y = (i : Int)) (hi : i < sN (S.I (m+1))) (hx : R32 x) (h : ∀ q, BI q (¬ IsSet n (pansK (kd (S.I (m+1)) i)) x) → Q (.inl (some (vI q))) S) : Mw hX11_isNoSet yX11_isNoSet d [vA m, vI y, vI x] S Q := by
  obtain ⟨⟨h3, h7, h0⟩, g1, g2, -, -, g5, g6⟩ := hg
  have p7 := p2_7 h7
  have b := g5 i hi
  obtain ⟨dd, rfl⟩ : ∃ e, d = e + 1 := ⟨d - 1, by omega⟩
  refine MX11_isNoSet ?_
  have hl := hL
  unfold RLay at hl
  unfold VX11_isNoSet_0
  simp only [hl, sI_K, sI_N, sI_R, sI_J, Option.some.injEq, exists_eq_left', true_and, and_true, Int.toNat_zero, Int.reduceToNat, Int.reduceLT, Int.reduceLE, Int.cast_ofNat_Int, forall_eq, ge_iff_le, Int.reduceNeg, Int.reduceAdd, Int.reduceSub, Int.reduceMul, Int.reduceEq, r32_0, r32_1, r32_m1, b01_0, b01_1, not_true_eq_false, not_false_eq_true, false_implies, true_implies, implies_true, forall_const]
  refine c_things (by omega) hL (oI_i ?_)
  rw [h0]
  obtain ⟨r1, r2⟩ := iShr_0 hx h3 h7
  unfold VX11_isNoSet_21
  refine ⟨r1, fun c => ⟨b01_1, h _ (.y (fun k => c (r2.mpr ⟨k.1, k.2.1⟩)))⟩, fun c => ?_⟩
  have c' := r2.mp c
  refine c_bitCount (x := x.toNat) (by omega) (by omega) (by omega) (oI_i ⟨hL.1, c_pans (i := i) (k := kd (S.I (m+1)) i) (by omega) hL e (by omega) b.1.1 b.1.2 (oI_i ?_)⟩)
  have := pc_le x.toNat
  have hpk := pansK_le (kd (S.I (m+1)) i)
  refine ⟨⟨(by unfold R32; omega), (by unfold R32; omega)⟩, fun c2 => h _ (.n (fun k => k ⟨c'.1, c'.2, by omega⟩)), fun c2 => ⟨b01_1, h _ (.y (fun k => c2 (by have := k.2.2; omega)))⟩⟩
theorem f_placeOf {d m n r t : Nat} {S : MS} {Q : Out → MS → Prop} (hd : 1 ≤ d) (hL : RLay S m) (h3 : 3 ≤ n) (h7 : n ≤ 7) (hT : Tb S m n) (hr : r < fct n) (ht : t < n) : ∀ (j : Nat) {k : Nat}, k + j = n → k ≤ plc n r t → fnd (rat n r) t j k = plc n r t → Q (.inl (some (vI (plc n r t : Nat)))) S → VX11_placeOf_2 d Q (j + 1) m (r : Nat) (t : Nat) (k : Nat) S := by
  have hp := plc_lt h3 h7 hr ht
  have hf := fct_le h3 h7
  intro j
  induction j with
  | zero =>
    intro k hk h1 h2 h
    omega
  | succ j ih =>
    intro k hk h1 h2 h
    unfold VX11_placeOf_2
    refine ⟨hL.1, c_at (r := r) (p := k) hd hL rfl rfl (by omega) (oI_i ?_)⟩
    rw [hT.2.2 r hr k (by omega)]
    have := rat_lt h3 h7 hr (show k < n by omega)
    unfold fnd at h2
    refine ⟨⟨(by unfold R32; omega), (by unfold R32; omega)⟩, fun c => ?_, fun c => ?_⟩
    · rw [if_pos (by omega)] at h2
      rw [h2]
      exact h
    · rw [if_neg (by omega)] at h2
      refine ih (k := k + 1) (by omega) ?_ h2 h
      rcases Nat.lt_or_ge k (plc n r t) with g | g
      · omega
      · have e : k = plc n r t := by omega
        rw [e, rat_plc h3 h7 hr ht] at c
        omega
theorem c_placeOf {d m n r t : Nat} {S : MS} {Q : Out → MS → Prop} {x1 x2 : Int} (hd : 2 ≤ d) (hL : RLay S m) (h3 : 3 ≤ n) (h7 : n ≤ 7) (hT : Tb S m n) (e1 : x1 = (r : Int)) (e2 : x2 = (t : Int)) (hr : r < fct n) (ht : t < n) (h : Q (.inl (some (vI (plc n r t : Nat)))) S) : Mw hX11_placeOf yX11_placeOf d [vA m, vI x1, vI x2] S Q := by
  subst e1 e2
  obtain ⟨dd, rfl⟩ : ∃ e, d = e + 1 := ⟨d - 1, by omega⟩
  refine MX11_placeOf ?_
  unfold VX11_placeOf_0
  exact ⟨_, f_placeOf (by omega) hL h3 h7 hT hr ht n (k := 0) (by omega) (by omega) rfl h⟩
/-- one row is another from behind -/
def Mir (n a b : Nat) : Prop := ∀ k, k < n → rat n a k = rat n b (n - 1 - k)
theorem f_areMirrors {d m n a b : Nat} {S : MS} {Q : Out → MS → Prop} (hd : 1 ≤ d) (hL : RLay S m) (h3 : 3 ≤ n) (h7 : n ≤ 7) (hT : Tb S m n) (ha : a < fct n) (hb : b < fct n) (h : ∀ q, BI q (Mir n a b) → Q (.inl (some (vI q))) S) : ∀ (j : Nat) {k : Nat} {q : Int}, k + j = n → BI q (∀ i, i < k → rat n a i = rat n b (n - 1 - i)) → VX11_areMirrors_5 d Q (j + 1) m (a : Nat) (b : Nat) q (k : Nat) S := by
  have hf := fct_le h3 h7
  intro j
  induction j with
  | zero =>
    intro k q hk hq
    have hl := hL
    unfold RLay at hl
    unfold VX11_areMirrors_5
    simp only [hl, sI_K, sI_N, sI_R, sI_J, Option.some.injEq, exists_eq_left', true_and, and_true, Int.toNat_zero, Int.reduceToNat, Int.reduceLT, Int.reduceLE, Int.cast_ofNat_Int, forall_eq, ge_iff_le, Int.reduceNeg, Int.reduceAdd, Int.reduceSub, Int.reduceMul, Int.reduceEq, r32_0, r32_1, r32_m1, b01_0, b01_1, not_true_eq_false, not_false_eq_true, false_implies, true_implies, implies_true, forall_const]
    rw [hT.1]
    rw [show k = n by omega] at hq
    exact ⟨⟨(by unfold R32; omega), (by unfold R32; omega)⟩, fun _ => ⟨hq.b, h q hq⟩, fun c => by omega⟩
  | succ j ih =>
    intro k q hk hq
    have hl := hL
    unfold RLay at hl
    unfold VX11_areMirrors_5 VX11_areMirrors_46 VX11_areMirrors_47
    simp only [hl, sI_K, sI_N, sI_R, sI_J, Option.some.injEq, exists_eq_left', true_and, and_true, Int.toNat_zero, Int.reduceToNat, Int.reduceLT, Int.reduceLE, Int.cast_ofNat_Int, forall_eq, ge_iff_le, Int.reduceNeg, Int.reduceAdd, Int.reduceSub, Int.reduceMul, Int.reduceEq, r32_0, r32_1, r32_m1, b01_0, b01_1, not_true_eq_false, not_false_eq_true, false_implies, true_implies, implies_true, forall_const]
    rw [hT.1]
    refine ⟨⟨(by unfold R32; omega), (by unfold R32; omega)⟩, fun _ => by omega, fun c => ⟨hq.r, fun c2 => ih (k := k + 1) (by omega) (.n (fun g => ?_)), fun c2 => ?_⟩⟩
    · rcases hq with ⟨rfl, -⟩ | ⟨rfl, hq⟩
      · omega
      · exact hq (fun i hi => g i (by omega))
    · have hq' : ∀ i, i < k → rat n a i = rat n b (n - 1 - i) := by
        rcases hq with ⟨-, hq⟩ | ⟨rfl, -⟩
        · exact hq
        · omega
      refine c_at (r := a) (p := k) hd hL rfl rfl (by omega) (oI_i ?_)
      simp only [hl, sI_K, sI_N, sI_R, sI_J, Option.some.injEq, exists_eq_left', true_and, and_true, Int.toNat_zero, Int.reduceToNat, Int.reduceLT, Int.reduceLE, Int.cast_ofNat_Int, forall_eq, ge_iff_le, Int.reduceNeg, Int.reduceAdd, Int.reduceSub, Int.reduceMul, Int.reduceEq, r32_0, r32_1, r32_m1, b01_0, b01_1, not_true_eq_false, not_false_eq_true, false_implies, true_implies, implies_true, forall_const]
      rw [hT.1]
      refine c_at (r := b) (p := n - 1 - k) hd hL rfl (by omega) (by omega) (oI_i ?_)
      rw [hT.2.2 a ha k (by omega), hT.2.2 b hb _ (by omega)]
      have q1 := rat_lt h3 h7 ha (show k < n by omega)
      have q2 := rat_lt h3 h7 hb (show n - 1 - k < n by omega)
      refine ⟨⟨(by unfold R32; omega), (by unfold R32; omega)⟩, fun c3 => ih (k := k + 1) (by omega) (.n (fun g => c3 (by rw [g k (by omega)]))), fun c3 => ih (k := k + 1) (by omega) (.y (fun i hi => ?_))⟩
      rcases Nat.lt_or_ge i k with g | g
      · exact hq' i g
      · rw [show i = k by omega]
        omega
theorem c_areMirrors {d m n a b : Nat} {S : MS} {Q : Out → MS → Prop} {x1 x2 : Int} (hd : 2 ≤ d) (hL : RLay S m) (h3 : 3 ≤ n) (h7 : n ≤ 7) (hT : Tb S m n) (e1 : x1 = (a : Int)) (e2 : x2 = (b : Int)) (ha : a < fct n) (hb : b < fct n) (h : ∀ q, BI q (Mir n a b) → Q (.inl (some (vI q))) S) : Mw hX11_areMirrors yX11_areMirrors d [vA m, vI x1, vI x2] S Q := by
  subst e1 e2
  obtain ⟨dd, rfl⟩ : ∃ e, d = e + 1 := ⟨d - 1, by omega⟩
  refine MX11_areMirrors ?_
  unfold VX11_areMirrors_0
  exact ⟨_, f_areMirrors (by omega) hL h3 h7 hT ha hb h n (k := 0) (by omega) (.y (fun i hi => absurd hi (Nat.not_lt_zero i)))⟩
/-- a list of rows tells all -/
def Known (n : Nat) (L : List Nat) : Prop := L.length = 1 ∨ (L.length = 2 ∧ Mir n (L.getD 0 0) (L.getD 1 0))
theorem getD_mem {L : List Nat} {k : Nat} (h : k < L.length) : L.getD k 0 ∈ L := by
  rw [List.getD_eq_getElem?_getD, List.getElem?_eq_getElem h]
  exact List.getElem_mem h
theorem c_isKnown {d m n l : Nat} {L : List Nat} {S : MS} {Q : Out → MS → Prop} {x : Int} (hd : 3 ≤ d) (hL : RLay S m) (h3 : 3 ≤ n) (h7 : n ≤ 7) (hT : Tb S m n) (e : x = (l : Int)) (hl36 : l < 36) (hK : KL S m l L) (hrow : ∀ r ∈ L, r < fct n) (hlen : L.length ≤ 5040) (h : ∀ q, BI q (Known n L) → Q (.inl (some (vI q))) S) : Mw hX11_isKnown yX11_isKnown d [vA m, vI x] S Q := by
  subst e
  obtain ⟨dd, rfl⟩ : ∃ e, d = e + 1 := ⟨d - 1, by omega⟩
  refine MX11_isKnown ?_
  have hl := hL
  unfold RLay at hl
  unfold VX11_isKnown_0
  simp only [hl, sI_K, sI_N, sI_R, sI_J, Option.some.injEq, exists_eq_left', true_and, and_true, Int.toNat_zero, Int.reduceToNat, Int.reduceLT, Int.reduceLE, Int.cast_ofNat_Int, forall_eq, ge_iff_le, Int.reduceNeg, Int.reduceAdd, Int.reduceSub, Int.reduceMul, Int.reduceEq, r32_0, r32_1, r32_m1, b01_0, b01_1, not_true_eq_false, not_false_eq_true, false_implies, true_implies, implies_true, forall_const]
  rw [Int.toNat_natCast, hK.1]
  unfold VX11_isKnown_39
  refine ⟨by omega, (by unfold R32; omega), fun c => ⟨b01_1, h _ (.y (Or.inl (by omega)))⟩, fun c => ⟨by omega, ⟨(by unfold R32; omega), (by unfold R32; omega)⟩, fun c2 => h _ (.n (fun k => ?_)), fun c2 => ?_⟩⟩
  · rcases k with k | k <;> omega
  · refine c_rowAt (r := l) (p := 0) (by omega) hL rfl rfl (by omega) (oI_i ⟨hL.1, c_rowAt (r := l) (p := 1) (by omega) hL rfl rfl (by omega) (oI_i ⟨hL.1, ?_⟩)⟩)
    rw [hK.2 0 (by omega), hK.2 1 (by omega)]
    refine c_areMirrors (n := n) (a := L.getD 0 0) (b := L.getD 1 0) (by omega) hL h3 h7 hT rfl rfl (hrow _ (getD_mem (by omega))) (hrow _ (getD_mem (by omega))) (fun q hq => oI_i ⟨hq.r, fun c3 => h _ (.n (fun k => ?_)), fun c3 => ⟨b01_1, h _ (.y (Or.inr ⟨by omega, ?_⟩))⟩⟩)
    · rcases hq with ⟨rfl, hq⟩ | ⟨rfl, hq⟩
      · omega
      · rcases k with k | k
        · omega
        · exact hq k.2
    · rcases hq with ⟨-, hq⟩ | ⟨rfl, -⟩
      · exact hq
      · omega
/-! folds over a list of rows -/
theorem take_s {L : List Nat} {k : Nat} (h : k < L.length) : L.take (k + 1) = L.take k ++ [L.getD k 0] := by
  rw [List.take_succ, List.getD_eq_getElem?_getD, List.getElem?_eq_getElem h]
  rfl
theorem any_s {L : List Nat} {k : Nat} (h : k < L.length) (q : Nat → Bool) : (L.take (k + 1)).any q = ((L.take k).any q || q (L.getD k 0)) := by
  rw [take_s h, List.any_append]
  simp
theorem all_s {L : List Nat} {k : Nat} (h : k < L.length) (q : Nat → Bool) : (L.take (k + 1)).all q = ((L.take k).all q && q (L.getD k 0)) := by
  rw [take_s h, List.all_append]
  simp
def ct (q : Nat → Bool) (L : List Nat) : Nat := (L.filter q).length
theorem ct_s {L : List Nat} {k : Nat} (h : k < L.length) (q : Nat → Bool) : ct q (L.take (k + 1)) = ct q (L.take k) + (if q (L.getD k 0) then 1 else 0) := by
  unfold ct
  rw [take_s h, List.filter_append, List.length_append]
  congr 1
  simp only [List.filter_cons, List.filter_nil]
  split <;> rfl
theorem ct_le (q : Nat → Bool) (L : List Nat) : ct q L ≤ L.length := List.length_filter_le q L
theorem ct_take_le (q : Nat → Bool) (L : List Nat) (k : Nat) : ct q (L.take k) ≤ L.length := by
  have h1 := ct_le q (L.take k)
  have h2 := List.length_take_le' k L
  omega
def mskL (g : Nat → Nat) (L : List Nat) : Nat := mskN (fun t => L.any (fun r => decide (g r = t))) 7
theorem mskL_s {g : Nat → Nat} {L : List Nat} {k : Nat} (h : k < L.length) (hg : g (L.getD k 0) < 7) : mskL g (L.take (k + 1)) = mskL g (L.take k) ||| 2 ^ g (L.getD k 0) := by
  unfold mskL
  rw [mskN_or _ hg]
  refine mskN_cong (fun t _ => ?_)
  rw [any_s h]
  congr 1
  simp only [eq_comm]
theorem mskL_lt (g : Nat → Nat) (L : List Nat) : mskL g L < 128 := mskN_lt _ 7
theorem mskL_0 (g : Nat → Nat) : mskL g [] = 0 := by
  unfold mskL
  exact mskN_no
/-- the reference with the rows left at hand -/
def RD (S : MS) (m n : Nat) (w : Nat → Int) (L : List Nat) : Prop := RLay S m ∧ S.I (m+1) = w ∧ GW n w ∧ Tb S m n ∧ KL S m 0 L ∧ (∀ r ∈ L, r < fct n) ∧ L.length ≤ 5040
def A0 : List Nat := [3, 5, 6, 7, 8, 9, 10, 11, 12, 13, 14, 15, 16, 17, 18, 19]
def B0 : List Nat := [0, 7, 8, 9, 13, 14, 20, 23, 25, 26, 27, 30, 33, 34, 35, 37, 38]
def RQ (m : Nat) (S S' : MS) : Prop := Fr m A0 B0 S S' ∧ Tbl S' m
def RI (S : MS) (m n : Nat) : Prop := RLay S m ∧ GW n (S.I (m+1)) ∧ Tbl S m
theorem Tbl.set {S : MS} {m k : Nat} {v : Int} (h : Tbl S m) (h1 : k ≠ 13) (h2 : k ≠ 14) : Tbl (S.setI m k v) m := by
  have f : Fr m [] [k] S (S.setI m k v) := Fr.sB (by simp)
  unfold Tbl
  rw [f.fld (by simp; omega)]
  exact ⟨h.1, fun n a b c => f.tb (by simp) (by simp; omega) (by simp; omega) (h.2 n a b c)⟩
theorem RI.s0 {S : MS} {m n : Nat} (h : RI S m n) (c : Int) : RI (S.setI m 0 c) m n := by
  refine ⟨by exact h.1, ?_, h.2.2.set (by decide) (by decide)⟩
  rw [sI_Ia (by omega)]
  exact h.2.1
theorem RQ.rf {m : Nat} {S : MS} (h : Tbl S m) : RQ m S S := ⟨Fr.rf, h⟩
theorem RQ.tr {m : Nat} {S S1 S2 : MS} (h : RQ m S S1) (k : RQ m S1 S2) : RQ m S S2 := ⟨h.1.tr k.1, k.2⟩
theorem RQ.s0 {m : Nat} {S : MS} {c : Int} (h : Tbl S m) : RQ m S (S.setI m 0 c) := ⟨Fr.sB (by decide), h.set (by decide) (by decide)⟩
theorem RQ.w {m : Nat} {S S' : MS} (h : RQ m S S') : S'.I (m+1) = S.I (m+1) := h.1.arr (by decide) (by decide)
theorem RQ.ri {m n : Nat} {S S' : MS} (h : RQ m S S') (k : RI S m n) : RI S' m n := ⟨h.1.lay k.1, by rw [h.w]; exact k.2.1, h.2⟩
theorem rowsL_ok {n : Nat} {w : Nat → Int} {wo : Nat} : ∀ r ∈ rowsL n w wo, r < fct n := by
  intro r hr
  unfold rowsL at hr
  rw [List.mem_filter, List.mem_range] at hr
  exact hr.1
theorem rowsL_len {n : Nat} {w : Nat → Int} {wo : Nat} (h3 : 3 ≤ n) (h7 : n ≤ 7) : (rowsL n w wo).length ≤ 5040 := Nat.le_trans (rng_le _ _) (fct_le h3 h7)
theorem l_leaves {d m n : Nat} {S : MS} {Q : Out → MS → Prop} (hd : 6 ≤ d) (hI : RI S m n) (h : ∀ S', RQ m S S' → S'.I m 0 = S.I m 0 → RD S' m n (S.I (m+1)) (rowsL n (S.I (m+1)) 0) → Q (.inl none) S') : Mw hX11_leaves yX11_leaves d [vA m] S Q := by
  refine c_leaves (n := n) hd hI.1 hI.2.1 hI.2.2 (fun S' f t k => ?_)
  have hg := hI.2.1
  refine h S' ⟨f.wk (by decide) (by decide), t.l hg.1.2.1⟩ (f.fld (by decide)) ⟨f.lay hI.1, f.arr (by decide) (by decide), hg, t, k, rowsL_ok, rowsL_len hg.1.1 hg.1.2.1⟩
/-- how an answer comes out -/
theorem fin {m : Nat} {S S' : MS} {Q : Out → MS → Prop} {A : Int × Int} {c v : Int} (h : ∀ S', RQ m S S' → S'.I m 0 = A.1 → Q (.inl (some (vI A.2))) S') (e : A = (c, v)) (q : RQ m S S') (t : S'.I m 0 = c) : Q (.inl (some (vI v))) S' := by
  have := h S' q (by rw [e]; exact t)
  rw [e] at this
  exact this
theorem c_rows {d m n : Nat} {S : MS} {Q : Out → MS → Prop} (hd : 7 ≤ d) (hI : RI S m n) (h : ∀ S', RQ m S S' → S'.I m 0 = 0 → Q (.inl (some (vI ((rowsL n (S.I (m+1)) 0).length : Nat)))) S') : Mw hX11_rows yX11_rows d [vA m] S Q := by
  have hL := hI.1
  obtain ⟨dd, rfl⟩ : ∃ e, d = e + 1 := ⟨d - 1, by omega⟩
  refine MX11_rows ?_
  have hl := hL
  unfold RLay at hl
  unfold VX11_rows_0
  simp only [hl, sI_K, sI_N, sI_R, sI_J, Option.some.injEq, exists_eq_left', true_and, and_true, Int.toNat_zero, Int.reduceToNat, Int.reduceLT, Int.reduceLE, Int.cast_ofNat_Int, forall_eq, ge_iff_le, Int.reduceNeg, Int.reduceAdd, Int.reduceSub, Int.reduceMul, Int.reduceEq, r32_0, r32_1, r32_m1, b01_0, b01_1, not_true_eq_false, not_false_eq_true, false_implies, true_implies, implies_true, forall_const]
  refine l_leaves (n := n) (by omega) (hI.s0 0) (fun S1 q1 t1 d1 => oV_i ?_)
  rw [sI_Ia (by omega)] at d1
  have hl := d1.1
  unfold RLay at hl
  simp only [hl, sI_K, sI_N, sI_R, sI_J, Option.some.injEq, exists_eq_left', true_and, and_true, Int.toNat_zero, Int.reduceToNat, Int.reduceLT, Int.reduceLE, Int.cast_ofNat_Int, forall_eq, ge_iff_le, Int.reduceNeg, Int.reduceAdd, Int.reduceSub, Int.reduceMul, Int.reduceEq, r32_0, r32_1, r32_m1, b01_0, b01_1, not_true_eq_false, not_false_eq_true, false_implies, true_implies, implies_true, forall_const]
  rw [d1.2.2.2.2.1.1]
  refine h S1 ((RQ.s0 hI.2.2).tr q1) (by rw [t1, sI_I, if_pos ⟨rfl, rfl⟩])
noncomputable def A_row (n : Nat) (w : Nat → Int) (k p : Int) : Int × Int := if 0 ≤ p ∧ p < (n : Int) then (0, if 0 ≤ k ∧ k < ((rowsL n w 0).length : Int) then (rat n ((rowsL n w 0).getD k.toNat 0) p.toNat : Int) else -1) else (1, 0)
theorem c_row {d m n : Nat} {S : MS} {Q : Out → MS → Prop} {k p : Int} (hd : 7 ≤ d) (hI : RI S m n) (hk : R32 k) (hp : R32 p) (h : ∀ S', RQ m S S' → S'.I m 0 = (A_row n (S.I (m+1)) k p).1 → Q (.inl (some (vI (A_row n (S.I (m+1)) k p).2))) S') : Mw hX11_row yX11_row d [vA m, vI k, vI p] S Q := by
  have hL := hI.1
  have hg := hI.2.1
  have h0 := hg.1.2.2
  have h3 := hg.1.1
  have h7 := hg.1.2.1
  have hf := fct_le h3 h7
  obtain ⟨dd, rfl⟩ : ∃ e, d = e + 1 := ⟨d - 1, by omega⟩
  refine MX11_row ?_
  have hl := hL
  unfold RLay at hl
  unfold VX11_row_0
  simp only [hl, sI_K, sI_N, sI_R, sI_J, Option.some.injEq, exists_eq_left', true_and, and_true, Int.toNat_zero, Int.reduceToNat, Int.reduceLT, Int.reduceLE, Int.cast_ofNat_Int, forall_eq, ge_iff_le, Int.reduceNeg, Int.reduceAdd, Int.reduceSub, Int.reduceMul, Int.reduceEq, r32_0, r32_1, r32_m1, b01_0, b01_1, not_true_eq_false, not_false_eq_true, false_implies, true_implies, implies_true, forall_const]
  refine c_noThing (by omega) (by exact hL) hp (by rw [sI_Ia (by omega)]; omega) (fun r hr => oI_i ⟨hL.1, c_throwsIf (by omega) (by exact hL) hr.b (fun c => oI_i ?_) (fun c => oI_i ?_)⟩)
  · rw [sI_Ia (by omega), h0] at hr
    have hp2 : 0 ≤ p ∧ p < (n : Int) := by
      rcases hr with ⟨rfl, -⟩ | ⟨-, hr⟩ <;> omega
    simp only [hl, sI_K, sI_N, sI_R, sI_J, Option.some.injEq, exists_eq_left', true_and, and_true, Int.toNat_zero, Int.reduceToNat, Int.reduceLT, Int.reduceLE, Int.cast_ofNat_Int, forall_eq, ge_iff_le, Int.reduceNeg, Int.reduceAdd, Int.reduceSub, Int.reduceMul, Int.reduceEq, r32_0, r32_1, r32_m1, b01_0, b01_1, not_true_eq_false, not_false_eq_true, false_implies, true_implies, implies_true, forall_const]
    refine l_leaves (n := n) (by omega) (hI.s0 0) (fun S1 q1 t1 d1 => oV_i ?_)
    rw [sI_Ia (by omega)] at d1
    obtain ⟨hL1, hw1, -, hT1, hK1, hr1, hn1⟩ := d1
    have hl := hL1
    unfold RLay at hl
    have q2 := (RQ.s0 (c := 0) hI.2.2).tr q1
    have t2 : S1.I m 0 = 0 := by rw [t1, sI_I, if_pos ⟨rfl, rfl⟩]
    simp only [hl, sI_K, sI_N, sI_R, sI_J, Option.some.injEq, exists_eq_left', true_and, and_true, Int.toNat_zero, Int.reduceToNat, Int.reduceLT, Int.reduceLE, Int.cast_ofNat_Int, forall_eq, ge_iff_le, Int.reduceNeg, Int.reduceAdd, Int.reduceSub, Int.reduceMul, Int.reduceEq, r32_0, r32_1, r32_m1, b01_0, b01_1, not_true_eq_false, not_false_eq_true, false_implies, true_implies, implies_true, forall_const]
    rw [hK1.1]
    refine c_in (by omega) hk r32_0 (by unfold R32; omega) (fun r hr => oI_i ⟨hr.r, fun c => ?_, fun c => ?_⟩)
    · refine fin h ?_ q2 t2
      unfold A_row
      rw [if_pos hp2, if_neg]
      rcases hr with ⟨rfl, -⟩ | ⟨-, hr⟩ <;> omega
    · have g : 0 ≤ k ∧ k < ((rowsL n (S.I (m+1)) 0).length : Int) := by
        rcases hr with ⟨rfl, hr⟩ | ⟨rfl, -⟩ <;> omega
      have e1 := hr1 _ (getD_mem (L := rowsL n (S.I (m+1)) 0) (k := k.toNat) (by omega))
      simp only [hl, sI_K, sI_N, sI_R, sI_J, Option.some.injEq, exists_eq_left', true_and, and_true, Int.toNat_zero, Int.reduceToNat, Int.reduceLT, Int.reduceLE, Int.cast_ofNat_Int, forall_eq, ge_iff_le, Int.reduceNeg, Int.reduceAdd, Int.reduceSub, Int.reduceMul, Int.reduceEq, r32_0, r32_1, r32_m1, b01_0, b01_1, not_true_eq_false, not_false_eq_true, false_implies, true_implies, implies_true, forall_const]
      refine c_rowAt (r := 0) (p := k.toNat) (by omega) hL1 rfl (by omega) (by omega) (oI_i ⟨hL1.1, ?_⟩)
      rw [hK1.2 _ (by omega)]
      refine c_at (r := (rowsL n (S.I (m+1)) 0).getD k.toNat 0) (p := p.toNat) (by omega) hL1 rfl (by omega) (by omega) (oI_i ?_)
      rw [hT1.2.2 _ e1 _ (by omega)]
      refine fin h ?_ q2 t2
      unfold A_row
      rw [if_pos hp2, if_pos g]
  · rw [sI_Ia (by omega), h0] at hr
    have hp2 : ¬ (0 ≤ p ∧ p < (n : Int)) := by
      rcases hr with ⟨-, hr⟩ | ⟨rfl, -⟩ <;> omega
    simp only [hl, sI_K, sI_N, sI_R, sI_J, Option.some.injEq, exists_eq_left', true_and, and_true, Int.toNat_zero, Int.reduceToNat, Int.reduceLT, Int.reduceLE, Int.cast_ofNat_Int, forall_eq, ge_iff_le, Int.reduceNeg, Int.reduceAdd, Int.reduceSub, Int.reduceMul, Int.reduceEq, r32_0, r32_1, r32_m1, b01_0, b01_1, not_true_eq_false, not_false_eq_true, false_implies, true_implies, implies_true, forall_const]
    refine fin h ?_ ((RQ.s0 hI.2.2).tr (RQ.s0 (hI.s0 0).2.2)) (by rw [sI_I, if_pos ⟨rfl, rfl⟩])
    unfold A_row
    rw [if_neg hp2]
