theorem t_if {d m : Nat} {S : MS} {Q : Out → MS → Prop} {r c : Int} {P : Prop} (hd : 1 ≤ d) (hL : RLay S m) (hr : BI r P) (h0 : ¬ P → Q (.inl (some (vI 0))) S) (h1 : P → Q (.inl (some (vI 1))) (S.setI m 0 c)) : Mw hX11_throwsIf yX11_throwsIf d [vA m, vI r, vI c] S Q := by
  refine c_throwsIf hd hL hr.b (fun e => h0 ?_) (fun e => h1 ?_)
  · rcases hr with ⟨rfl, -⟩ | ⟨-, hr⟩
    · omega
    · exact hr
  · rcases hr with ⟨-, hr⟩ | ⟨rfl, -⟩
    · exact hr
    · omega
theorem l_lv {d m n : Nat} {S : MS} {Q : Out → MS → Prop} (hd : 6 ≤ d) (hI : RI S m n) (h : ∀ S', RQ m S S' → S'.I m 0 = 0 → RD S' m n (S.I (m+1)) (rowsL n (S.I (m+1)) 0) → Q (.inl none) S') : Mw hX11_leaves yX11_leaves d [vA m] (S.setI m 0 0) Q := by
  refine l_leaves (n := n) hd (hI.s0 0) (fun S1 q1 t1 d1 => ?_)
  rw [sI_Ia (by omega)] at d1
  exact h S1 ((RQ.s0 hI.2.2).tr q1) (by rw [t1, sI_I, if_pos ⟨rfl, rfl⟩]) d1
theorem l_no {d m n : Nat} {S : MS} {Q : Out → MS → Prop} {v : Int} (hd : 2 ≤ d) (hI : RI S m n) (hv : R32 v) (h : ∀ r, BI r (¬ (0 ≤ v ∧ v < (n : Int))) → Q (.inl (some (vI r))) (S.setI m 0 0)) : Mw hX11_noThing yX11_noThing d [vA m, vI v] (S.setI m 0 0) Q := by
  have h0 := hI.2.1.1
  refine c_noThing hd (by exact hI.1) hv (by rw [sI_Ia (by omega)]; omega) (fun r hr => h r ?_)
  rw [sI_Ia (by omega), h0.2.2] at hr
  exact hr
theorem rq_x {m n : Nat} {S : MS} {c : Int} (hI : RI S m n) : RQ m S ((S.setI m 0 0).setI m 0 c) := (RQ.s0 hI.2.2).tr (RQ.s0 (hI.s0 0).2.2)
theorem rq_t {m : Nat} {S : MS} {c : Int} : ((S.setI m 0 0).setI m 0 c).I m 0 = c := by rw [sI_I, if_pos ⟨rfl, rfl⟩]
theorem f_may {d m n x : Nat} {w : Nat → Int} {L : List Nat} {S : MS} {Q : Out → MS → Prop} (hd : 2 ≤ d) (hD : RD S m n w L) (hx : x < 2 ^ n) (hp : pc x = 3) (h : Q (.inl (some (vI (mskL (rsN n 0 x) L : Nat)))) S) : ∀ (j : Nat) {k : Nat}, k + j = L.length → VX11_may_28 d Q (j + 1) m (x : Nat) (mskL (rsN n 0 x) (L.take k) : Nat) (k : Nat) S := by
  obtain ⟨hL, hw, hg, hT, hK, hrow, hlen⟩ := hD
  have h3 := hg.1.1
  have h7 := hg.1.2.1
  have hf := fct_le h3 h7
  have p7 := p2_7 h7
  intro j
  induction j with
  | zero =>
    intro k hk
    have hl := hL
    unfold RLay at hl
    unfold VX11_may_28
    simp only [hl, sI_K, sI_N, sI_R, sI_J, Option.some.injEq, exists_eq_left', true_and, and_true, Int.toNat_zero, Int.reduceToNat, Int.reduceLT, Int.reduceLE, Int.cast_ofNat_Int, forall_eq, ge_iff_le, Int.reduceNeg, Int.reduceAdd, Int.reduceSub, Int.reduceMul, Int.reduceEq, r32_0, r32_1, r32_m1, b01_0, b01_1, not_true_eq_false, not_false_eq_true, false_implies, true_implies, implies_true, forall_const]
    rw [hK.1]
    refine ⟨⟨(by unfold R32; omega), (by unfold R32; omega)⟩, fun _ => ?_, fun c => by omega⟩
    rw [show L.take k = L by rw [show k = L.length by omega]; exact List.take_length]
    exact h
  | succ j ih =>
    intro k hk
    have hl := hL
    unfold RLay at hl
    have hkl : k < L.length := by omega
    have hrk := hrow _ (getD_mem hkl)
    unfold VX11_may_28
    simp only [hl, sI_K, sI_N, sI_R, sI_J, Option.some.injEq, exists_eq_left', true_and, and_true, Int.toNat_zero, Int.reduceToNat, Int.reduceLT, Int.reduceLE, Int.cast_ofNat_Int, forall_eq, ge_iff_le, Int.reduceNeg, Int.reduceAdd, Int.reduceSub, Int.reduceMul, Int.reduceEq, r32_0, r32_1, r32_m1, b01_0, b01_1, not_true_eq_false, not_false_eq_true, false_implies, true_implies, implies_true, forall_const]
    rw [hK.1]
    refine ⟨⟨(by unfold R32; omega), (by unfold R32; omega)⟩, fun _ => by omega, fun c => c_rowAt (r := 0) (p := k) (by omega) hL rfl rfl (by omega) (oI_i ⟨hL.1, ?_⟩)⟩
    rw [hK.2 k hkl]
    obtain ⟨e1, e2, -, -⟩ := rs_N (kn := 0) h3 h7 hrk hx (by rw [hp]; decide)
    refine c_riser (n := n) (kn := 0) (x := x) (by omega) hL h3 h7 hT rfl rfl rfl (by decide) (by omega) hrk (oI_i ?_)
    have q1 := mskL_lt (rsN n 0 x) (L.take k)
    have q2 : 2 ^ rsN n 0 x (L.getD k 0) ≤ 2 ^ 6 := Nat.pow_le_pow_right (by decide) (by omega)
    rw [e1, i1_shl (by omega), iOr_n (by omega) (by omega), ← mskL_s hkl (by omega), (show ∀ (k : Nat), (k : Int) + 1 = ((k + 1 : Nat) : Int) from fun _ => rfl) k]
    exact ih (by omega)
noncomputable def A_may (n : Nat) (w : Nat → Int) (x : Int) : Int × Int := if 0 ≤ x ∧ x < ((2 ^ n : Nat) : Int) ∧ pc x.toNat = 3 then (0, (mskL (rsN n 0 x.toNat) (rowsL n w 0) : Nat)) else (1, 0)
theorem c_may {d m n : Nat} {S : MS} {Q : Out → MS → Prop} {x : Int} (hd : 7 ≤ d) (hI : RI S m n) (hx : R32 x) (h : ∀ S', RQ m S S' → S'.I m 0 = (A_may n (S.I (m+1)) x).1 → Q (.inl (some (vI (A_may n (S.I (m+1)) x).2))) S') : Mw hX11_may yX11_may d [vA m, vI x] S Q := by
  have hL := hI.1
  obtain ⟨dd, rfl⟩ : ∃ e, d = e + 1 := ⟨d - 1, by omega⟩
  refine MX11_may ?_
  have hl := hL
  unfold RLay at hl
  unfold VX11_may_0
  simp only [hl, sI_K, sI_N, sI_R, sI_J, Option.some.injEq, exists_eq_left', true_and, and_true, Int.toNat_zero, Int.reduceToNat, Int.reduceLT, Int.reduceLE, Int.cast_ofNat_Int, forall_eq, ge_iff_le, Int.reduceNeg, Int.reduceAdd, Int.reduceSub, Int.reduceMul, Int.reduceEq, r32_0, r32_1, r32_m1, b01_0, b01_1, not_true_eq_false, not_false_eq_true, false_implies, true_implies, implies_true, forall_const]
  refine c_isNoThree (n := n) (by omega) (by exact hL) (by rw [sI_Ia (by omega)]; exact hI.2.1) hx (fun r hr => oI_i ⟨hL.1, t_if (by omega) (by exact hL) hr (fun c => oI_i ?_) (fun c => oI_i ?_)⟩)
  · simp only [hl, sI_K, sI_N, sI_R, sI_J, Option.some.injEq, exists_eq_left', true_and, and_true, Int.toNat_zero, Int.reduceToNat, Int.reduceLT, Int.reduceLE, Int.cast_ofNat_Int, forall_eq, ge_iff_le, Int.reduceNeg, Int.reduceAdd, Int.reduceSub, Int.reduceMul, Int.reduceEq, r32_0, r32_1, r32_m1, b01_0, b01_1, not_true_eq_false, not_false_eq_true, false_implies, true_implies, implies_true, forall_const]
    have c' : IsSet n 3 x := Classical.byContradiction c
    obtain ⟨x1, x2, x3⟩ := c'.n
    refine l_lv (n := n) (by omega) hI (fun S1 q1 t1 d1 => oV_i ⟨(rowsL n (S.I (m+1)) 0).length + 1, ?_⟩)
    have := f_may (Q := Q) (d := dd) (by omega) d1 x2 x3 (fin h (by unfold A_may; rw [if_pos (show 0 ≤ x ∧ x < ((2 ^ n : Nat) : Int) ∧ pc x.toNat = 3 from c')]) q1 t1) _ (k := 0) (Nat.zero_add _)
    rw [List.take_zero, mskL_0, ← x1] at this
    exact this
  · simp only [hl, sI_K, sI_N, sI_R, sI_J, Option.some.injEq, exists_eq_left', true_and, and_true, Int.toNat_zero, Int.reduceToNat, Int.reduceLT, Int.reduceLE, Int.cast_ofNat_Int, forall_eq, ge_iff_le, Int.reduceNeg, Int.reduceAdd, Int.reduceSub, Int.reduceMul, Int.reduceEq, r32_0, r32_1, r32_m1, b01_0, b01_1, not_true_eq_false, not_false_eq_true, false_implies, true_implies, implies_true, forall_const]
    exact fin h (by unfold A_may; rw [if_neg (show ¬ (0 ≤ x ∧ x < ((2 ^ n : Nat) : Int) ∧ pc x.toNat = 3) from c)]) (rq_x hI) rq_t
def hv (n a b r : Nat) : Bool := decide (plc n r b < plc n r a)
theorem f_heavierIn {d m n a b : Nat} {w : Nat → Int} {L : List Nat} {S : MS} {Q : Out → MS → Prop} (hd : 2 ≤ d) (hD : RD S m n w L) (ha : a < n) (hb : b < n) (h : Q (.inl (some (vI (ct (hv n a b) L : Nat)))) S) : ∀ (j : Nat) {k : Nat}, k + j = L.length → VX11_heavierIn_5 d Q (j + 1) m (a : Nat) (b : Nat) (ct (hv n a b) (L.take k) : Nat) (k : Nat) S := by
  obtain ⟨hL, hw, hg, hT, hK, hrow, hlen⟩ := hD
  have h3 := hg.1.1
  have h7 := hg.1.2.1
  have hf := fct_le h3 h7
  intro j
  induction j with
  | zero =>
    intro k hk
    have hl := hL
    unfold RLay at hl
    unfold VX11_heavierIn_5
    simp only [hl, sI_K, sI_N, sI_R, sI_J, Option.some.injEq, exists_eq_left', true_and, and_true, Int.toNat_zero, Int.reduceToNat, Int.reduceLT, Int.reduceLE, Int.cast_ofNat_Int, forall_eq, ge_iff_le, Int.reduceNeg, Int.reduceAdd, Int.reduceSub, Int.reduceMul, Int.reduceEq, r32_0, r32_1, r32_m1, b01_0, b01_1, not_true_eq_false, not_false_eq_true, false_implies, true_implies, implies_true, forall_const]
    rw [hK.1]
    refine ⟨⟨(by unfold R32; omega), (by unfold R32; omega)⟩, fun _ => ?_, fun c => by omega⟩
    rw [show L.take k = L by rw [show k = L.length by omega]; exact List.take_length]
    exact h
  | succ j ih =>
    intro k hk
    have hl := hL
    unfold RLay at hl
    have hkl : k < L.length := by omega
    have hrk := hrow _ (getD_mem hkl)
    unfold VX11_heavierIn_5
    simp only [hl, sI_K, sI_N, sI_R, sI_J, Option.some.injEq, exists_eq_left', true_and, and_true, Int.toNat_zero, Int.reduceToNat, Int.reduceLT, Int.reduceLE, Int.cast_ofNat_Int, forall_eq, ge_iff_le, Int.reduceNeg, Int.reduceAdd, Int.reduceSub, Int.reduceMul, Int.reduceEq, r32_0, r32_1, r32_m1, b01_0, b01_1, not_true_eq_false, not_false_eq_true, false_implies, true_implies, implies_true, forall_const]
    rw [hK.1]
    refine ⟨⟨(by unfold R32; omega), (by unfold R32; omega)⟩, fun _ => by omega, fun c => c_rowAt (r := 0) (p := k) (by omega) hL rfl rfl (by omega) (oI_i ⟨hL.1, ?_⟩)⟩
    rw [hK.2 k hkl]
    refine c_placeOf (n := n) (t := a) (by omega) hL h3 h7 hT rfl rfl hrk ha (oI_i ⟨hL.1, c_rowAt (r := 0) (p := k) (by omega) hL rfl rfl (by omega) (oI_i ⟨hL.1, ?_⟩)⟩)
    rw [hK.2 k hkl]
    refine c_placeOf (n := n) (t := b) (by omega) hL h3 h7 hT rfl rfl hrk hb (oI_i ?_)
    have p1 := plc_lt h3 h7 hrk ha
    have p2 := plc_lt h3 h7 hrk hb
    have e := ct_s hkl (hv n a b)
    unfold VX11_heavierIn_49
    have ih' := ih (k := k + 1) (by omega)
    rw [e] at ih'
    refine ⟨⟨(by unfold R32; omega), (by unfold R32; omega)⟩, fun c => ?_, fun c => ?_⟩
    · rw [if_neg (by simp only [hv, decide_eq_true_eq]; omega)] at ih'
      exact ih'
    · rw [if_pos (by simp only [hv, decide_eq_true_eq]; omega)] at ih'
      exact ih'
theorem c_heavierIn {d m n a b : Nat} {w : Nat → Int} {L : List Nat} {S : MS} {Q : Out → MS → Prop} {x y : Int} (hd : 3 ≤ d) (hD : RD S m n w L) (e1 : x = (a : Int)) (e2 : y = (b : Int)) (ha : a < n) (hb : b < n) (h : Q (.inl (some (vI (ct (hv n a b) L : Nat)))) S) : Mw hX11_heavierIn yX11_heavierIn d [vA m, vI x, vI y] S Q := by
  subst e1 e2
  obtain ⟨dd, rfl⟩ : ∃ e, d = e + 1 := ⟨d - 1, by omega⟩
  refine MX11_heavierIn ?_
  unfold VX11_heavierIn_0
  exact ⟨_, f_heavierIn (by omega) hD ha hb h _ (k := 0) (Nat.zero_add _)⟩
noncomputable def A_heavier (n : Nat) (w : Nat → Int) (x y : Int) : Int × Int := if (0 ≤ x ∧ x < (n : Int)) ∧ (0 ≤ y ∧ y < (n : Int)) then (if x = y then (2, 0) else (0, if (rowsL n w 0).length = 0 then -1 else if ct (hv n x.toNat y.toNat) (rowsL n w 0) = (rowsL n w 0).length then 1 else if ct (hv n x.toNat y.toNat) (rowsL n w 0) = 0 then 0 else -1)) else (1, 0)
theorem c_heavier {d m n : Nat} {S : MS} {Q : Out → MS → Prop} {x y : Int} (hd : 7 ≤ d) (hI : RI S m n) (hx : R32 x) (hy : R32 y) (h : ∀ S', RQ m S S' → S'.I m 0 = (A_heavier n (S.I (m+1)) x y).1 → Q (.inl (some (vI (A_heavier n (S.I (m+1)) x y).2))) S') : Mw hX11_heavier yX11_heavier d [vA m, vI x, vI y] S Q := by
  have hL := hI.1
  obtain ⟨dd, rfl⟩ : ∃ e, d = e + 1 := ⟨d - 1, by omega⟩
  refine MX11_heavier ?_
  have hl := hL
  unfold RLay at hl
  unfold VX11_heavier_0
  simp only [hl, sI_K, sI_N, sI_R, sI_J, Option.some.injEq, exists_eq_left', true_and, and_true, Int.toNat_zero, Int.reduceToNat, Int.reduceLT, Int.reduceLE, Int.cast_ofNat_Int, forall_eq, ge_iff_le, Int.reduceNeg, Int.reduceAdd, Int.reduceSub, Int.reduceMul, Int.reduceEq, r32_0, r32_1, r32_m1, b01_0, b01_1, not_true_eq_false, not_false_eq_true, false_implies, true_implies, implies_true, forall_const]
  have bad : ¬ ((0 ≤ x ∧ x < (n : Int)) ∧ (0 ≤ y ∧ y < (n : Int))) → VX11_heavier_27 dd Q m x y 1 m (S.setI m 0 0) := by
    intro c
    unfold VX11_heavier_27
    refine ⟨hL.1, t_if (P := True) (by omega) (by exact hL) (.y trivial) (fun k => absurd trivial k) (fun _ => oI_i ?_)⟩
    simp only [hl, sI_K, sI_N, sI_R, sI_J, Option.some.injEq, exists_eq_left', true_and, and_true, Int.toNat_zero, Int.reduceToNat, Int.reduceLT, Int.reduceLE, Int.cast_ofNat_Int, forall_eq, ge_iff_le, Int.reduceNeg, Int.reduceAdd, Int.reduceSub, Int.reduceMul, Int.reduceEq, r32_0, r32_1, r32_m1, b01_0, b01_1, not_true_eq_false, not_false_eq_true, false_implies, true_implies, implies_true, forall_const]
    exact fin h (by unfold A_heavier; rw [if_neg c]) (rq_x hI) rq_t
  unfold VX11_heavier_22
  refine l_no (n := n) (by omega) hI hx (fun r hr => oI_i ⟨hr.r, fun c => bad ?_, fun c => ⟨hL.1, l_no (n := n) (by omega) hI hy (fun r2 hr2 => oI_i ⟨hr2.r, fun c2 => ?_, fun c2 => bad ?_⟩)⟩⟩)
  · rcases hr with ⟨-, hr⟩ | ⟨rfl, -⟩ <;> omega
  · have cx : 0 ≤ x ∧ x < (n : Int) := by rcases hr with ⟨rfl, -⟩ | ⟨-, hr⟩ <;> omega
    have cy : 0 ≤ y ∧ y < (n : Int) := by rcases hr2 with ⟨rfl, -⟩ | ⟨-, hr2⟩ <;> omega
    unfold VX11_heavier_27
    refine ⟨hL.1, t_if (P := False) (by omega) (by exact hL) (.n id) (fun _ => oI_i ?_) (fun k => k.elim)⟩
    simp only [hl, sI_K, sI_N, sI_R, sI_J, Option.some.injEq, exists_eq_left', true_and, and_true, Int.toNat_zero, Int.reduceToNat, Int.reduceLT, Int.reduceLE, Int.cast_ofNat_Int, forall_eq, ge_iff_le, Int.reduceNeg, Int.reduceAdd, Int.reduceSub, Int.reduceMul, Int.reduceEq, r32_0, r32_1, r32_m1, b01_0, b01_1, not_true_eq_false, not_false_eq_true, false_implies, true_implies, implies_true, forall_const]
    unfold VX11_heavier_45
    refine ⟨⟨hx, hy⟩, fun c3 => ⟨hL.1, t_if (P := False) (by omega) (by exact hL) (.n id) (fun _ => oI_i ?_) (fun k => k.elim)⟩, fun c3 => ⟨hL.1, t_if (P := True) (by omega) (by exact hL) (.y trivial) (fun k => absurd trivial k) (fun _ => oI_i ?_)⟩⟩
    · simp only [hl, sI_K, sI_N, sI_R, sI_J, Option.some.injEq, exists_eq_left', true_and, and_true, Int.toNat_zero, Int.reduceToNat, Int.reduceLT, Int.reduceLE, Int.cast_ofNat_Int, forall_eq, ge_iff_le, Int.reduceNeg, Int.reduceAdd, Int.reduceSub, Int.reduceMul, Int.reduceEq, r32_0, r32_1, r32_m1, b01_0, b01_1, not_true_eq_false, not_false_eq_true, false_implies, true_implies, implies_true, forall_const]
      refine l_lv (n := n) (by omega) hI (fun S1 q1 t1 d1 => oV_i ⟨d1.1.1, c_heavierIn (n := n) (a := x.toNat) (b := y.toNat) (by omega) d1 (by omega) (by omega) (by omega) (by omega) (oI_i ?_)⟩)
      obtain ⟨hL1, hw1, -, hT1, hK1, hr1, hn1⟩ := d1
      have hl := hL1
      unfold RLay at hl
      simp only [hl, sI_K, sI_N, sI_R, sI_J, Option.some.injEq, exists_eq_left', true_and, and_true, Int.toNat_zero, Int.reduceToNat, Int.reduceLT, Int.reduceLE, Int.cast_ofNat_Int, forall_eq, ge_iff_le, Int.reduceNeg, Int.reduceAdd, Int.reduceSub, Int.reduceMul, Int.reduceEq, r32_0, r32_1, r32_m1, b01_0, b01_1, not_true_eq_false, not_false_eq_true, false_implies, true_implies, implies_true, forall_const]
      rw [hK1.1]
      have q := ct_le (hv n x.toNat y.toNat) (rowsL n (S.I (m+1)) 0)
      refine ⟨(by unfold R32; omega), fun c4 => ⟨⟨(by unfold R32; omega), (by unfold R32; omega)⟩, fun c5 => ⟨(by unfold R32; omega), fun c6 => ?_, fun c6 => ?_⟩, fun c5 => ?_⟩, fun c4 => ?_⟩
      · exact fin h (by unfold A_heavier; rw [if_pos ⟨cx, cy⟩, if_neg c3, if_neg (by omega), if_neg (by omega), if_neg (by omega)]) q1 t1
      · exact fin h (by unfold A_heavier; rw [if_pos ⟨cx, cy⟩, if_neg c3, if_neg (by omega), if_neg (by omega), if_pos (by omega)]) q1 t1
      · exact fin h (by unfold A_heavier; rw [if_pos ⟨cx, cy⟩, if_neg c3, if_neg (by omega), if_pos (by omega)]) q1 t1
      · exact fin h (by unfold A_heavier; rw [if_pos ⟨cx, cy⟩, if_neg c3, if_pos (by omega)]) q1 t1
    · simp only [hl, sI_K, sI_N, sI_R, sI_J, Option.some.injEq, exists_eq_left', true_and, and_true, Int.toNat_zero, Int.reduceToNat, Int.reduceLT, Int.reduceLE, Int.cast_ofNat_Int, forall_eq, ge_iff_le, Int.reduceNeg, Int.reduceAdd, Int.reduceSub, Int.reduceMul, Int.reduceEq, r32_0, r32_1, r32_m1, b01_0, b01_1, not_true_eq_false, not_false_eq_true, false_implies, true_implies, implies_true, forall_const]
      exact fin h (by unfold A_heavier; rw [if_pos ⟨cx, cy⟩, if_pos c3]) (rq_x hI) rq_t
  · rcases hr2 with ⟨-, hr2⟩ | ⟨rfl, -⟩ <;> omega
noncomputable def A_plain (n : Nat) (w : Nat → Int) (x y : Int) : Int × Int := if (0 ≤ x ∧ x < (n : Int)) ∧ (0 ≤ y ∧ y < (n : Int)) then (if x = y then (2, 0) else (0, min (ct (hv n x.toNat y.toNat) (rowsL n w 0) : Int) (((rowsL n w 0).length : Int) - (ct (hv n x.toNat y.toNat) (rowsL n w 0) : Int)))) else (1, 0)
theorem c_plain {d m n : Nat} {S : MS} {Q : Out → MS → Prop} {x y : Int} (hd : 7 ≤ d) (hI : RI S m n) (hx : R32 x) (hy : R32 y) (h : ∀ S', RQ m S S' → S'.I m 0 = (A_plain n (S.I (m+1)) x y).1 → Q (.inl (some (vI (A_plain n (S.I (m+1)) x y).2))) S') : Mw hX11_plain yX11_plain d [vA m, vI x, vI y] S Q := by
  have hL := hI.1
  obtain ⟨dd, rfl⟩ : ∃ e, d = e + 1 := ⟨d - 1, by omega⟩
  refine MX11_plain ?_
  have hl := hL
  unfold RLay at hl
  unfold VX11_plain_0
  simp only [hl, sI_K, sI_N, sI_R, sI_J, Option.some.injEq, exists_eq_left', true_and, and_true, Int.toNat_zero, Int.reduceToNat, Int.reduceLT, Int.reduceLE, Int.cast_ofNat_Int, forall_eq, ge_iff_le, Int.reduceNeg, Int.reduceAdd, Int.reduceSub, Int.reduceMul, Int.reduceEq, r32_0, r32_1, r32_m1, b01_0, b01_1, not_true_eq_false, not_false_eq_true, false_implies, true_implies, implies_true, forall_const]
  have bad : ¬ ((0 ≤ x ∧ x < (n : Int)) ∧ (0 ≤ y ∧ y < (n : Int))) → VX11_plain_27 dd Q m x y 1 m (S.setI m 0 0) := by
    intro c
    unfold VX11_plain_27
    refine ⟨hL.1, t_if (P := True) (by omega) (by exact hL) (.y trivial) (fun k => absurd trivial k) (fun _ => oI_i ?_)⟩
    simp only [hl, sI_K, sI_N, sI_R, sI_J, Option.some.injEq, exists_eq_left', true_and, and_true, Int.toNat_zero, Int.reduceToNat, Int.reduceLT, Int.reduceLE, Int.cast_ofNat_Int, forall_eq, ge_iff_le, Int.reduceNeg, Int.reduceAdd, Int.reduceSub, Int.reduceMul, Int.reduceEq, r32_0, r32_1, r32_m1, b01_0, b01_1, not_true_eq_false, not_false_eq_true, false_implies, true_implies, implies_true, forall_const]
    exact fin h (by unfold A_plain; rw [if_neg c]) (rq_x hI) rq_t
  unfold VX11_plain_22
  refine l_no (n := n) (by omega) hI hx (fun r hr => oI_i ⟨hr.r, fun c => bad ?_, fun c => ⟨hL.1, l_no (n := n) (by omega) hI hy (fun r2 hr2 => oI_i ⟨hr2.r, fun c2 => ?_, fun c2 => bad ?_⟩)⟩⟩)
  · rcases hr with ⟨-, hr⟩ | ⟨rfl, -⟩ <;> omega
  · have cx : 0 ≤ x ∧ x < (n : Int) := by rcases hr with ⟨rfl, -⟩ | ⟨-, hr⟩ <;> omega
    have cy : 0 ≤ y ∧ y < (n : Int) := by rcases hr2 with ⟨rfl, -⟩ | ⟨-, hr2⟩ <;> omega
    unfold VX11_plain_27
    refine ⟨hL.1, t_if (P := False) (by omega) (by exact hL) (.n id) (fun _ => oI_i ?_) (fun k => k.elim)⟩
    simp only [hl, sI_K, sI_N, sI_R, sI_J, Option.some.injEq, exists_eq_left', true_and, and_true, Int.toNat_zero, Int.reduceToNat, Int.reduceLT, Int.reduceLE, Int.cast_ofNat_Int, forall_eq, ge_iff_le, Int.reduceNeg, Int.reduceAdd, Int.reduceSub, Int.reduceMul, Int.reduceEq, r32_0, r32_1, r32_m1, b01_0, b01_1, not_true_eq_false, not_false_eq_true, false_implies, true_implies, implies_true, forall_const]
    unfold VX11_plain_45
    refine ⟨⟨hx, hy⟩, fun c3 => ⟨hL.1, t_if (P := False) (by omega) (by exact hL) (.n id) (fun _ => oI_i ?_) (fun k => k.elim)⟩, fun c3 => ⟨hL.1, t_if (P := True) (by omega) (by exact hL) (.y trivial) (fun k => absurd trivial k) (fun _ => oI_i ?_)⟩⟩
    · simp only [hl, sI_K, sI_N, sI_R, sI_J, Option.some.injEq, exists_eq_left', true_and, and_true, Int.toNat_zero, Int.reduceToNat, Int.reduceLT, Int.reduceLE, Int.cast_ofNat_Int, forall_eq, ge_iff_le, Int.reduceNeg, Int.reduceAdd, Int.reduceSub, Int.reduceMul, Int.reduceEq, r32_0, r32_1, r32_m1, b01_0, b01_1, not_true_eq_false, not_false_eq_true, false_implies, true_implies, implies_true, forall_const]
      refine l_lv (n := n) (by omega) hI (fun S1 q1 t1 d1 => oV_i ⟨d1.1.1, c_heavierIn (n := n) (a := x.toNat) (b := y.toNat) (by omega) d1 (by omega) (by omega) (by omega) (by omega) (oI_i ?_)⟩)
      obtain ⟨hL1, hw1, -, hT1, hK1, hr1, hn1⟩ := d1
      have hl := hL1
      unfold RLay at hl
      simp only [hl, sI_K, sI_N, sI_R, sI_J, Option.some.injEq, exists_eq_left', true_and, and_true, Int.toNat_zero, Int.reduceToNat, Int.reduceLT, Int.reduceLE, Int.cast_ofNat_Int, forall_eq, ge_iff_le, Int.reduceNeg, Int.reduceAdd, Int.reduceSub, Int.reduceMul, Int.reduceEq, r32_0, r32_1, r32_m1, b01_0, b01_1, not_true_eq_false, not_false_eq_true, false_implies, true_implies, implies_true, forall_const]
      rw [hK1.1]
      have q := ct_le (hv n x.toNat y.toNat) (rowsL n (S.I (m+1)) 0)
      refine ⟨⟨(by unfold R32; omega), (by unfold R32; omega)⟩, ?_⟩
      exact fin h (by unfold A_plain; rw [if_pos ⟨cx, cy⟩, if_neg c3]) q1 t1
    · simp only [hl, sI_K, sI_N, sI_R, sI_J, Option.some.injEq, exists_eq_left', true_and, and_true, Int.toNat_zero, Int.reduceToNat, Int.reduceLT, Int.reduceLE, Int.cast_ofNat_Int, forall_eq, ge_iff_le, Int.reduceNeg, Int.reduceAdd, Int.reduceSub, Int.reduceMul, Int.reduceEq, r32_0, r32_1, r32_m1, b01_0, b01_1, not_true_eq_false, not_false_eq_true, false_implies, true_implies, implies_true, forall_const]
      exact fin h (by unfold A_plain; rw [if_pos ⟨cx, cy⟩, if_pos c3]) (rq_x hI) rq_t
  · rcases hr2 with ⟨-, hr2⟩ | ⟨rfl, -⟩ <;> omega
