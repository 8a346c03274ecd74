noncomputable def A_drop (w : Nat → Int) (i : Int) : Int × Int := if 0 ≤ i ∧ i < (nN w : Int) then (0, (nN w : Int) - 1) else (1, 0)
noncomputable def U_drop (w : Nat → Int) (i : Int) : Nat → Int := if 0 ≤ i ∧ i < (nN w : Int) then W_drop w i.toNat else w
theorem c_drop {d m n : Nat} {S : MS} {Q : Out → MS → Prop} {i : Int} (hd : 3 ≤ d) (hI : RI S m n) (hi : R32 i) (h : ∀ S', RU m S S' (U_drop (S.I (m+1)) i) → S'.I m 0 = (A_drop (S.I (m+1)) i).1 → Q (.inl (some (vI (A_drop (S.I (m+1)) i).2))) S') : Mw hX11_drop yX11_drop d [vA m, vI i] S Q := by
  have hL := hI.1
  have hg := hI.2.1
  have g2 := hI.2.1.2.2.1
  have e0 : (S.setI m 0 0).I (m+1) = S.I (m+1) := sI_Ia (by omega)
  obtain ⟨dd, rfl⟩ : ∃ e, d = e + 1 := ⟨d - 1, by omega⟩
  refine MX11_drop ?_
  have hl := hL
  unfold RLay at hl
  unfold VX11_drop_0
  simp only [hl, sI_K, sI_N, sI_R, sI_J, Option.some.injEq, exists_eq_left', true_and, and_true, Int.toNat_zero, Int.reduceToNat, Int.reduceLT, Int.reduceLE, Int.cast_ofNat_Int, forall_eq, ge_iff_le, Int.reduceNeg, Int.reduceAdd, Int.reduceSub, Int.reduceMul, Int.reduceEq, r32_0, r32_1, r32_m1, b01_0, b01_1, not_true_eq_false, not_false_eq_true, false_implies, true_implies, implies_true, forall_const]
  refine l_noNote (n := n) (by omega) hI hi (fun r hr => oI_i ⟨hL.1, t_if (by omega) (by exact hL) hr (fun c => oI_i ?_) (fun c => oI_i ?_)⟩)
  · have c' : 0 ≤ i ∧ i < (nN (S.I (m+1)) : Int) := Classical.byContradiction c
    simp only [hl, sI_K, sI_N, sI_R, sI_J, Option.some.injEq, exists_eq_left', true_and, and_true, Int.toNat_zero, Int.reduceToNat, Int.reduceLT, Int.reduceLE, Int.cast_ofNat_Int, forall_eq, ge_iff_le, Int.reduceNeg, Int.reduceAdd, Int.reduceSub, Int.reduceMul, Int.reduceEq, r32_0, r32_1, r32_m1, b01_0, b01_1, not_true_eq_false, not_false_eq_true, false_implies, true_implies, implies_true, forall_const]
    refine c_drops (n := n) (i := i.toNat) (by omega) (by exact hL) (by rw [e0]; exact hg) (by omega) (by rw [e0]; omega) (fun S' f k => oV_i ⟨(f.lay (by exact hL)).1, c_notes (by omega) (f.lay (by exact hL)) (oI_i ?_)⟩)
    rw [e0] at k
    have e : A_drop (S.I (m+1)) i = (0, (nN (S.I (m+1)) : Int) - 1) := by unfold A_drop; rw [if_pos c']
    have v : S'.I (m+1) 2 = (nN (S.I (m+1)) : Int) - 1 := by
      rw [k]
      show (if (2 : Nat) = 2 then _ else _ : Int) = _
      rw [if_pos rfl, g2.1]
    rw [v]
    refine fin2 h e (ru_of (RQ.s0 hI.2.2) f (by decide) (by decide) (by decide) (by decide) (by decide) ?_) ?_
    · unfold U_drop
      rw [if_pos c']
      exact k
    · rw [f.fld (by decide), sI_I, if_pos ⟨rfl, rfl⟩]
  · simp only [hl, sI_K, sI_N, sI_R, sI_J, Option.some.injEq, exists_eq_left', true_and, and_true, Int.toNat_zero, Int.reduceToNat, Int.reduceLT, Int.reduceLE, Int.cast_ofNat_Int, forall_eq, ge_iff_le, Int.reduceNeg, Int.reduceAdd, Int.reduceSub, Int.reduceMul, Int.reduceEq, r32_0, r32_1, r32_m1, b01_0, b01_1, not_true_eq_false, not_false_eq_true, false_implies, true_implies, implies_true, forall_const]
    have e : A_drop (S.I (m+1)) i = (1, 0) := by unfold A_drop; rw [if_neg c]
    refine fin2 h e ?_ rq_t
    unfold U_drop
    rw [if_neg c]
    exact (rq_x hI).u
/-- notes without a thing -/
def ntK (t : Nat) (x : Nat × Nat × Nat) : Bool := !(x.2.1.testBit t)
theorem nth_app {α : Type} {A B : List α} {k : Nat} (h : A.length = k) : (A ++ B)[k]? = B[0]? := by
  rw [List.getElem?_append_right (by omega), h, Nat.sub_self]
theorem f_grown {d m n t : Nat} {Q : Out → MS → Prop} {w0 : Nat → Int} (hd : 1 ≤ d) (ht : t < n) (h7 : n ≤ 7) : ∀ (j : Nat) {S : MS} {k c : Nat}, RLay S m → GW n (S.I (m+1)) → SmHd w0 (S.I (m+1)) → k + c + j = (ntL w0).length → (ntL w0).length ≤ 16 → ((ntL w0).take (k + c)).filter (ntK t) ++ (ntL w0).drop (k + c) = ntL (S.I (m+1)) → (((ntL w0).take (k + c)).filter (ntK t)).length = k →
    (∀ S', Fr m [1] [] S S' → GW n (S'.I (m+1)) → SmHd w0 (S'.I (m+1)) → ntL (S'.I (m+1)) = (ntL w0).filter (ntK t) → Q (.inl (some (vI (((ntL w0).length : Int) - ((ntL w0).filter (ntK t)).length)))) S') → VX11_grown_24 d Q (j + 1) m (t : Nat) (c : Nat) (k : Nat) S := by
  intro j
  induction j with
  | zero =>
    intro S k c hL hg hh hj h16 hl hk h
    have g2 := hg.2.2.1
    have el : nN (S.I (m+1)) = k := by
      rw [← ntL_len, ← hl, List.length_append, hk, List.length_drop]
      omega
    unfold VX11_grown_24
    refine ⟨hL.1, c_notes (by omega) hL (oI_i ?_)⟩
    rw [g2.1, el]
    refine ⟨⟨(by unfold R32; omega), (by unfold R32; omega)⟩, fun _ => ?_, fun c => by omega⟩
    have et : (ntL w0).take (k + c) = ntL w0 := List.take_of_length_le (by omega)
    rw [et] at hl hk
    rw [List.drop_of_length_le (by omega), List.append_nil] at hl
    have := h S Fr.rf hg hh hl.symm
    rw [hk] at this
    rw [show (c : Int) = ((ntL w0).length : Int) - (k : Int) by omega]
    exact this
  | succ j ih =>
    intro S k c hL hg hh hj h16 hl hk h
    have g2 := hg.2.2.1
    have el : nN (S.I (m+1)) = k + j + 1 := by
      rw [← ntL_len, ← hl, List.length_append, hk, List.length_drop]
      omega
    have lt : k + c < (ntL w0).length := by omega
    have ex : (ntL w0)[k + c]? = some (nt3 (S.I (m+1)) k) := by
      rw [← ntL_get (by omega), ← hl, nth_app hk, List.getElem?_drop, Nat.add_zero]
    have et : (ntL w0).take (k + c + 1) = (ntL w0).take (k + c) ++ [nt3 (S.I (m+1)) k] := by
      rw [List.take_succ, ex]
      rfl
    have ed : (ntL w0).drop (k + c) = nt3 (S.I (m+1)) k :: (ntL w0).drop (k + c + 1) := by
      rw [List.drop_eq_getElem_cons lt]
      congr 1
      rw [List.getElem?_eq_getElem lt] at ex
      exact Option.some.inj ex
    have a := hg.nt (i := k) (by omega)
    have p7 := p2_7 h7
    unfold VX11_grown_24
    refine ⟨hL.1, c_notes (by omega) hL (oI_i ?_)⟩
    rw [g2.1, el]
    refine ⟨⟨(by unfold R32; omega), (by unfold R32; omega)⟩, fun _ => by omega, fun cc => ⟨hL.1, c_ofNote (i := k) (q := 1) (by omega) hL rfl rfl (by omega) (by decide) (oI_i ?_)⟩⟩
    rw [show 23 + 3 * k + 1 = 24 + 3 * k by omega, a.2.1.1, iBit_n (by omega) (by omega)]
    refine ⟨⟨r32_ite, r32_1⟩, fun c3 => ?_, fun c3 => ⟨hL.1, c_drops (n := n) (i := k) (by omega) hL hg rfl (by omega) (fun S1 f1 k1 => oV_i ?_)⟩⟩
    · have hb : ntK t (nt3 (S.I (m+1)) k) = true := by
        show (!((nX (S.I (m+1)) k).testBit t)) = true
        by_cases g : (nX (S.I (m+1)) k).testBit t = true
        · rw [if_pos g] at c3; exact absurd rfl c3
        · simp [g]
      refine ih (k := k + 1) (c := c) hL hg hh (by omega) h16 ?_ ?_ h
      · rw [show k + 1 + c = k + c + 1 by omega, et, List.filter_append, ← hl, ed]
        simp [List.filter_cons, hb]
      · rw [show k + 1 + c = k + c + 1 by omega, et, List.filter_append, List.length_append, hk]
        simp [List.filter_cons, hb]
    · have hb : ntK t (nt3 (S.I (m+1)) k) = false := by
        show (!((nX (S.I (m+1)) k).testBit t)) = false
        by_cases g : (nX (S.I (m+1)) k).testBit t = true
        · simp [g]
        · rw [if_neg g] at c3; omega
      have e1 : ((ntL w0).take (k + (c + 1))).filter (ntK t) = ((ntL w0).take (k + c)).filter (ntK t) := by
        rw [show k + (c + 1) = k + c + 1 by omega, et, List.filter_append]
        simp [List.filter_cons, hb]
      refine ih (k := k) (c := c + 1) (f1.lay hL) (by rw [k1]; exact hg.drop (by omega)) (by rw [k1]; exact fun q h1 h2 => (drop_hd q h1 h2).trans (hh q h1 h2)) (by omega) h16 ?_ (by rw [e1]; exact hk) (fun S' f2 => h S' (f1.tr f2))
      rw [e1, k1, drop_ntL hg (by omega), ← hl, ed, List.eraseIdx_append_of_length_le (by omega), hk, Nat.sub_self]
      rfl
theorem c_grown {d m n : Nat} {S : MS} {Q : Out → MS → Prop} {t : Int} (hd : 3 ≤ d) (hI : RI S m n) (ht : R32 t)
    (h0 : (0 ≤ t ∧ t < (n : Int)) → ∀ S' w', RU m S S' w' → S'.I m 0 = 0 → GW n w' → SmHd (S.I (m+1)) w' → ntL w' = (ntL (S.I (m+1))).filter (ntK t.toNat) → Q (.inl (some (vI (((ntL (S.I (m+1))).length : Int) - ((ntL (S.I (m+1))).filter (ntK t.toNat)).length)))) S')
    (h1 : ¬ (0 ≤ t ∧ t < (n : Int)) → ∀ S', RQ m S S' → S'.I m 0 = 1 → Q (.inl (some (vI 0))) S') : Mw hX11_grown yX11_grown d [vA m, vI t] S Q := by
  have hL := hI.1
  have hg := hI.2.1
  have e0 : (S.setI m 0 0).I (m+1) = S.I (m+1) := sI_Ia (by omega)
  obtain ⟨dd, rfl⟩ : ∃ e, d = e + 1 := ⟨d - 1, by omega⟩
  refine MX11_grown ?_
  have hl := hL
  unfold RLay at hl
  unfold VX11_grown_0
  simp only [hl, sI_K, sI_N, sI_R, sI_J, Option.some.injEq, exists_eq_left', true_and, and_true, Int.toNat_zero, Int.reduceToNat, Int.reduceLT, Int.reduceLE, Int.cast_ofNat_Int, forall_eq, ge_iff_le, Int.reduceNeg, Int.reduceAdd, Int.reduceSub, Int.reduceMul, Int.reduceEq, r32_0, r32_1, r32_m1, b01_0, b01_1, not_true_eq_false, not_false_eq_true, false_implies, true_implies, implies_true, forall_const]
  refine l_no (n := n) (by omega) hI ht (fun r hr => oI_i ⟨hL.1, t_if (by omega) (by exact hL) hr (fun c => oI_i ?_) (fun c => oI_i ?_)⟩)
  · have c' : 0 ≤ t ∧ t < (n : Int) := Classical.byContradiction c
    simp only [hl, sI_K, sI_N, sI_R, sI_J, Option.some.injEq, exists_eq_left', true_and, and_true, Int.toNat_zero, Int.reduceToNat, Int.reduceLT, Int.reduceLE, Int.cast_ofNat_Int, forall_eq, ge_iff_le, Int.reduceNeg, Int.reduceAdd, Int.reduceSub, Int.reduceMul, Int.reduceEq, r32_0, r32_1, r32_m1, b01_0, b01_1, not_true_eq_false, not_false_eq_true, false_implies, true_implies, implies_true, forall_const]
    refine ⟨(ntL (S.I (m+1))).length + 1, ?_⟩
    rw [show t = (t.toNat : Int) by omega]
    refine f_grown (n := n) (w0 := S.I (m+1)) (by omega) (by omega) hg.1.2.1 (ntL (S.I (m+1))).length (k := 0) (c := 0) (by exact hL) (by rw [e0]; exact hg) (by rw [e0]; exact fun q _ _ => rfl) (by omega) (by rw [ntL_len]; exact hg.2.2.1.2) (by rw [e0]; rfl) rfl (fun S' f k1 k2 k3 => ?_)
    refine h0 c' S' _ (ru_of (RQ.s0 hI.2.2) f (by decide) (by decide) (by decide) (by decide) (by decide) rfl) (by rw [f.fld (by decide), sI_I, if_pos ⟨rfl, rfl⟩]) k1 k2 k3
  · simp only [hl, sI_K, sI_N, sI_R, sI_J, Option.some.injEq, exists_eq_left', true_and, and_true, Int.toNat_zero, Int.reduceToNat, Int.reduceLT, Int.reduceLE, Int.cast_ofNat_Int, forall_eq, ge_iff_le, Int.reduceNeg, Int.reduceAdd, Int.reduceSub, Int.reduceMul, Int.reduceEq, r32_0, r32_1, r32_m1, b01_0, b01_1, not_true_eq_false, not_false_eq_true, false_implies, true_implies, implies_true, forall_const]
    exact h1 c _ (rq_x hI) rq_t
/-! the image -/
theorem f_image {d m : Nat} {Q : Out → MS → Prop} : ∀ (j : Nat) {S : MS} {k : Nat}, RLay S m → k + j = 71 → (∀ q, q < k → S.I (m+2) q = S.I (m+1) q) →
    (∀ S', Fr m [2] [4] S S' → S'.I m 4 = 1 → (∀ q, q < 71 → S'.I (m+2) q = S.I (m+1) q) → Q (.inl none) S') → VX11_image_7 d Q (j + 1) m (k : Nat) S := by
  intro j
  induction j with
  | zero =>
    intro S k hL hk h1 h
    have hl := hL
    unfold RLay at hl
    unfold VX11_image_7
    refine ⟨⟨(by unfold R32; omega), (by unfold R32; omega)⟩, fun _ => ⟨⟨hL.1, b01_1⟩, h _ (Fr.sB (by decide)) (by rw [sI_I, if_pos ⟨rfl, rfl⟩]) (fun q hq => ?_)⟩, fun c => by omega⟩
    rw [sI_Ia (by omega)]
    exact h1 q (by omega)
  | succ j ih =>
    intro S k hL hk h1 h
    have hl := hL
    unfold RLay at hl
    unfold VX11_image_7
    refine ⟨⟨(by unfold R32; omega), (by unfold R32; omega)⟩, fun _ => by omega, fun c => ?_⟩
    simp only [hl, sI_K, sI_N, sI_R, sI_J, Option.some.injEq, exists_eq_left', true_and, and_true, Int.toNat_zero, Int.reduceToNat, Int.reduceLT, Int.reduceLE, Int.cast_ofNat_Int, forall_eq, ge_iff_le, Int.reduceNeg, Int.reduceAdd, Int.reduceSub, Int.reduceMul, Int.reduceEq, r32_0, r32_1, r32_m1, b01_0, b01_1, not_true_eq_false, not_false_eq_true, false_implies, true_implies, implies_true, forall_const]
    rw [Int.toNat_natCast]
    refine ⟨by omega, by omega, ih (k := k + 1) (by exact hL) (by omega) (fun q hq => ?_) (fun S' f k1 k2 => h S' ((Fr.sA (by decide) (by decide)).tr f) k1 (fun q hq => ?_))⟩
    · rw [sI_I, sI_Ia (by omega)]
      by_cases c : q = k
      · rw [if_pos ⟨rfl, c⟩, c]
      · rw [if_neg (fun k => c k.2), h1 q (by omega)]
    · rw [k2 q hq, sI_Ia (by omega)]
theorem c_image {d m : Nat} {S : MS} {Q : Out → MS → Prop} (hd : 1 ≤ d) (hL : RLay S m) (h : ∀ S', Fr m [2] [0, 4] S S' → S'.I m 0 = 0 → S'.I m 4 = 1 → (∀ q, q < 71 → S'.I (m+2) q = S.I (m+1) q) → Q (.inl none) S') : Mw hX11_image yX11_image d [vA m] S Q := by
  obtain ⟨dd, rfl⟩ : ∃ e, d = e + 1 := ⟨d - 1, by omega⟩
  refine MX11_image ?_
  have hl := hL
  unfold RLay at hl
  unfold VX11_image_0
  simp only [hl, sI_K, sI_N, sI_R, sI_J, Option.some.injEq, exists_eq_left', true_and, and_true, Int.toNat_zero, Int.reduceToNat, Int.reduceLT, Int.reduceLE, Int.cast_ofNat_Int, forall_eq, ge_iff_le, Int.reduceNeg, Int.reduceAdd, Int.reduceSub, Int.reduceMul, Int.reduceEq, r32_0, r32_1, r32_m1, b01_0, b01_1, not_true_eq_false, not_false_eq_true, false_implies, true_implies, implies_true, forall_const]
  refine ⟨_, f_image 71 (k := 0) (by exact hL) (by omega) (fun q hq => absurd hq (Nat.not_lt_zero q)) (fun S' f k1 k2 => h S' ((Fr.sB (by decide)).tr (f.wk (by decide) (by decide))) (by rw [f.fld (by decide), sI_I, if_pos ⟨rfl, rfl⟩]) k1 (fun q hq => ?_))⟩
  rw [k2 q hq, sI_Ia (by omega)]
theorem f_back {d m : Nat} {Q : Out → MS → Prop} : ∀ (j : Nat) {S : MS} {k : Nat}, RLay S m → k + j = 71 → (∀ q, q < k → S.I (m+1) q = S.I (m+2) q) →
    (∀ S', Fr m [1] [] S S' → (∀ q, q < 71 → S'.I (m+1) q = S.I (m+2) q) → Q (.inl (some (vI 1))) S') → VX11_back_16 d Q (j + 1) m (k : Nat) S := by
  intro j
  induction j with
  | zero =>
    intro S k hL hk h1 h
    unfold VX11_back_16
    refine ⟨⟨(by unfold R32; omega), (by unfold R32; omega)⟩, fun _ => ⟨b01_1, h _ Fr.rf (fun q hq => h1 q (by omega))⟩, fun c => by omega⟩
  | succ j ih =>
    intro S k hL hk h1 h
    have hl := hL
    unfold RLay at hl
    unfold VX11_back_16
    refine ⟨⟨(by unfold R32; omega), (by unfold R32; omega)⟩, fun _ => by omega, fun c => ?_⟩
    simp only [hl, sI_K, sI_N, sI_R, sI_J, Option.some.injEq, exists_eq_left', true_and, and_true, Int.toNat_zero, Int.reduceToNat, Int.reduceLT, Int.reduceLE, Int.cast_ofNat_Int, forall_eq, ge_iff_le, Int.reduceNeg, Int.reduceAdd, Int.reduceSub, Int.reduceMul, Int.reduceEq, r32_0, r32_1, r32_m1, b01_0, b01_1, not_true_eq_false, not_false_eq_true, false_implies, true_implies, implies_true, forall_const]
    rw [Int.toNat_natCast]
    refine ⟨by omega, by omega, ih (k := k + 1) (by exact hL) (by omega) (fun q hq => ?_) (fun S' f k2 => h S' ((Fr.sA (by decide) (by decide)).tr f) (fun q hq => ?_))⟩
    · rw [sI_I, sI_Ia (b := m+2) (by omega)]
      by_cases c : q = k
      · rw [if_pos ⟨rfl, c⟩, c]
      · rw [if_neg (fun k => c k.2), h1 q (by omega)]
    · rw [k2 q hq, sI_Ia (by omega)]
theorem c_back {d m : Nat} {S : MS} {Q : Out → MS → Prop} (hd : 1 ≤ d) (hL : RLay S m) (hb : B01 (S.I m 4)) (h0 : S.I m 4 = 0 → Q (.inl (some (vI 0))) (S.setI m 0 0)) (h1 : S.I m 4 = 1 → ∀ S', Fr m [1] [0] S S' → S'.I m 0 = 0 → (∀ q, q < 71 → S'.I (m+1) q = S.I (m+2) q) → Q (.inl (some (vI 1))) S') : Mw hX11_back yX11_back d [vA m] S Q := by
  obtain ⟨dd, rfl⟩ : ∃ e, d = e + 1 := ⟨d - 1, by omega⟩
  refine MX11_back ?_
  have hl := hL
  unfold RLay at hl
  unfold VX11_back_0
  simp only [hl, sI_K, sI_N, sI_R, sI_J, Option.some.injEq, exists_eq_left', true_and, and_true, Int.toNat_zero, Int.reduceToNat, Int.reduceLT, Int.reduceLE, Int.cast_ofNat_Int, forall_eq, ge_iff_le, Int.reduceNeg, Int.reduceAdd, Int.reduceSub, Int.reduceMul, Int.reduceEq, r32_0, r32_1, r32_m1, b01_0, b01_1, not_true_eq_false, not_false_eq_true, false_implies, true_implies, implies_true, forall_const]
  rw [sI_I, if_neg (by omega)]
  refine ⟨b01_r hb, fun c => ⟨_, f_back 71 (k := 0) (by exact hL) (by omega) (fun q hq => absurd hq (Nat.not_lt_zero q)) (fun S' f k2 => h1 ?_ S' ((Fr.sB (by decide)).tr (f.wk (by decide) (by decide))) (by rw [f.fld (by decide), sI_I, if_pos ⟨rfl, rfl⟩]) (fun q hq => ?_))⟩, h0⟩
  · rcases hb with hb | hb
    · exact absurd hb c
    · exact hb
  · rw [k2 q hq, sI_Ia (by omega)]
theorem c_fault {d m : Nat} {S : MS} {Q : Out → MS → Prop} (hd : 1 ≤ d) (hL : RLay S m) (h : Q (.inl (some (vI (S.I m 10)))) (S.setI m 0 0)) : Mw hX11_fault yX11_fault d [vA m] S Q := by
  obtain ⟨dd, rfl⟩ : ∃ e, d = e + 1 := ⟨d - 1, by omega⟩
  refine MX11_fault ?_
  have hl := hL
  unfold RLay at hl
  unfold VX11_fault_0
  simp only [hl, sI_K, sI_N, sI_R, sI_J, Option.some.injEq, exists_eq_left', true_and, and_true, Int.toNat_zero, Int.reduceToNat, Int.reduceLT, Int.reduceLE, Int.cast_ofNat_Int, forall_eq, ge_iff_le, Int.reduceNeg, Int.reduceAdd, Int.reduceSub, Int.reduceMul, Int.reduceEq, r32_0, r32_1, r32_m1, b01_0, b01_1, not_true_eq_false, not_false_eq_true, false_implies, true_implies, implies_true, forall_const]
  rw [sI_I, if_neg (by omega)]
  exact h
theorem c_end {d m len : Nat} {S : MS} {Q : Out → MS → Prop} {x : Int} (hd : 1 ≤ d) (hL : RLay S m) (hx : R32 x) (e : S.I m 6 = (len : Int)) (hlen : len ≤ 400) (h0 : ¬ (0 ≤ x ∧ x ≤ (len : Int)) → Q (.inl (some (vI 0))) (S.setI m 0 0)) (h1 : (0 ≤ x ∧ x ≤ (len : Int)) → Q (.inl (some (vI 1))) ((S.setI m 0 0).setI m 6 x)) : Mw hX11_end yX11_end d [vA m, vI x] S Q := by
  obtain ⟨dd, rfl⟩ : ∃ e, d = e + 1 := ⟨d - 1, by omega⟩
  refine MX11_end ?_
  have hl := hL
  unfold RLay at hl
  unfold VX11_end_0
  simp only [hl, sI_K, sI_N, sI_R, sI_J, Option.some.injEq, exists_eq_left', true_and, and_true, Int.toNat_zero, Int.reduceToNat, Int.reduceLT, Int.reduceLE, Int.cast_ofNat_Int, forall_eq, ge_iff_le, Int.reduceNeg, Int.reduceAdd, Int.reduceSub, Int.reduceMul, Int.reduceEq, r32_0, r32_1, r32_m1, b01_0, b01_1, not_true_eq_false, not_false_eq_true, false_implies, true_implies, implies_true, forall_const]
  rw [sI_I, if_neg (by omega), e]
  exact ⟨hx, fun c => h0 (by omega), fun c => ⟨⟨hx, (by unfold R32; omega)⟩, fun c2 => h1 (by omega), fun c2 => h0 (by omega)⟩⟩
