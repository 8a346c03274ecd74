noncomputable def pI (P : Prop) : Int := @ite Int P (Classical.propDecidable P) 1 0
theorem pI_y {P : Prop} (h : P) : pI P = 1 := if_pos h
theorem pI_n {P : Prop} (h : ¬ P) : pI P = 0 := if_neg h
theorem BI.e {r : Int} {P : Prop} (h : BI r P) : r = pI P := by
  rcases h with ⟨rfl, h⟩ | ⟨rfl, h⟩
  · exact (pI_y h).symm
  · exact (pI_n h).symm
theorem pI_B (P : Prop) : BI (pI P) P := by
  by_cases h : P
  · rw [pI_y h]; exact .y h
  · rw [pI_n h]; exact .n h
theorem f_places {d m n t : Nat} {w : Nat → Int} {L : List Nat} {S : MS} {Q : Out → MS → Prop} (hd : 2 ≤ d) (hD : RD S m n w L) (ht : t < n) (h : Q (.inl (some (vI (mskL (fun r => plc n r t) L : Nat)))) S) : ∀ (j : Nat) {k : Nat}, k + j = L.length → VX11_places_28 d Q (j + 1) m (t : Nat) (mskL (fun r => plc n r t) (L.take k) : Nat) (k : Nat) S := by
  obtain ⟨hL, hw, hg, hT, hK, hrow, hlen⟩ := hD
  have h3 := hg.1.1
  have h7 := hg.1.2.1
  have hf := fct_le h3 h7
  intro j
  induction j with
  | zero =>
    intro k hk
    have hl := hL
    unfold RLay at hl
    unfold VX11_places_28
    simp only [hl, sI_K, sI_N, sI_R, sI_J, Option.some.injEq, exists_eq_left', true_and, and_true, Int.toNat_zero, Int.reduceToNat, Int.reduceLT, Int.reduceLE, Int.cast_ofNat_Int, forall_eq, ge_iff_le, Int.reduceNeg, Int.reduceAdd, Int.reduceSub, Int.reduceMul, Int.reduceEq, r32_0, r32_1, r32_m1, b01_0, b01_1, not_true_eq_false, not_false_eq_true, false_implies, true_implies, implies_true, forall_const]
    rw [hK.1]
    refine ⟨⟨(by unfold R32; omega), (by unfold R32; omega)⟩, fun _ => ?_, fun c => by omega⟩
    rw [show L.take k = L by rw [show k = L.length by omega]; exact List.take_length]
    exact h
  | succ j ih =>
    intro k hk
    have hl := hL
    unfold RLay at hl
    have hkl : k < L.length := by omega
    have hrk := hrow _ (getD_mem hkl)
    unfold VX11_places_28
    simp only [hl, sI_K, sI_N, sI_R, sI_J, Option.some.injEq, exists_eq_left', true_and, and_true, Int.toNat_zero, Int.reduceToNat, Int.reduceLT, Int.reduceLE, Int.cast_ofNat_Int, forall_eq, ge_iff_le, Int.reduceNeg, Int.reduceAdd, Int.reduceSub, Int.reduceMul, Int.reduceEq, r32_0, r32_1, r32_m1, b01_0, b01_1, not_true_eq_false, not_false_eq_true, false_implies, true_implies, implies_true, forall_const]
    rw [hK.1]
    refine ⟨⟨(by unfold R32; omega), (by unfold R32; omega)⟩, fun _ => by omega, fun c => c_rowAt (r := 0) (p := k) (by omega) hL rfl rfl (by omega) (oI_i ⟨hL.1, ?_⟩)⟩
    rw [hK.2 k hkl]
    refine c_placeOf (n := n) (t := t) (by omega) hL h3 h7 hT rfl rfl hrk ht (oI_i ?_)
    have p1 := plc_lt h3 h7 hrk ht
    have q1 := mskL_lt (fun r => plc n r t) (L.take k)
    have q2 : 2 ^ plc n (L.getD k 0) t ≤ 2 ^ 6 := Nat.pow_le_pow_right (by decide) (by omega)
    rw [i1_shl (by omega), iOr_n (by omega) (by omega), ← mskL_s (g := fun r => plc n r t) hkl (by omega), (show ∀ (k : Nat), (k : Int) + 1 = ((k + 1 : Nat) : Int) from fun _ => rfl) k]
    exact ih (by omega)
noncomputable def A_places (n : Nat) (w : Nat → Int) (x : Int) : Int × Int := if 0 ≤ x ∧ x < (n : Int) then (0, (mskL (fun r => plc n r x.toNat) (rowsL n w 0) : Nat)) else (1, 0)
theorem c_places {d m n : Nat} {S : MS} {Q : Out → MS → Prop} {x : Int} (hd : 7 ≤ d) (hI : RI S m n) (hx : R32 x) (h : ∀ S', RQ m S S' → S'.I m 0 = (A_places n (S.I (m+1)) x).1 → Q (.inl (some (vI (A_places n (S.I (m+1)) x).2))) S') : Mw hX11_places yX11_places d [vA m, vI x] S Q := by
  have hL := hI.1
  obtain ⟨dd, rfl⟩ : ∃ e, d = e + 1 := ⟨d - 1, by omega⟩
  refine MX11_places ?_
  have hl := hL
  unfold RLay at hl
  unfold VX11_places_0
  simp only [hl, sI_K, sI_N, sI_R, sI_J, Option.some.injEq, exists_eq_left', true_and, and_true, Int.toNat_zero, Int.reduceToNat, Int.reduceLT, Int.reduceLE, Int.cast_ofNat_Int, forall_eq, ge_iff_le, Int.reduceNeg, Int.reduceAdd, Int.reduceSub, Int.reduceMul, Int.reduceEq, r32_0, r32_1, r32_m1, b01_0, b01_1, not_true_eq_false, not_false_eq_true, false_implies, true_implies, implies_true, forall_const]
  refine l_no (n := n) (by omega) hI hx (fun r hr => oI_i ⟨hL.1, t_if (by omega) (by exact hL) hr (fun c => oI_i ?_) (fun c => oI_i ?_)⟩)
  · simp only [hl, sI_K, sI_N, sI_R, sI_J, Option.some.injEq, exists_eq_left', true_and, and_true, Int.toNat_zero, Int.reduceToNat, Int.reduceLT, Int.reduceLE, Int.cast_ofNat_Int, forall_eq, ge_iff_le, Int.reduceNeg, Int.reduceAdd, Int.reduceSub, Int.reduceMul, Int.reduceEq, r32_0, r32_1, r32_m1, b01_0, b01_1, not_true_eq_false, not_false_eq_true, false_implies, true_implies, implies_true, forall_const]
    have c' : 0 ≤ x ∧ x < (n : Int) := Classical.byContradiction c
    refine l_lv (n := n) (by omega) hI (fun S1 q1 t1 d1 => oV_i ⟨(rowsL n (S.I (m+1)) 0).length + 1, ?_⟩)
    have := f_places (Q := Q) (t := x.toNat) (d := dd) (by omega) d1 (by omega) (fin h (by unfold A_places; rw [if_pos c']) q1 t1) _ (k := 0) (Nat.zero_add _)
    rw [List.take_zero, mskL_0, show (x.toNat : Int) = x by omega] at this
    exact this
  · simp only [hl, sI_K, sI_N, sI_R, sI_J, Option.some.injEq, exists_eq_left', true_and, and_true, Int.toNat_zero, Int.reduceToNat, Int.reduceLT, Int.reduceLE, Int.cast_ofNat_Int, forall_eq, ge_iff_le, Int.reduceNeg, Int.reduceAdd, Int.reduceSub, Int.reduceMul, Int.reduceEq, r32_0, r32_1, r32_m1, b01_0, b01_1, not_true_eq_false, not_false_eq_true, false_implies, true_implies, implies_true, forall_const]
    exact fin h (by unfold A_places; rw [if_neg c]) (rq_x hI) rq_t
/-! ends -/
def eo (n r : Nat) : Nat := 2 ^ rat n r 0 ||| 2 ^ rat n r (n - 1)
theorem eo_lt {n r : Nat} (h3 : 3 ≤ n) (h7 : n ≤ 7) (hr : r < fct n) : eo n r < 128 := by
  have h1 := rat_lt h3 h7 hr (show 0 < n by omega)
  have h2 := rat_lt h3 h7 hr (show n - 1 < n by omega)
  exact Nat.or_lt_two_pow (n := 7) (Nat.pow_lt_pow_right (by decide) (by omega)) (Nat.pow_lt_pow_right (by decide) (by omega))
theorem c_endsOf {d m n r : Nat} {S : MS} {Q : Out → MS → Prop} {x : Int} (hd : 2 ≤ d) (hL : RLay S m) (h3 : 3 ≤ n) (h7 : n ≤ 7) (hT : Tb S m n) (e : x = (r : Int)) (hr : r < fct n) (h : Q (.inl (some (vI (eo n r : Nat)))) S) : Mw hX11_endsOf yX11_endsOf d [vA m, vI x] S Q := by
  subst e
  have hf := fct_le h3 h7
  have h1 := rat_lt h3 h7 hr (show 0 < n by omega)
  have h2 := rat_lt h3 h7 hr (show n - 1 < n by omega)
  have q1 : 2 ^ rat n r 0 ≤ 2 ^ 6 := Nat.pow_le_pow_right (by decide) (by omega)
  have q2 : 2 ^ rat n r (n - 1) ≤ 2 ^ 6 := Nat.pow_le_pow_right (by decide) (by omega)
  obtain ⟨dd, rfl⟩ : ∃ e, d = e + 1 := ⟨d - 1, by omega⟩
  refine MX11_endsOf ?_
  have hl := hL
  unfold RLay at hl
  unfold VX11_endsOf_0
  simp only [hl, sI_K, sI_N, sI_R, sI_J, Option.some.injEq, exists_eq_left', true_and, and_true, Int.toNat_zero, Int.reduceToNat, Int.reduceLT, Int.reduceLE, Int.cast_ofNat_Int, forall_eq, ge_iff_le, Int.reduceNeg, Int.reduceAdd, Int.reduceSub, Int.reduceMul, Int.reduceEq, r32_0, r32_1, r32_m1, b01_0, b01_1, not_true_eq_false, not_false_eq_true, false_implies, true_implies, implies_true, forall_const]
  refine c_at (r := r) (p := 0) (by omega) hL rfl rfl (by omega) (oI_i ⟨hL.1, hL.1, c_at (r := r) (p := n - 1) (by omega) hL rfl (by rw [hT.1]; omega) (by omega) (oI_i ?_)⟩)
  rw [hT.2.2 r hr 0 (by omega), hT.2.2 r hr (n - 1) (by omega), i1_shl (by omega), i1_shl (by omega), iOr_n (by omega) (by omega)]
  exact h
def enB (n : Nat) (L : List Nat) (s : Nat) : Bool := L.any (fun r => decide (eo n r = s))
def enC (n : Nat) (L : List Nat) : Nat := cntB (enB n L) 128
theorem cntB_upd (p : Nat → Bool) {t : Nat} : ∀ {n : Nat}, t < n → cntB (fun s => p s || decide (s = t)) n = cntB p n + (if p t then 0 else 1)
  | 0, h => absurd h (Nat.not_lt_zero t)
  | n + 1, h => by
    unfold cntB
    by_cases e : t = n
    · subst e
      have : cntB (fun s => p s || decide (s = t)) t = cntB p t := cntB_cong (fun k hk => by simp; omega)
      rw [this]
      cases p t <;> simp
    · rw [cntB_upd p (n := n) (by omega)]
      simp only [show ¬ n = t from fun k => e k.symm, decide_false, Bool.or_false]
      omega
theorem enB_s {n : Nat} {L : List Nat} {k : Nat} (h : k < L.length) : enB n (L.take (k + 1)) = fun s => enB n (L.take k) s || decide (s = eo n (L.getD k 0)) := by
  funext s
  unfold enB
  rw [any_s h]
  congr 1
  simp only [eq_comm]
def EnA (S : MS) (m n : Nat) (L : List Nat) : Prop := ∀ s, s < 128 → S.I (m+10) s = if enB n L s then 1 else 0
theorem RD.fr {S S1 : MS} {m n : Nat} {w : Nat → Int} {L A B : List Nat} (h : RD S m n w L) (f : Fr m A B S S1) (h1 : 1 ∉ A) (h6 : 6 ∉ A) (h8 : 8 ∉ A) (h9 : 9 ∉ A) (h13 : 13 ∉ B) (h14 : 14 ∉ B) : RD S1 m n w L :=
  ⟨f.lay h.1, (f.arr (by decide) h1).trans h.2.1, h.2.2.1, f.tb h6 h13 h14 h.2.2.2.1, f.kl h8 h9 h.2.2.2.2.1, h.2.2.2.2.2⟩
theorem f_ends26 {d m n : Nat} {w : Nat → Int} {L : List Nat} {Q : Out → MS → Prop} (hd : 3 ≤ d) : ∀ (j : Nat) {S : MS} {k : Nat}, RD S m n w L → k + j = L.length → EnA S m n (L.take k) → (∀ S', Fr m [10] [] S S' → EnA S' m n L → Q (.inl (some (vI (enC n L : Nat)))) S') → VX11_endsNow_26 d Q (j + 1) m (enC n (L.take k) : Nat) (k : Nat) S := by
  intro j
  induction j with
  | zero =>
    intro S k hD hk hE h
    obtain ⟨hL, hw, hg, hT, hK, hrow, hlen⟩ := hD
    have h3 := hg.1.1
    have h7 := hg.1.2.1
    have hf := fct_le h3 h7
    have hl := hL
    unfold RLay at hl
    unfold VX11_endsNow_26
    simp only [hl, sI_K, sI_N, sI_R, sI_J, Option.some.injEq, exists_eq_left', true_and, and_true, Int.toNat_zero, Int.reduceToNat, Int.reduceLT, Int.reduceLE, Int.cast_ofNat_Int, forall_eq, ge_iff_le, Int.reduceNeg, Int.reduceAdd, Int.reduceSub, Int.reduceMul, Int.reduceEq, r32_0, r32_1, r32_m1, b01_0, b01_1, not_true_eq_false, not_false_eq_true, false_implies, true_implies, implies_true, forall_const]
    rw [hK.1]
    refine ⟨⟨(by unfold R32; omega), (by unfold R32; omega)⟩, fun _ => ?_, fun c => by omega⟩
    have e : L.take k = L := by rw [show k = L.length by omega]; exact List.take_length
    rw [e] at hE ⊢
    exact h S Fr.rf hE
  | succ j ih =>
    intro S k hD hk hE h
    have hD' := hD
    obtain ⟨hL, hw, hg, hT, hK, hrow, hlen⟩ := hD
    have h3 := hg.1.1
    have h7 := hg.1.2.1
    have hf := fct_le h3 h7
    have hl := hL
    unfold RLay at hl
    have hkl : k < L.length := by omega
    have hrk := hrow _ (getD_mem hkl)
    have heo := eo_lt h3 h7 hrk
    unfold VX11_endsNow_26
    simp only [hl, sI_K, sI_N, sI_R, sI_J, Option.some.injEq, exists_eq_left', true_and, and_true, Int.toNat_zero, Int.reduceToNat, Int.reduceLT, Int.reduceLE, Int.cast_ofNat_Int, forall_eq, ge_iff_le, Int.reduceNeg, Int.reduceAdd, Int.reduceSub, Int.reduceMul, Int.reduceEq, r32_0, r32_1, r32_m1, b01_0, b01_1, not_true_eq_false, not_false_eq_true, false_implies, true_implies, implies_true, forall_const]
    rw [hK.1]
    refine ⟨⟨(by unfold R32; omega), (by unfold R32; omega)⟩, fun _ => by omega, fun c => c_rowAt (r := 0) (p := k) (by omega) hL rfl rfl (by omega) (oI_i ⟨hL.1, ?_⟩)⟩
    rw [hK.2 k hkl]
    refine c_endsOf (n := n) (r := L.getD k 0) (by omega) hL h3 h7 hT rfl hrk (oI_i ?_)
    unfold VX11_endsNow_62
    simp only [hl, sI_K, sI_N, sI_R, sI_J, Option.some.injEq, exists_eq_left', true_and, and_true, Int.toNat_zero, Int.reduceToNat, Int.reduceLT, Int.reduceLE, Int.cast_ofNat_Int, forall_eq, ge_iff_le, Int.reduceNeg, Int.reduceAdd, Int.reduceSub, Int.reduceMul, Int.reduceEq, r32_0, r32_1, r32_m1, b01_0, b01_1, not_true_eq_false, not_false_eq_true, false_implies, true_implies, implies_true, forall_const]
    rw [Int.toNat_natCast, hE _ heo]
    have e1 := enB_s (n := n) hkl
    have e2 : enC n (L.take (k + 1)) = enC n (L.take k) + (if enB n (L.take k) (eo n (L.getD k 0)) then 0 else 1) := by
      unfold enC
      rw [e1]
      exact cntB_upd _ heo
    have fin2 : VX11_endsNow_26 d Q (j + 1) m (enC n (L.take (k + 1)) : Nat) ((k + 1 : Nat) : Int) (S.setI (m+10) (eo n (L.getD k 0)) 1) := by
      refine ih (hD'.fr (A := [10]) (B := []) (Fr.sA (by decide) (by decide)) (by decide) (by decide) (by decide) (by decide) (by decide) (by decide)) (by omega) (fun s hs => ?_) (fun S' f1 f2 => h S' ((Fr.sA (by decide) (by decide)).tr f1) f2)
      rw [sI_I, e1]
      by_cases c1 : s = eo n (L.getD k 0)
      · rw [if_pos ⟨rfl, c1⟩, if_pos (by simp only [c1, decide_true, Bool.or_true])]
      · rw [if_neg (by omega), hE s hs]
        simp only [c1, decide_false, Bool.or_false]
    rw [e2] at fin2
    cases hb : enB n (L.take k) (eo n (L.getD k 0))
    · rw [hb] at fin2
      rw [if_neg (by decide)]
      exact ⟨⟨by omega, by omega⟩, r32_0, fun _ => ⟨⟨by omega, by omega⟩, fin2⟩, fun c => absurd rfl c⟩
    · rw [hb] at fin2
      rw [if_pos rfl]
      exact ⟨⟨by omega, by omega⟩, r32_1, fun c => absurd c (by decide), fun _ => ⟨⟨by omega, by omega⟩, fin2⟩⟩
theorem f_ends2 {d m n : Nat} {w : Nat → Int} {L : List Nat} {Q : Out → MS → Prop} (hd : 3 ≤ d) : ∀ (j : Nat) {S : MS} {s : Nat}, RD S m n w L → s + j = 128 → (∀ k, k < s → S.I (m+10) k = 0) → (∀ S', Fr m [10] [] S S' → EnA S' m n L → Q (.inl (some (vI (enC n L : Nat)))) S') → VX11_endsNow_2 d Q (j + 1) m (s : Nat) S := by
  intro j
  induction j with
  | zero =>
    intro S s hD hs hE h
    unfold VX11_endsNow_2
    refine ⟨⟨(by unfold R32; omega), (by unfold R32; omega)⟩, fun _ => ⟨L.length + 1, ?_⟩, fun c => by omega⟩
    have := f_ends26 (Q := Q) (k := 0) hd L.length hD (Nat.zero_add _) (fun k hk => by rw [hE k (by omega)]; rfl) h
    have e : enC n (L.take 0) = 0 := cntB_0 (fun k _ => rfl)
    rw [e] at this
    exact this
  | succ j ih =>
    intro S s hD hs hE h
    have hL := hD.1
    have hl := hL
    unfold RLay at hl
    unfold VX11_endsNow_2
    refine ⟨⟨(by unfold R32; omega), (by unfold R32; omega)⟩, fun _ => by omega, fun c => ?_⟩
    simp only [hl, sI_K, sI_N, sI_R, sI_J, Option.some.injEq, exists_eq_left', true_and, and_true, Int.toNat_zero, Int.reduceToNat, Int.reduceLT, Int.reduceLE, Int.cast_ofNat_Int, forall_eq, ge_iff_le, Int.reduceNeg, Int.reduceAdd, Int.reduceSub, Int.reduceMul, Int.reduceEq, r32_0, r32_1, r32_m1, b01_0, b01_1, not_true_eq_false, not_false_eq_true, false_implies, true_implies, implies_true, forall_const]
    rw [Int.toNat_natCast]
    refine ⟨by omega, ih (s := s + 1) (hD.fr (A := [10]) (B := []) (Fr.sA (by decide) (by decide)) (by decide) (by decide) (by decide) (by decide) (by decide) (by decide)) (by omega) (fun k hk => ?_) (fun S' f1 f2 => h S' ((Fr.sA (by decide) (by decide)).tr f1) f2)⟩
    rw [sI_I]
    split
    · rfl
    · exact hE k (by omega)
theorem c_endsNow {d m n : Nat} {w : Nat → Int} {L : List Nat} {S : MS} {Q : Out → MS → Prop} (hd : 4 ≤ d) (hD : RD S m n w L) (h : ∀ S', Fr m [10] [] S S' → EnA S' m n L → Q (.inl (some (vI (enC n L : Nat)))) S') : Mw hX11_endsNow yX11_endsNow d [vA m] S Q := by
  obtain ⟨dd, rfl⟩ : ∃ e, d = e + 1 := ⟨d - 1, by omega⟩
  refine MX11_endsNow ?_
  unfold VX11_endsNow_0
  exact ⟨_, f_ends2 (by omega) 128 (s := 0) hD (by omega) (fun k hk => absurd hk (Nat.not_lt_zero k)) h⟩
theorem Fr.tbl {m : Nat} {A B : List Nat} {S S1 : MS} (h : Fr m A B S S1) (h1 : 6 ∉ A) (h2 : 13 ∉ B) (h3 : 14 ∉ B) (k : Tbl S m) : Tbl S1 m := by
  unfold Tbl
  rw [h.fld h3]
  exact ⟨k.1, fun n a b c => h.tb h1 h2 h3 (k.2 n a b c)⟩
theorem RQ.fr {m : Nat} {A B : List Nat} {S S1 S2 : MS} (h : RQ m S S1) (f : Fr m A B S1 S2) (ha : ∀ o ∈ A, o ∈ A0) (hb : ∀ o ∈ B, o ∈ B0) (h1 : 6 ∉ A) (h2 : 13 ∉ B) (h3 : 14 ∉ B) : RQ m S S2 := ⟨h.1.tr (f.wk ha hb), f.tbl h1 h2 h3 h.2⟩
theorem c_ends {d m n : Nat} {S : MS} {Q : Out → MS → Prop} (hd : 7 ≤ d) (hI : RI S m n) (h : ∀ S', RQ m S S' → S'.I m 0 = 0 → Q (.inl (some (vI (enC n (rowsL n (S.I (m+1)) 0) : Nat)))) S') : Mw hX11_ends yX11_ends d [vA m] S Q := by
  have hL := hI.1
  obtain ⟨dd, rfl⟩ : ∃ e, d = e + 1 := ⟨d - 1, by omega⟩
  refine MX11_ends ?_
  have hl := hL
  unfold RLay at hl
  unfold VX11_ends_0
  simp only [hl, sI_K, sI_N, sI_R, sI_J, Option.some.injEq, exists_eq_left', true_and, and_true, Int.toNat_zero, Int.reduceToNat, Int.reduceLT, Int.reduceLE, Int.cast_ofNat_Int, forall_eq, ge_iff_le, Int.reduceNeg, Int.reduceAdd, Int.reduceSub, Int.reduceMul, Int.reduceEq, r32_0, r32_1, r32_m1, b01_0, b01_1, not_true_eq_false, not_false_eq_true, false_implies, true_implies, implies_true, forall_const]
  refine l_lv (n := n) (by omega) hI (fun S1 q1 t1 d1 => oV_i ⟨d1.1.1, c_endsNow (by omega) d1 (fun S2 f2 e2 => oI_i ?_)⟩)
  exact h S2 (q1.fr f2 (by decide) (by decide) (by decide) (by decide) (by decide)) (by rw [f2.fld (by decide), t1])
/-- the k-th pair of ends -/
def scP (p : Nat → Nat → Bool) (n : Nat) : Nat → Nat → Nat → Int → Int
  | 0, _, _, _ => -1
  | f + 1, a, b, l => if n ≤ a then -1 else if n ≤ b then scP p n f (a + 1) (a + 2) l else if p a b then (if l = 0 then 10 * (a : Int) + (b : Int) else scP p n f a (b + 1) (l - 1)) else scP p n f a (b + 1) l
def enP (n : Nat) (L : List Nat) (a b : Nat) : Bool := enB n L (2 ^ a ||| 2 ^ b)
theorem or_pw {a b : Nat} (ha : a < 7) (hb : b < 7) : 2 ^ a ||| 2 ^ b < 128 := Nat.or_lt_two_pow (n := 7) (Nat.pow_lt_pow_right (by decide) ha) (Nat.pow_lt_pow_right (by decide) hb)
theorem wr_add (a b : Int) : wr (wr a + b) = wr (a + b) := by
  unfold wr
  rw [Int32.ofInt_add, Int32.ofInt_toInt, ← Int32.ofInt_add]
theorem wr_r {a : Int} (h : R32 a) : wr a = a := r32_to h
theorem wr_R (a : Int) : R32 (wr a) := ⟨Int32.le_toInt _, Int32.toInt_lt _⟩
theorem wr_0 {l : Int} (h1 : -2147484648 ≤ l) (h2 : l < 2147483648) : wr l = 0 ↔ l = 0 := by
  by_cases h : -2147483648 ≤ l
  · rw [wr_r ⟨h, h2⟩]
  · have e : wr l = l + 4294967296 := by
      have : wr (l + 4294967296) = wr l := by
        unfold wr
        rw [Int32.ofInt_add]
        have : Int32.ofInt 4294967296 = 0 := by decide
        rw [this, Int32.add_zero]
      rw [← this]
      exact wr_r ⟨by omega, by omega⟩
    omega
theorem f_pair31 {d m n : Nat} {w : Nat → Int} {L : List Nat} {Q : Out → MS → Prop} {S : MS} {c18 : Nat → Int → Int → MS → Prop} {a : Nat} (hd : 1 ≤ d) (hD : RD S m n w L) (hE : EnA S m n L) (ha : a < n) (hc : ∀ (f' : Nat) (l' : Int), 9 * (n - (a + 1)) + (n - (a + 2)) < f' → -2147484648 + f' ≤ l' → l' < 2147483648 → Q (.inl (some (vI (scP (enP n L) n f' (a + 1) (a + 2) l')))) S → c18 m (wr l') ((a : Int) + 1) S) : ∀ (j : Nat) {b f : Nat} {l : Int}, a < b → b + j = n → 9 * (n - a) + (n - b) < f → -2147484648 + f ≤ l → l < 2147483648 → Q (.inl (some (vI (scP (enP n L) n f a b l)))) S → VX11_pair_31 d c18 Q (j + 1) m (wr l) (a : Nat) (b : Nat) S := by
  obtain ⟨hL, hw, hg, hT, hK, hrow, hlen⟩ := hD
  have h3 := hg.1.1
  have h7 := hg.1.2.1
  have hf := fct_le h3 h7
  intro j
  induction j with
  | zero =>
    intro b f l hab hb hf1 h1 h2 h
    unfold VX11_pair_31
    refine ⟨hL.1, c_things (by omega) hL (oI_i ?_)⟩
    rw [hw, hg.1.2.2]
    obtain ⟨f, rfl⟩ : ∃ f', f = f' + 1 := ⟨f - 1, by omega⟩
    unfold scP at h
    rw [if_neg (by omega), if_pos (by omega)] at h
    exact ⟨⟨(by unfold R32; omega), (by unfold R32; omega)⟩, fun _ => hc f l (by omega) (by omega) h2 h, fun c => by omega⟩
  | succ j ih =>
    intro b f l hab hb hf1 h1 h2 h
    have hl := hL
    unfold RLay at hl
    unfold VX11_pair_31 VX11_pair_74
    refine ⟨hL.1, c_things (by omega) hL (oI_i ?_)⟩
    rw [hw, hg.1.2.2]
    obtain ⟨f, rfl⟩ : ∃ f', f = f' + 1 := ⟨f - 1, by omega⟩
    unfold scP at h
    rw [if_neg (by omega), if_neg (by omega)] at h
    refine ⟨⟨(by unfold R32; omega), (by unfold R32; omega)⟩, fun _ => by omega, fun c => ?_⟩
    have o1 := or_pw (a := a) (b := b) (by omega) (by omega)
    have q1 : 2 ^ a ≤ 2 ^ 6 := Nat.pow_le_pow_right (by decide) (by omega)
    have q2 : 2 ^ b ≤ 2 ^ 6 := Nat.pow_le_pow_right (by decide) (by omega)
    simp only [hl, sI_K, sI_N, sI_R, sI_J, Option.some.injEq, exists_eq_left', true_and, and_true, Int.toNat_zero, Int.reduceToNat, Int.reduceLT, Int.reduceLE, Int.cast_ofNat_Int, forall_eq, ge_iff_le, Int.reduceNeg, Int.reduceAdd, Int.reduceSub, Int.reduceMul, Int.reduceEq, r32_0, r32_1, r32_m1, b01_0, b01_1, not_true_eq_false, not_false_eq_true, false_implies, true_implies, implies_true, forall_const]
    rw [i1_shl (by omega), i1_shl (by omega), iOr_n (by omega) (by omega), Int.toNat_natCast, hE _ o1]
    have er : enB n L (2 ^ a ||| 2 ^ b) = enP n L a b := rfl
    rw [er]
    cases hp : enP n L a b
    · rw [hp, if_neg (by decide)] at h
      rw [if_neg (by decide)]
      exact ⟨by omega, r32_0, fun c => absurd rfl c, fun _ => ih (b := b + 1) (by omega) (by omega) (by omega) (by omega) h2 h⟩
    · rw [hp, if_pos rfl] at h
      rw [if_pos rfl]
      refine ⟨by omega, r32_1, fun c => ⟨wr_R l, fun c2 => ?_, fun c2 => ?_⟩, fun c => absurd c (by decide)⟩
      · rw [wr_0 (by omega) h2] at c2
        rw [if_neg c2] at h
        rw [wr_add]
        exact ih (b := b + 1) (l := l + -1) (by omega) (by omega) (by omega) (by omega) (by omega) h
      · rw [wr_0 (by omega) h2] at c2
        rw [if_pos c2] at h
        exact h
theorem f_pair18 {d m n : Nat} {w : Nat → Int} {L : List Nat} {Q : Out → MS → Prop} {S : MS} (hd : 1 ≤ d) (hD : RD S m n w L) (hE : EnA S m n L) : ∀ (j : Nat) {a f : Nat} {l : Int}, a + j = n → 9 * (n - a) + (n - (a + 1)) < f → -2147484648 + f ≤ l → l < 2147483648 → Q (.inl (some (vI (scP (enP n L) n f a (a + 1) l)))) S → VX11_pair_18 d Q (j + 1) m (wr l) (a : Nat) S := by
  have hD' := hD
  obtain ⟨hL, hw, hg, hT, hK, hrow, hlen⟩ := hD
  have h3 := hg.1.1
  have h7 := hg.1.2.1
  have hf := fct_le h3 h7
  intro j
  induction j with
  | zero =>
    intro a f l ha hf1 h1 h2 h
    unfold VX11_pair_18
    refine ⟨hL.1, c_things (by omega) hL (oI_i ?_)⟩
    rw [hw, hg.1.2.2]
    refine ⟨⟨(by unfold R32; omega), (by unfold R32; omega)⟩, fun _ => ?_, fun c => by omega⟩
    obtain ⟨f, rfl⟩ : ∃ f', f = f' + 1 := ⟨f - 1, by omega⟩
    unfold scP at h
    rw [if_pos (by omega)] at h
    exact h
  | succ j ih =>
    intro a f l ha hf1 h1 h2 h
    unfold VX11_pair_18
    refine ⟨hL.1, c_things (by omega) hL (oI_i ?_)⟩
    rw [hw, hg.1.2.2]
    refine ⟨⟨(by unfold R32; omega), (by unfold R32; omega)⟩, fun _ => by omega, fun c => ⟨_, f_pair31 hd hD' hE (by omega) (fun f' l' k1 k2 k3 k4 => ih (a := a + 1) (by omega) (by omega) k2 k3 k4) (n - (a + 1)) (b := a + 1) (by omega) (by omega) (by omega) h1 h2 h⟩⟩
noncomputable def A_pair (n : Nat) (w : Nat → Int) (k : Int) : Int := scP (enP n (rowsL n w 0)) n 200 0 1 k
theorem c_pair {d m n : Nat} {S : MS} {Q : Out → MS → Prop} {k : Int} (hd : 7 ≤ d) (hI : RI S m n) (hk : R32 k) (h : ∀ S', RQ m S S' → S'.I m 0 = 0 → Q (.inl (some (vI (A_pair n (S.I (m+1)) k)))) S') : Mw hX11_pair yX11_pair d [vA m, vI k] S Q := by
  have hL := hI.1
  have h7 := hI.2.1.1.2.1
  obtain ⟨k1, k2⟩ := hk
  obtain ⟨dd, rfl⟩ : ∃ e, d = e + 1 := ⟨d - 1, by omega⟩
  refine MX11_pair ?_
  have hl := hL
  unfold RLay at hl
  unfold VX11_pair_0
  simp only [hl, sI_K, sI_N, sI_R, sI_J, Option.some.injEq, exists_eq_left', true_and, and_true, Int.toNat_zero, Int.reduceToNat, Int.reduceLT, Int.reduceLE, Int.cast_ofNat_Int, forall_eq, ge_iff_le, Int.reduceNeg, Int.reduceAdd, Int.reduceSub, Int.reduceMul, Int.reduceEq, r32_0, r32_1, r32_m1, b01_0, b01_1, not_true_eq_false, not_false_eq_true, false_implies, true_implies, implies_true, forall_const]
  refine l_lv (n := n) (by omega) hI (fun S1 q1 t1 d1 => oV_i ⟨d1.1.1, c_endsNow (by omega) d1 (fun S2 f2 e2 => oI_i ⟨n + 1, ?_⟩)⟩)
  have := f_pair18 (Q := Q) (d := dd) (by omega) (d1.fr f2 (by decide) (by decide) (by decide) (by decide) (by decide) (by decide)) e2 n (a := 0) (f := 200) (l := k) (by omega) (by omega) (by omega) (by omega) (h S2 (q1.fr f2 (by decide) (by decide) (by decide) (by decide) (by decide)) (by rw [f2.fld (by decide), t1]))
  rw [wr_r ⟨k1, k2⟩] at this
  exact this
/-! goose and centre -/
theorem mskN_and (p : Nat → Bool) (e n : Nat) : mskN p n &&& e = mskN (fun u => p u && e.testBit u) n := by
  apply Nat.eq_of_testBit_eq
  intro i
  rw [Nat.testBit_and, mskN_bit, mskN_bit]
  cases decide (i < n) <;> simp
theorem mskN_all (n : Nat) : mskN (fun _ => true) n = 2 ^ n - 1 := by
  apply Nat.eq_of_testBit_eq
  intro i
  rw [mskN_bit, Nat.testBit_two_pow_sub_one, Bool.and_true]
def gsB (n : Nat) (L : List Nat) : Nat := mskN (fun t => L.all (fun r => (eo n r).testBit t)) n
theorem gsB_s {n : Nat} {L : List Nat} {k : Nat} (h : k < L.length) : gsB n (L.take (k + 1)) = gsB n (L.take k) &&& eo n (L.getD k 0) := by
  unfold gsB
  rw [mskN_and]
  refine mskN_cong (fun t _ => ?_)
  rw [all_s h]
theorem f_goose {d m n b : Nat} {w : Nat → Int} {L : List Nat} {S : MS} {Q : Out → MS → Prop} (hd : 3 ≤ d) (hD : RD S m n w L) (h : Q (.inl (some (vI (gsB n L : Nat)))) S) : ∀ (j : Nat) {k : Nat}, k + j = L.length → VX11_gooseNow_24 d Q (j + 1) m (gsB n (L.take k) : Nat) (k : Nat) S := by
  obtain ⟨hL, hw, hg, hT, hK, hrow, hlen⟩ := hD
  have h3 := hg.1.1
  have h7 := hg.1.2.1
  have hf := fct_le h3 h7
  have p7 := p2_7 h7
  intro j
  induction j with
  | zero =>
    intro k hk
    have hl := hL
    unfold RLay at hl
    unfold VX11_gooseNow_24
    simp only [hl, sI_K, sI_N, sI_R, sI_J, Option.some.injEq, exists_eq_left', true_and, and_true, Int.toNat_zero, Int.reduceToNat, Int.reduceLT, Int.reduceLE, Int.cast_ofNat_Int, forall_eq, ge_iff_le, Int.reduceNeg, Int.reduceAdd, Int.reduceSub, Int.reduceMul, Int.reduceEq, r32_0, r32_1, r32_m1, b01_0, b01_1, not_true_eq_false, not_false_eq_true, false_implies, true_implies, implies_true, forall_const]
    rw [hK.1]
    refine ⟨⟨(by unfold R32; omega), (by unfold R32; omega)⟩, fun _ => ?_, fun c => by omega⟩
    rw [show L.take k = L by rw [show k = L.length by omega]; exact List.take_length]
    exact h
  | succ j ih =>
    intro k hk
    have hl := hL
    unfold RLay at hl
    have hkl : k < L.length := by omega
    have hrk := hrow _ (getD_mem hkl)
    unfold VX11_gooseNow_24
    simp only [hl, sI_K, sI_N, sI_R, sI_J, Option.some.injEq, exists_eq_left', true_and, and_true, Int.toNat_zero, Int.reduceToNat, Int.reduceLT, Int.reduceLE, Int.cast_ofNat_Int, forall_eq, ge_iff_le, Int.reduceNeg, Int.reduceAdd, Int.reduceSub, Int.reduceMul, Int.reduceEq, r32_0, r32_1, r32_m1, b01_0, b01_1, not_true_eq_false, not_false_eq_true, false_implies, true_implies, implies_true, forall_const]
    rw [hK.1]
    refine ⟨⟨(by unfold R32; omega), (by unfold R32; omega)⟩, fun _ => by omega, fun c => c_rowAt (r := 0) (p := k) (by omega) hL rfl rfl (by omega) (oI_i ⟨hL.1, ?_⟩)⟩
    rw [hK.2 k hkl]
    refine c_endsOf (n := n) (r := L.getD k 0) (by omega) hL h3 h7 hT rfl hrk (oI_i ?_)
    have q1 : gsB n (L.take k) < 2 ^ n := mskN_lt _ n
    have q2 := eo_lt h3 h7 hrk
    rw [iAnd_n (by omega) (by omega), ← gsB_s hkl, (show ∀ (k : Nat), (k : Int) + 1 = ((k + 1 : Nat) : Int) from fun _ => rfl) k]
    exact ih (by omega)
def gsA (n : Nat) (L : List Nat) : Nat := if L.length = 0 then 0 else gsB n L
theorem c_gooseNow {d m n : Nat} {w : Nat → Int} {L : List Nat} {S : MS} {Q : Out → MS → Prop} (hd : 4 ≤ d) (hD : RD S m n w L) (h : Q (.inl (some (vI (gsA n L : Nat)))) S) : Mw hX11_gooseNow yX11_gooseNow d [vA m] S Q := by
  have hD' := hD
  obtain ⟨hL, hw, hg, hT, hK, hrow, hlen⟩ := hD
  have h3 := hg.1.1
  have h7 := hg.1.2.1
  have hf := fct_le h3 h7
  obtain ⟨dd, rfl⟩ : ∃ e, d = e + 1 := ⟨d - 1, by omega⟩
  refine MX11_gooseNow ?_
  have hl := hL
  unfold RLay at hl
  unfold VX11_gooseNow_0
  simp only [hl, sI_K, sI_N, sI_R, sI_J, Option.some.injEq, exists_eq_left', true_and, and_true, Int.toNat_zero, Int.reduceToNat, Int.reduceLT, Int.reduceLE, Int.cast_ofNat_Int, forall_eq, ge_iff_le, Int.reduceNeg, Int.reduceAdd, Int.reduceSub, Int.reduceMul, Int.reduceEq, r32_0, r32_1, r32_m1, b01_0, b01_1, not_true_eq_false, not_false_eq_true, false_implies, true_implies, implies_true, forall_const]
  rw [hK.1]
  unfold gsA at h
  unfold VX11_gooseNow_21
  refine ⟨(by unfold R32; omega), fun c => ?_, fun c => ⟨1, ?_⟩⟩
  · rw [if_neg (by omega)] at h
    refine c_things (by omega) hL (oI_i ⟨L.length + 1, ?_⟩)
    rw [hw, hg.1.2.2, i1_shl (by omega)]
    have := f_goose (Q := Q) (b := 0) (d := dd) (by omega) hD' h L.length (k := 0) (Nat.zero_add _)
    have e : gsB n (L.take 0) = 2 ^ n - 1 := mskN_all n
    rw [e] at this
    have p1 := Nat.two_pow_pos n
    rw [show ((2 ^ n : Nat) : Int) - 1 = ((2 ^ n - 1 : Nat) : Int) by omega]
    exact this
  · rw [if_pos (by omega)] at h
    unfold VX11_gooseNow_24
    simp only [hl, sI_K, sI_N, sI_R, sI_J, Option.some.injEq, exists_eq_left', true_and, and_true, Int.toNat_zero, Int.reduceToNat, Int.reduceLT, Int.reduceLE, Int.cast_ofNat_Int, forall_eq, ge_iff_le, Int.reduceNeg, Int.reduceAdd, Int.reduceSub, Int.reduceMul, Int.reduceEq, r32_0, r32_1, r32_m1, b01_0, b01_1, not_true_eq_false, not_false_eq_true, false_implies, true_implies, implies_true, forall_const]
    rw [hK.1]
    exact ⟨(by unfold R32; omega), fun _ => h, fun c => by omega⟩
theorem c_goose {d m n : Nat} {S : MS} {Q : Out → MS → Prop} (hd : 7 ≤ d) (hI : RI S m n) (h : ∀ S', RQ m S S' → S'.I m 0 = 0 → Q (.inl (some (vI (gsA n (rowsL n (S.I (m+1)) 0) : Nat)))) S') : Mw hX11_goose yX11_goose d [vA m] S Q := by
  have hL := hI.1
  obtain ⟨dd, rfl⟩ : ∃ e, d = e + 1 := ⟨d - 1, by omega⟩
  refine MX11_goose ?_
  have hl := hL
  unfold RLay at hl
  unfold VX11_goose_0
  simp only [hl, sI_K, sI_N, sI_R, sI_J, Option.some.injEq, exists_eq_left', true_and, and_true, Int.toNat_zero, Int.reduceToNat, Int.reduceLT, Int.reduceLE, Int.cast_ofNat_Int, forall_eq, ge_iff_le, Int.reduceNeg, Int.reduceAdd, Int.reduceSub, Int.reduceMul, Int.reduceEq, r32_0, r32_1, r32_m1, b01_0, b01_1, not_true_eq_false, not_false_eq_true, false_implies, true_implies, implies_true, forall_const]
  exact l_lv (n := n) (by omega) hI (fun S1 q1 t1 d1 => oV_i ⟨d1.1.1, c_gooseNow (by omega) d1 (oI_i (h S1 q1 t1))⟩)
def ceA (n : Nat) (L : List Nat) : Nat := mskL (fun r => rat n r (n / 2)) L
theorem f_centre {d m n : Nat} {w : Nat → Int} {L : List Nat} {S : MS} {Q : Out → MS → Prop} (hd : 2 ≤ d) (hD : RD S m n w L) (h : Q (.inl (some (vI (ceA n L : Nat)))) S) : ∀ (j : Nat) {k : Nat}, k + j = L.length → VX11_centreNow_4 d Q (j + 1) m (ceA n (L.take k) : Nat) (k : Nat) S := by
  obtain ⟨hL, hw, hg, hT, hK, hrow, hlen⟩ := hD
  have h3 := hg.1.1
  have h7 := hg.1.2.1
  have hf := fct_le h3 h7
  intro j
  induction j with
  | zero =>
    intro k hk
    have hl := hL
    unfold RLay at hl
    unfold VX11_centreNow_4
    simp only [hl, sI_K, sI_N, sI_R, sI_J, Option.some.injEq, exists_eq_left', true_and, and_true, Int.toNat_zero, Int.reduceToNat, Int.reduceLT, Int.reduceLE, Int.cast_ofNat_Int, forall_eq, ge_iff_le, Int.reduceNeg, Int.reduceAdd, Int.reduceSub, Int.reduceMul, Int.reduceEq, r32_0, r32_1, r32_m1, b01_0, b01_1, not_true_eq_false, not_false_eq_true, false_implies, true_implies, implies_true, forall_const]
    rw [hK.1]
    refine ⟨⟨(by unfold R32; omega), (by unfold R32; omega)⟩, fun _ => ?_, fun c => by omega⟩
    rw [show L.take k = L by rw [show k = L.length by omega]; exact List.take_length]
    exact h
  | succ j ih =>
    intro k hk
    have hl := hL
    unfold RLay at hl
    have hkl : k < L.length := by omega
    have hrk := hrow _ (getD_mem hkl)
    unfold VX11_centreNow_4
    simp only [hl, sI_K, sI_N, sI_R, sI_J, Option.some.injEq, exists_eq_left', true_and, and_true, Int.toNat_zero, Int.reduceToNat, Int.reduceLT, Int.reduceLE, Int.cast_ofNat_Int, forall_eq, ge_iff_le, Int.reduceNeg, Int.reduceAdd, Int.reduceSub, Int.reduceMul, Int.reduceEq, r32_0, r32_1, r32_m1, b01_0, b01_1, not_true_eq_false, not_false_eq_true, false_implies, true_implies, implies_true, forall_const]
    rw [hK.1]
    refine ⟨⟨(by unfold R32; omega), (by unfold R32; omega)⟩, fun _ => by omega, fun c => c_rowAt (r := 0) (p := k) (by omega) hL rfl rfl (by omega) (oI_i ⟨hL.1, ?_⟩)⟩
    rw [hK.2 k hkl]
    have q0 := rat_lt h3 h7 hrk (show n / 2 < n by omega)
    have q1 := mskL_lt (fun r => rat n r (n / 2)) (L.take k)
    have q2 : 2 ^ rat n (L.getD k 0) (n / 2) ≤ 2 ^ 6 := Nat.pow_le_pow_right (by decide) (by omega)
    rw [hT.1, show (2 : Int) = ((2 : Nat) : Int) from rfl, iDiv_n (by omega) (by decide)]
    refine ⟨⟨(by unfold R32; omega), by decide⟩, hL.1, c_at (r := L.getD k 0) (p := n / 2) (by omega) hL rfl rfl (by omega) (oI_i ?_)⟩
    rw [hT.2.2 _ hrk _ (by omega), i1_shl (by omega)]
    unfold ceA
    rw [iOr_n (by omega) (by omega), ← mskL_s (g := fun r => rat n r (n / 2)) hkl (by omega), (show ∀ (k : Nat), (k : Int) + 1 = ((k + 1 : Nat) : Int) from fun _ => rfl) k]
    exact ih (by omega)
theorem c_centreNow {d m n : Nat} {w : Nat → Int} {L : List Nat} {S : MS} {Q : Out → MS → Prop} (hd : 3 ≤ d) (hD : RD S m n w L) (h : Q (.inl (some (vI (ceA n L : Nat)))) S) : Mw hX11_centreNow yX11_centreNow d [vA m] S Q := by
  obtain ⟨dd, rfl⟩ : ∃ e, d = e + 1 := ⟨d - 1, by omega⟩
  refine MX11_centreNow ?_
  unfold VX11_centreNow_0
  have := f_centre (Q := Q) (d := dd) (by omega) hD h L.length (k := 0) (Nat.zero_add _)
  have e : ceA n (L.take 0) = 0 := mskL_0 _
  rw [e] at this
  exact ⟨_, this⟩
theorem c_centre {d m n : Nat} {S : MS} {Q : Out → MS → Prop} (hd : 7 ≤ d) (hI : RI S m n) (h : ∀ S', RQ m S S' → S'.I m 0 = 0 → Q (.inl (some (vI (ceA n (rowsL n (S.I (m+1)) 0) : Nat)))) S') : Mw hX11_centre yX11_centre d [vA m] S Q := by
  have hL := hI.1
  obtain ⟨dd, rfl⟩ : ∃ e, d = e + 1 := ⟨d - 1, by omega⟩
  refine MX11_centre ?_
  have hl := hL
  unfold RLay at hl
  unfold VX11_centre_0
  simp only [hl, sI_K, sI_N, sI_R, sI_J, Option.some.injEq, exists_eq_left', true_and, and_true, Int.toNat_zero, Int.reduceToNat, Int.reduceLT, Int.reduceLE, Int.cast_ofNat_Int, forall_eq, ge_iff_le, Int.reduceNeg, Int.reduceAdd, Int.reduceSub, Int.reduceMul, Int.reduceEq, r32_0, r32_1, r32_m1, b01_0, b01_1, not_true_eq_false, not_false_eq_true, false_implies, true_implies, implies_true, forall_const]
  exact l_lv (n := n) (by omega) hI (fun S1 q1 t1 d1 => oV_i ⟨d1.1.1, c_centreNow (by omega) d1 (oI_i (h S1 q1 t1))⟩)
theorem l_known {d m n l : Nat} {w : Nat → Int} {L : List Nat} {S : MS} {Q : Out → MS → Prop} (hd : 3 ≤ d) (hD : RD S m n w L) (h : Q (.inl (some (vI (pI (Known n L))))) S) : Mw hX11_isKnown yX11_isKnown d [vA m, vI 0] S Q := by
  obtain ⟨hL, hw, hg, hT, hK, hrow, hlen⟩ := hD
  have h3 := hg.1.1
  have h7 := hg.1.2.1
  have hf := fct_le h3 h7
  refine c_isKnown (n := n) (l := 0) (by omega) hL h3 h7 hT rfl (by decide) hK hrow hlen (fun q hq => ?_)
  rw [hq.e]
  exact h
theorem c_known {d m n : Nat} {S : MS} {Q : Out → MS → Prop} (hd : 7 ≤ d) (hI : RI S m n) (h : ∀ S', RQ m S S' → S'.I m 0 = 0 → Q (.inl (some (vI (pI (Known n (rowsL n (S.I (m+1)) 0)))))) S') : Mw hX11_known yX11_known d [vA m] S Q := by
  have hL := hI.1
  obtain ⟨dd, rfl⟩ : ∃ e, d = e + 1 := ⟨d - 1, by omega⟩
  refine MX11_known ?_
  have hl := hL
  unfold RLay at hl
  unfold VX11_known_0
  simp only [hl, sI_K, sI_N, sI_R, sI_J, Option.some.injEq, exists_eq_left', true_and, and_true, Int.toNat_zero, Int.reduceToNat, Int.reduceLT, Int.reduceLE, Int.cast_ofNat_Int, forall_eq, ge_iff_le, Int.reduceNeg, Int.reduceAdd, Int.reduceSub, Int.reduceMul, Int.reduceEq, r32_0, r32_1, r32_m1, b01_0, b01_1, not_true_eq_false, not_false_eq_true, false_implies, true_implies, implies_true, forall_const]
  exact l_lv (n := n) (by omega) hI (fun S1 q1 t1 d1 => oV_i ⟨d1.1.1, l_known (l := 0) (by omega) d1 (oI_i ⟨(pI_B _).b, h S1 q1 t1⟩)⟩)
