/-! THE REFERENCE: where its arrays lie -/
def RLay (S : MS) (m : Nat) : Prop := S.K m = 11 ∧ (S.R m 1 = some (m+1) ∧ S.R m 2 = some (m+2) ∧ S.R m 3 = some (m+3) ∧ S.R m 5 = some (m+4) ∧ S.R m 11 = some (m+5) ∧ S.R m 12 = some (m+6) ∧ S.R m 15 = some (m+7) ∧ S.R m 16 = some (m+8) ∧ S.R m 17 = some (m+9) ∧ S.R m 18 = some (m+10) ∧ S.R m 19 = some (m+11) ∧ S.R m 21 = some (m+12) ∧ S.R m 22 = some (m+13) ∧ S.R m 24 = some (m+14) ∧ S.R m 28 = some (m+15) ∧ S.R m 29 = some (m+16) ∧ S.R m 31 = some (m+17) ∧ S.R m 32 = some (m+18) ∧ S.R m 36 = some (m+19)) ∧ (S.K (m+1) = 13 ∧ S.K (m+2) = 13 ∧ S.K (m+3) = 13 ∧ S.K (m+4) = 12 ∧ S.K (m+5) = 13 ∧ S.K (m+6) = 12 ∧ S.K (m+7) = 13 ∧ S.K (m+8) = 15 ∧ S.K (m+9) = 13 ∧ S.K (m+10) = 16 ∧ S.K (m+11) = 13 ∧ S.K (m+12) = 13 ∧ S.K (m+13) = 13 ∧ S.K (m+14) = 13 ∧ S.K (m+15) = 13 ∧ S.K (m+16) = 13 ∧ S.K (m+17) = 13 ∧ S.K (m+18) = 13 ∧ S.K (m+19) = 13) ∧ (S.N (m+1) = 71 ∧ S.N (m+2) = 71 ∧ S.N (m+3) = 71 ∧ S.N (m+4) = 400 ∧ S.N (m+5) = 5 ∧ S.N (m+6) = 35280 ∧ S.N (m+7) = 4 ∧ S.N (m+8) = 181440 ∧ S.N (m+9) = 36 ∧ S.N (m+10) = 128 ∧ S.N (m+11) = 5040 ∧ S.N (m+12) = 16 ∧ S.N (m+13) = 35 ∧ S.N (m+14) = 7 ∧ S.N (m+15) = 10 ∧ S.N (m+16) = 10 ∧ S.N (m+17) = 36 ∧ S.N (m+18) = 36 ∧ S.N (m+19) = 7)
/-- only ints change, and only at these arrays (A) and fields (B) of the reference at m -/
def MS.wI (S : MS) (J : Nat → Nat → Int) : MS := (S.1, S.2.1, J, S.2.2.2)
def Fr (m : Nat) (A B : List Nat) (S S' : MS) : Prop := S' = S.wI S'.I ∧ (∀ a, a ≠ m → (∀ o ∈ A, a ≠ m + o) → S'.I a = S.I a) ∧ (∀ k, k ∉ B → S'.I m k = S.I m k)
theorem Fr.rf {m : Nat} {A B : List Nat} {S : MS} : Fr m A B S S := ⟨rfl, fun _ _ _ => rfl, fun _ _ => rfl⟩
theorem Fr.tr {m : Nat} {A B : List Nat} {S S1 S2 : MS} (h : Fr m A B S S1) (k : Fr m A B S1 S2) : Fr m A B S S2 := by
  refine ⟨?_, fun a h1 h2 => (k.2.1 a h1 h2).trans (h.2.1 a h1 h2), fun q h1 => (k.2.2 q h1).trans (h.2.2 q h1)⟩
  have := k.1
  rw [h.1] at this
  exact this
theorem Fr.wk {m : Nat} {A B A' B' : List Nat} {S S1 : MS} (h : Fr m A B S S1) (ha : ∀ o ∈ A, o ∈ A') (hb : ∀ o ∈ B, o ∈ B') : Fr m A' B' S S1 :=
  ⟨h.1, fun a h1 h2 => h.2.1 a h1 (fun o ho => h2 o (ha o ho)), fun k h1 => h.2.2 k (fun q => h1 (hb k q))⟩
theorem Fr.arr {m : Nat} {A B : List Nat} {S S1 : MS} (h : Fr m A B S S1) {o : Nat} (h0 : o ≠ 0) (hA : o ∉ A) : S1.I (m + o) = S.I (m + o) :=
  h.2.1 _ (by omega) (fun q hq e => hA (by have : o = q := by omega
                                           rw [this]; exact hq))
theorem Fr.far {m : Nat} {A B : List Nat} {S S1 : MS} (h : Fr m A B S S1) (hA : ∀ o ∈ A, o < 20) {a : Nat} (ha : a < m ∨ m + 20 ≤ a) : S1.I a = S.I a :=
  h.2.1 _ (by omega) (fun o ho e => by have := hA o ho; omega)
theorem Fr.fld {m : Nat} {A B : List Nat} {S S1 : MS} (h : Fr m A B S S1) {k : Nat} (hk : k ∉ B) : S1.I m k = S.I m k := h.2.2 k hk
theorem Fr.K {m : Nat} {A B : List Nat} {S S1 : MS} (h : Fr m A B S S1) : S1.K = S.K := by rw [h.1]; rfl
theorem Fr.N {m : Nat} {A B : List Nat} {S S1 : MS} (h : Fr m A B S S1) : S1.N = S.N := by rw [h.1]; rfl
theorem Fr.R {m : Nat} {A B : List Nat} {S S1 : MS} (h : Fr m A B S S1) : S1.R = S.R := by rw [h.1]; rfl
theorem Fr.J {m : Nat} {A B : List Nat} {S S1 : MS} (h : Fr m A B S S1) : S1.J = S.J := by rw [h.1]; rfl
theorem Fr.T {m : Nat} {A B : List Nat} {S S1 : MS} (h : Fr m A B S S1) : S1.T = S.T := by rw [h.1]; rfl
theorem Fr.nx {m : Nat} {A B : List Nat} {S S1 : MS} (h : Fr m A B S S1) : S1.nx = S.nx := by rw [h.1]; rfl
theorem Fr.us {m : Nat} {A B : List Nat} {S S1 : MS} (h : Fr m A B S S1) : S1.us = S.us := by rw [h.1]; rfl
theorem Fr.lay {m : Nat} {A B : List Nat} {S S1 : MS} (h : Fr m A B S S1) (hL : RLay S m) : RLay S1 m := by
  unfold RLay at hL ⊢
  rw [h.K, h.R, h.N]
  exact hL
theorem Fr.sA {m : Nat} {A B : List Nat} {S : MS} {o k : Nat} {v : Int} (h : o ∈ A) (h0 : o ≠ 0) : Fr m A B S (S.setI (m + o) k v) := by
  refine ⟨rfl, fun a h1 h2 => sI_Ia (h2 o h), fun q hq => ?_⟩
  rw [sI_Ia (by omega)]
theorem Fr.sB {m : Nat} {A B : List Nat} {S : MS} {k : Nat} {v : Int} (h : k ∈ B) : Fr m A B S (S.setI m k v) := by
  refine ⟨rfl, fun a h1 h2 => sI_Ia h1, fun q hq => ?_⟩
  rw [sI_I, if_neg]
  rintro ⟨-, rfl⟩
  exact hq h
/-- a boolean answer -/
def BI (r : Int) (P : Prop) : Prop := (r = 1 ∧ P) ∨ (r = 0 ∧ ¬ P)
theorem BI.r {r : Int} {P : Prop} (h : BI r P) : R32 r := by unfold R32; rcases h with ⟨rfl, -⟩ | ⟨rfl, -⟩ <;> decide
theorem BI.b {r : Int} {P : Prop} (h : BI r P) : B01 r := by rcases h with ⟨rfl, -⟩ | ⟨rfl, -⟩ <;> simp [B01]
theorem BI.y {P : Prop} (h : P) : BI 1 P := Or.inl ⟨rfl, h⟩
theorem BI.n {P : Prop} (h : ¬ P) : BI 0 P := Or.inr ⟨rfl, h⟩
theorem r32_1 : R32 1 := ⟨by decide, by decide⟩
theorem r32_m1 : R32 (-1) := ⟨by decide, by decide⟩
theorem b01_0 : B01 0 := Or.inl rfl
theorem b01_1 : B01 1 := Or.inr rfl
theorem r32_of {x : Int} (h1 : -2147483648 ≤ x) (h2 : x < 2147483648) : R32 x := ⟨h1, h2⟩
theorem c_thrown {d m : Nat} {S : MS} {Q : Out → MS → Prop} (hd : 1 ≤ d) (hL : RLay S m) (h : Q (.inl (some (vI (S.I m 0)))) S) : Mw hX11_thrown yX11_thrown d [vA m] S Q := by
  obtain ⟨e, rfl⟩ : ∃ e, d = e + 1 := ⟨d - 1, by omega⟩
  refine MX11_thrown ?_
  have hl := hL
  unfold RLay at hl
  unfold VX11_thrown_0
  simp only [hl, sI_K, sI_N, sI_R, sI_J, Option.some.injEq, exists_eq_left', true_and, and_true, Int.toNat_zero, Int.reduceToNat, Int.reduceLT, Int.reduceLE, Int.cast_ofNat_Int, forall_eq, ge_iff_le, Int.reduceNeg, Int.reduceAdd, Int.reduceSub, Int.reduceMul, Int.reduceEq, r32_0, r32_1, r32_m1, b01_0, b01_1, not_true_eq_false, not_false_eq_true, false_implies, true_implies, implies_true, forall_const]
  exact h
theorem c_throwsIf {d m : Nat} {S : MS} {Q : Out → MS → Prop} {x c : Int} (hd : 1 ≤ d) (hL : RLay S m) (hx : B01 x) (h0 : x = 0 → Q (.inl (some (vI 0))) S) (h1 : x = 1 → Q (.inl (some (vI 1))) (S.setI m 0 c)) : Mw hX11_throwsIf yX11_throwsIf d [vA m, vI x, vI c] S Q := by
  obtain ⟨e, rfl⟩ : ∃ e, d = e + 1 := ⟨d - 1, by omega⟩
  refine MX11_throwsIf ?_
  have hl := hL
  unfold RLay at hl
  unfold VX11_throwsIf_0
  simp only [hl, sI_K, sI_N, sI_R, sI_J, Option.some.injEq, exists_eq_left', true_and, and_true, Int.toNat_zero, Int.reduceToNat, Int.reduceLT, Int.reduceLE, Int.cast_ofNat_Int, forall_eq, ge_iff_le, Int.reduceNeg, Int.reduceAdd, Int.reduceSub, Int.reduceMul, Int.reduceEq, r32_0, r32_1, r32_m1, b01_0, b01_1, not_true_eq_false, not_false_eq_true, false_implies, true_implies, implies_true, forall_const]
  unfold VX11_throwsIf_9
  rcases hx with rfl | rfl
  · simp only [hl, sI_K, sI_N, sI_R, sI_J, Option.some.injEq, exists_eq_left', true_and, and_true, Int.toNat_zero, Int.reduceToNat, Int.reduceLT, Int.reduceLE, Int.cast_ofNat_Int, forall_eq, ge_iff_le, Int.reduceNeg, Int.reduceAdd, Int.reduceSub, Int.reduceMul, Int.reduceEq, r32_0, r32_1, r32_m1, b01_0, b01_1, not_true_eq_false, not_false_eq_true, false_implies, true_implies, implies_true, forall_const]
    exact h0 rfl
  · simp only [hl, sI_K, sI_N, sI_R, sI_J, Option.some.injEq, exists_eq_left', true_and, and_true, Int.toNat_zero, Int.reduceToNat, Int.reduceLT, Int.reduceLE, Int.cast_ofNat_Int, forall_eq, ge_iff_le, Int.reduceNeg, Int.reduceAdd, Int.reduceSub, Int.reduceMul, Int.reduceEq, r32_0, r32_1, r32_m1, b01_0, b01_1, not_true_eq_false, not_false_eq_true, false_implies, true_implies, implies_true, forall_const]
    exact h1 rfl
theorem c_in {d : Nat} {S : MS} {Q : Out → MS → Prop} {v lo hi : Int} (hd : 1 ≤ d) (hv : R32 v) (h1 : R32 lo) (h2 : R32 hi) (h : ∀ r, BI r (lo ≤ v ∧ v ≤ hi) → Q (.inl (some (vI r))) S) : Mw hX11_in yX11_in d [vI v, vI lo, vI hi] S Q := by
  obtain ⟨e, rfl⟩ : ∃ e, d = e + 1 := ⟨d - 1, by omega⟩
  refine MX11_in ?_
  unfold VX11_in_0
  refine ⟨⟨hv, h1⟩, fun c => ⟨b01_0, h _ (.n (by omega))⟩, fun c => ⟨⟨hv, h2⟩, fun c2 => ⟨b01_0, h _ (.n (by omega))⟩, fun c2 => ⟨b01_1, h _ (.y (by omega))⟩⟩⟩
theorem c_things {d m : Nat} {S : MS} {Q : Out → MS → Prop} (hd : 1 ≤ d) (hL : RLay S m) (h : Q (.inl (some (vI (S.I (m+1) 0)))) S) : Mw hX11_things yX11_things d [vA m] S Q := by
  obtain ⟨e, rfl⟩ : ∃ e, d = e + 1 := ⟨d - 1, by omega⟩
  refine MX11_things ?_
  have hl := hL
  unfold RLay at hl
  unfold VX11_things_0
  simp only [hl, sI_K, sI_N, sI_R, sI_J, Option.some.injEq, exists_eq_left', true_and, and_true, Int.toNat_zero, Int.reduceToNat, Int.reduceLT, Int.reduceLE, Int.cast_ofNat_Int, forall_eq, ge_iff_le, Int.reduceNeg, Int.reduceAdd, Int.reduceSub, Int.reduceMul, Int.reduceEq, r32_0, r32_1, r32_m1, b01_0, b01_1, not_true_eq_false, not_false_eq_true, false_implies, true_implies, implies_true, forall_const]
  exact h
theorem c_notes {d m : Nat} {S : MS} {Q : Out → MS → Prop} (hd : 1 ≤ d) (hL : RLay S m) (h : Q (.inl (some (vI (S.I (m+1) 2)))) S) : Mw hX11_notes yX11_notes d [vA m] S Q := by
  obtain ⟨e, rfl⟩ : ∃ e, d = e + 1 := ⟨d - 1, by omega⟩
  refine MX11_notes ?_
  have hl := hL
  unfold RLay at hl
  unfold VX11_notes_0
  simp only [hl, sI_K, sI_N, sI_R, sI_J, Option.some.injEq, exists_eq_left', true_and, and_true, Int.toNat_zero, Int.reduceToNat, Int.reduceLT, Int.reduceLE, Int.cast_ofNat_Int, forall_eq, ge_iff_le, Int.reduceNeg, Int.reduceAdd, Int.reduceSub, Int.reduceMul, Int.reduceEq, r32_0, r32_1, r32_m1, b01_0, b01_1, not_true_eq_false, not_false_eq_true, false_implies, true_implies, implies_true, forall_const]
  exact h
theorem c_ofNote {d m : Nat} {S : MS} {Q : Out → MS → Prop} {i q : Nat} {x1 x2 : Int} (hd : 1 ≤ d) (hL : RLay S m) (e1 : x1 = i) (e2 : x2 = q) (hi : i < 16) (hq : q < 3) (h : Q (.inl (some (vI (S.I (m+1) (23 + 3 * i + q))))) S) : Mw hX11_ofNote yX11_ofNote d [vA m, vI x1, vI x2] S Q := by
  subst e1 e2
  obtain ⟨e, rfl⟩ : ∃ e, d = e + 1 := ⟨d - 1, by omega⟩
  refine MX11_ofNote ?_
  have hl := hL
  unfold RLay at hl
  unfold VX11_ofNote_0
  simp only [hl, sI_K, sI_N, sI_R, sI_J, Option.some.injEq, exists_eq_left', true_and, and_true, Int.toNat_zero, Int.reduceToNat, Int.reduceLT, Int.reduceLE, Int.cast_ofNat_Int, forall_eq, ge_iff_le, Int.reduceNeg, Int.reduceAdd, Int.reduceSub, Int.reduceMul, Int.reduceEq, r32_0, r32_1, r32_m1, b01_0, b01_1, not_true_eq_false, not_false_eq_true, false_implies, true_implies, implies_true, forall_const]
  refine ⟨by omega, ?_⟩
  rw [show (23 + 3 * (i : Int) + (q : Int)).toNat = 23 + 3 * i + q by omega]
  exact h
theorem c_ofScale {d m : Nat} {S : MS} {Q : Out → MS → Prop} {i q : Nat} {x1 x2 : Int} (hd : 1 ≤ d) (hL : RLay S m) (e1 : x1 = i) (e2 : x2 = q) (hi : i < 4) (hq : q < 3) (h : Q (.inl (some (vI (S.I (m+1) (11 + 3 * i + q))))) S) : Mw hX11_ofScale yX11_ofScale d [vA m, vI x1, vI x2] S Q := by
  subst e1 e2
  obtain ⟨e, rfl⟩ : ∃ e, d = e + 1 := ⟨d - 1, by omega⟩
  refine MX11_ofScale ?_
  have hl := hL
  unfold RLay at hl
  unfold VX11_ofScale_0
  simp only [hl, sI_K, sI_N, sI_R, sI_J, Option.some.injEq, exists_eq_left', true_and, and_true, Int.toNat_zero, Int.reduceToNat, Int.reduceLT, Int.reduceLE, Int.cast_ofNat_Int, forall_eq, ge_iff_le, Int.reduceNeg, Int.reduceAdd, Int.reduceSub, Int.reduceMul, Int.reduceEq, r32_0, r32_1, r32_m1, b01_0, b01_1, not_true_eq_false, not_false_eq_true, false_implies, true_implies, implies_true, forall_const]
  refine ⟨by omega, ?_⟩
  rw [show (11 + 3 * (i : Int) + (q : Int)).toNat = 11 + 3 * i + q by omega]
  exact h
theorem c_noThing {d m : Nat} {S : MS} {Q : Out → MS → Prop} {v : Int} (hd : 2 ≤ d) (hL : RLay S m) (hv : R32 v) (hn : 3 ≤ S.I (m+1) 0 ∧ S.I (m+1) 0 ≤ 7) (h : ∀ r, BI r (¬ (0 ≤ v ∧ v < S.I (m+1) 0)) → Q (.inl (some (vI r))) S) : Mw hX11_noThing yX11_noThing d [vA m, vI v] S Q := by
  obtain ⟨e, rfl⟩ : ∃ e, d = e + 1 := ⟨d - 1, by omega⟩
  refine MX11_noThing ?_
  have hl := hL
  unfold RLay at hl
  unfold VX11_noThing_0
  simp only [hl, sI_K, sI_N, sI_R, sI_J, Option.some.injEq, exists_eq_left', true_and, and_true, Int.toNat_zero, Int.reduceToNat, Int.reduceLT, Int.reduceLE, Int.cast_ofNat_Int, forall_eq, ge_iff_le, Int.reduceNeg, Int.reduceAdd, Int.reduceSub, Int.reduceMul, Int.reduceEq, r32_0, r32_1, r32_m1, b01_0, b01_1, not_true_eq_false, not_false_eq_true, false_implies, true_implies, implies_true, forall_const]
  refine c_things (by omega) hL (oI_i (c_in (by omega) hv r32_0 (by unfold R32; omega) (fun r hr => oI_i ?_)))
  rcases hr with ⟨rfl, hr⟩ | ⟨rfl, hr⟩
  · simp only [hl, sI_K, sI_N, sI_R, sI_J, Option.some.injEq, exists_eq_left', true_and, and_true, Int.toNat_zero, Int.reduceToNat, Int.reduceLT, Int.reduceLE, Int.cast_ofNat_Int, forall_eq, ge_iff_le, Int.reduceNeg, Int.reduceAdd, Int.reduceSub, Int.reduceMul, Int.reduceEq, r32_0, r32_1, r32_m1, b01_0, b01_1, not_true_eq_false, not_false_eq_true, false_implies, true_implies, implies_true, forall_const]
    exact h _ (.n (by omega))
  · simp only [hl, sI_K, sI_N, sI_R, sI_J, Option.some.injEq, exists_eq_left', true_and, and_true, Int.toNat_zero, Int.reduceToNat, Int.reduceLT, Int.reduceLE, Int.cast_ofNat_Int, forall_eq, ge_iff_le, Int.reduceNeg, Int.reduceAdd, Int.reduceSub, Int.reduceMul, Int.reduceEq, r32_0, r32_1, r32_m1, b01_0, b01_1, not_true_eq_false, not_false_eq_true, false_implies, true_implies, implies_true, forall_const]
    exact h _ (.y (by omega))
theorem c_noScale {d m : Nat} {S : MS} {Q : Out → MS → Prop} {v : Int} (hd : 2 ≤ d) (hL : RLay S m) (hv : R32 v) (hn : 0 ≤ S.I (m+1) 1 ∧ S.I (m+1) 1 ≤ 4) (h : ∀ r, BI r (¬ (0 ≤ v ∧ v < S.I (m+1) 1)) → Q (.inl (some (vI r))) S) : Mw hX11_noScale yX11_noScale d [vA m, vI v] S Q := by
  obtain ⟨e, rfl⟩ : ∃ e, d = e + 1 := ⟨d - 1, by omega⟩
  refine MX11_noScale ?_
  have hl := hL
  unfold RLay at hl
  unfold VX11_noScale_0
  simp only [hl, sI_K, sI_N, sI_R, sI_J, Option.some.injEq, exists_eq_left', true_and, and_true, Int.toNat_zero, Int.reduceToNat, Int.reduceLT, Int.reduceLE, Int.cast_ofNat_Int, forall_eq, ge_iff_le, Int.reduceNeg, Int.reduceAdd, Int.reduceSub, Int.reduceMul, Int.reduceEq, r32_0, r32_1, r32_m1, b01_0, b01_1, not_true_eq_false, not_false_eq_true, false_implies, true_implies, implies_true, forall_const]
  refine c_in (by omega) hv r32_0 (by unfold R32; omega) (fun r hr => oI_i ?_)
  rcases hr with ⟨rfl, hr⟩ | ⟨rfl, hr⟩
  · simp only [hl, sI_K, sI_N, sI_R, sI_J, Option.some.injEq, exists_eq_left', true_and, and_true, Int.toNat_zero, Int.reduceToNat, Int.reduceLT, Int.reduceLE, Int.cast_ofNat_Int, forall_eq, ge_iff_le, Int.reduceNeg, Int.reduceAdd, Int.reduceSub, Int.reduceMul, Int.reduceEq, r32_0, r32_1, r32_m1, b01_0, b01_1, not_true_eq_false, not_false_eq_true, false_implies, true_implies, implies_true, forall_const]
    exact h _ (.n (by omega))
  · simp only [hl, sI_K, sI_N, sI_R, sI_J, Option.some.injEq, exists_eq_left', true_and, and_true, Int.toNat_zero, Int.reduceToNat, Int.reduceLT, Int.reduceLE, Int.cast_ofNat_Int, forall_eq, ge_iff_le, Int.reduceNeg, Int.reduceAdd, Int.reduceSub, Int.reduceMul, Int.reduceEq, r32_0, r32_1, r32_m1, b01_0, b01_1, not_true_eq_false, not_false_eq_true, false_implies, true_implies, implies_true, forall_const]
    exact h _ (.y (by omega))
theorem c_noNote {d m : Nat} {S : MS} {Q : Out → MS → Prop} {v : Int} (hd : 2 ≤ d) (hL : RLay S m) (hv : R32 v) (hn : 0 ≤ S.I (m+1) 2 ∧ S.I (m+1) 2 ≤ 16) (h : ∀ r, BI r (¬ (0 ≤ v ∧ v < S.I (m+1) 2)) → Q (.inl (some (vI r))) S) : Mw hX11_noNote yX11_noNote d [vA m, vI v] S Q := by
  obtain ⟨e, rfl⟩ : ∃ e, d = e + 1 := ⟨d - 1, by omega⟩
  refine MX11_noNote ?_
  have hl := hL
  unfold RLay at hl
  unfold VX11_noNote_0
  simp only [hl, sI_K, sI_N, sI_R, sI_J, Option.some.injEq, exists_eq_left', true_and, and_true, Int.toNat_zero, Int.reduceToNat, Int.reduceLT, Int.reduceLE, Int.cast_ofNat_Int, forall_eq, ge_iff_le, Int.reduceNeg, Int.reduceAdd, Int.reduceSub, Int.reduceMul, Int.reduceEq, r32_0, r32_1, r32_m1, b01_0, b01_1, not_true_eq_false, not_false_eq_true, false_implies, true_implies, implies_true, forall_const]
  refine c_notes (by omega) hL (oI_i (c_in (by omega) hv r32_0 (by unfold R32; omega) (fun r hr => oI_i ?_)))
  rcases hr with ⟨rfl, hr⟩ | ⟨rfl, hr⟩
  · simp only [hl, sI_K, sI_N, sI_R, sI_J, Option.some.injEq, exists_eq_left', true_and, and_true, Int.toNat_zero, Int.reduceToNat, Int.reduceLT, Int.reduceLE, Int.cast_ofNat_Int, forall_eq, ge_iff_le, Int.reduceNeg, Int.reduceAdd, Int.reduceSub, Int.reduceMul, Int.reduceEq, r32_0, r32_1, r32_m1, b01_0, b01_1, not_true_eq_false, not_false_eq_true, false_implies, true_implies, implies_true, forall_const]
    exact h _ (.n (by omega))
  · simp only [hl, sI_K, sI_N, sI_R, sI_J, Option.some.injEq, exists_eq_left', true_and, and_true, Int.toNat_zero, Int.reduceToNat, Int.reduceLT, Int.reduceLE, Int.cast_ofNat_Int, forall_eq, ge_iff_le, Int.reduceNeg, Int.reduceAdd, Int.reduceSub, Int.reduceMul, Int.reduceEq, r32_0, r32_1, r32_m1, b01_0, b01_1, not_true_eq_false, not_false_eq_true, false_implies, true_implies, implies_true, forall_const]
    exact h _ (.y (by omega))
def pansK (k : Nat) : Nat := if k = 0 then 3 else if k = 1 then 4 else 2
def belK (k : Nat) : Nat := if k = 1 then 2 else 1
theorem c_pansOf {d : Nat} {S : MS} {Q : Out → MS → Prop} {x : Int} {k : Nat} (hd : 1 ≤ d) (hx : x = k) (hk : k < 3) (h : Q (.inl (some (vI (pansK k : Nat)))) S) : Mw hX11_pansOf yX11_pansOf d [vI x] S Q := by
  subst hx
  obtain ⟨e, rfl⟩ : ∃ e, d = e + 1 := ⟨d - 1, by omega⟩
  refine MX11_pansOf ?_
  unfold VX11_pansOf_0
  refine ⟨(by unfold R32; omega), fun c => ⟨⟨(by unfold R32; omega), r32_1⟩, fun c2 => ?_, fun c2 => ?_⟩, fun c => ?_⟩
  · rw [show pansK k = 2 by simp only [pansK]; rw [if_neg (by omega), if_neg (by omega)]] at h
    exact h
  · rw [show pansK k = 4 by simp only [pansK]; rw [if_neg (by omega), if_pos (by omega)]] at h
    exact h
  · rw [show pansK k = 3 by simp only [pansK]; rw [if_pos (by omega)]] at h
    exact h
theorem c_below {d : Nat} {S : MS} {Q : Out → MS → Prop} {x : Int} {k : Nat} (hd : 1 ≤ d) (hx : x = k) (hk : k < 3) (h : Q (.inl (some (vI (belK k : Nat)))) S) : Mw hX11_below yX11_below d [vI x] S Q := by
  subst hx
  obtain ⟨e, rfl⟩ : ∃ e, d = e + 1 := ⟨d - 1, by omega⟩
  refine MX11_below ?_
  unfold VX11_below_0
  refine ⟨⟨(by unfold R32; omega), r32_1⟩, fun c => ?_, fun c => ?_⟩
  · rw [show belK k = 1 by simp only [belK]; rw [if_neg (by omega)]] at h
    exact h
  · rw [show belK k = 2 by simp only [belK]; rw [if_pos (by omega)]] at h
    exact h
theorem c_pans {d m : Nat} {S : MS} {Q : Out → MS → Prop} {i k : Nat} {x1 : Int} (hd : 2 ≤ d) (hL : RLay S m) (e1 : x1 = i) (hi : i < 4) (hk : S.I (m+1) (11 + 3 * i) = k) (hk3 : k < 3) (h : Q (.inl (some (vI (pansK k : Nat)))) S) : Mw hX11_pans yX11_pans d [vA m, vI x1] S Q := by
  obtain ⟨e, rfl⟩ : ∃ e, d = e + 1 := ⟨d - 1, by omega⟩
  refine MX11_pans ?_
  have hl := hL
  unfold RLay at hl
  unfold VX11_pans_0
  simp only [hl, sI_K, sI_N, sI_R, sI_J, Option.some.injEq, exists_eq_left', true_and, and_true, Int.toNat_zero, Int.reduceToNat, Int.reduceLT, Int.reduceLE, Int.cast_ofNat_Int, forall_eq, ge_iff_le, Int.reduceNeg, Int.reduceAdd, Int.reduceSub, Int.reduceMul, Int.reduceEq, r32_0, r32_1, r32_m1, b01_0, b01_1, not_true_eq_false, not_false_eq_true, false_implies, true_implies, implies_true, forall_const]
  exact c_ofScale (q := 0) (by omega) hL e1 rfl hi (by decide) (oI_i (c_pansOf (by omega) hk hk3 (oI_i h)))
