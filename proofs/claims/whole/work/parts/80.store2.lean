theorem cp_K {S : MS} {a p b q n : Nat} : (S.cpy a p b q n).K = S.K := rfl
theorem cp_N {S : MS} {a p b q n : Nat} : (S.cpy a p b q n).N = S.N := rfl
theorem cp_R {S : MS} {a p b q n : Nat} : (S.cpy a p b q n).R = S.R := rfl
theorem cp_at {S : MS} {a b n c j : Nat} : (S.cpy a 0 b 0 n).I c j = if c = b ∧ j < n then S.I a j else S.I c j := by
  show up1 S.I b (fun j => if 0 ≤ j ∧ j < 0 + n then S.I a (0 + (j - 0)) else S.I b j) c j = _
  by_cases h : c = b
  · subst h
    rw [up1_eq]
    by_cases k : j < n
    · rw [if_pos ⟨by omega, by omega⟩, if_pos ⟨rfl, k⟩, Nat.zero_add, Nat.sub_zero]
    · rw [if_neg (by omega), if_neg (by omega)]
  · rw [up1_ne h, if_neg (fun k => h k.1)]
theorem Fi.cp {lo hi a b n : Nat} {S : MS} (hb : lo ≤ b ∧ b < hi) : Fi lo hi S (S.cpy a 0 b 0 n) := ⟨rfl, rfl, rfl, rfl, rfl, rfl, fun c hc => ⟨funext (fun j => by rw [cp_at, if_neg (by omega)]), rfl⟩⟩
def tk (S : MS) (o s : Nat) : MS := (((((((S.cpy (o+1) 0 (s+1) 0 7).cpy (o+2) 0 (s+2) 0 4).cpy (o+3) 0 (s+3) 0 4).cpy (o+4) 0 (s+4) 0 4).cpy (o+5) 0 (s+5) 0 16).cpy (o+6) 0 (s+6) 0 16).cpy (o+7) 0 (s+7) 0 16)
theorem tk_at {S : MS} {o s : Nat} (h : o + 8 ≤ s ∨ s + 8 ≤ o) : (∀ t, t < 7 → (tk S o s).I (s+1) t = S.I (o+1) t) ∧ (∀ i, i < 4 → (tk S o s).I (s+2) i = S.I (o+2) i ∧ (tk S o s).I (s+3) i = S.I (o+3) i ∧ (tk S o s).I (s+4) i = S.I (o+4) i) ∧ (∀ i, i < 16 → (tk S o s).I (s+5) i = S.I (o+5) i ∧ (tk S o s).I (s+6) i = S.I (o+6) i ∧ (tk S o s).I (s+7) i = S.I (o+7) i) := by
  unfold tk
  refine ⟨fun t ht => ?_, fun i hi => ⟨?_, ?_, ?_⟩, fun i hi => ⟨?_, ?_, ?_⟩⟩ <;> simp (disch := omega) only [sI_I, cp_at, true_and, and_true, if_true, if_pos, if_neg]
theorem Fi.tk {S : MS} {o s : Nat} : Fi (s+1) (s+8) S (tk S o s) :=
  ((((((Fi.cp (by omega)).tr (Fi.cp (by omega))).tr (Fi.cp (by omega))).tr (Fi.cp (by omega))).tr (Fi.cp (by omega))).tr (Fi.cp (by omega))).tr (Fi.cp (by omega))
theorem k_takeOver {d s o n : Nat} {w : Nat → Int} {S : MS} {Q : Out → MS → Prop} (hd : 1 ≤ d) (hY' : SY S s) (hS : SS S o n w) (hos : o + 8 ≤ s ∨ s + 8 ≤ o) (h : ∀ S', Fi s (s+8) S S' → SS S' s n w → Q (.inl none) S') : Mw hX7_takeOver yX7_takeOver d [vA s, vA o] S Q := by
  obtain ⟨hY, ⟨⟨w0, w1, w2, w3⟩, wt, wk, wn⟩, hg⟩ := hS
  have g0 := hg.1
  have g1 := hg.2.1
  have g2 := hg.2.2.1
  have g3 := hg.2.2.2.1
  have hl := hY
  unfold SY at hl
  have hl1 := hl
  have hl2 := hY'
  unfold SY at hl2
  obtain ⟨dd, rfl⟩ : ∃ e, d = e + 1 := ⟨d - 1, by omega⟩
  refine MX7_takeOver ?_
  unfold VX7_takeOver_0
  have hl := And.intro hl1 hl2
  simp only [hl, cp_K, cp_N, cp_R, sI_K, sI_N, sI_R, sI_J, sJ_K, sJ_N, sJ_R, sJ_I, sR_K, sR_N, sR_I, sR_J, Option.some.injEq, exists_eq_left', true_and, and_true, and_self_left, Int.toNat_natCast, Int.toNat_zero, Int.reduceToNat, Int.reduceLT, Int.reduceLE, Nat.reduceLeDiff, Nat.reduceLT, Int.cast_ofNat_Int, forall_eq, ge_iff_le, Int.reduceNeg, Int.reduceAdd, Int.reduceSub, Int.reduceMul, Int.reduceEq, r32_0, r32_1, r32_m1, b01_0, b01_1, not_true_eq_false, not_false_eq_true, false_implies, true_implies, implies_true, forall_const]
  clear hl hl1 hl2
  have t := tk_at (S := S) hos
  have f := Fi.tk (S := S) (o := o) (s := s)
  show Q (.inl none) (((((tk S o s).setI s 7 ((tk S o s).I o 7)).setI s 8 (((tk S o s).setI s 7 ((tk S o s).I o 7)).I o 8)).setI s 9 ((((tk S o s).setI s 7 ((tk S o s).I o 7)).setI s 8 (((tk S o s).setI s 7 ((tk S o s).I o 7)).I o 8)).I o 9)).setI s 10 (((((tk S o s).setI s 7 ((tk S o s).I o 7)).setI s 8 (((tk S o s).setI s 7 ((tk S o s).I o 7)).I o 8)).setI s 9 ((((tk S o s).setI s 7 ((tk S o s).I o 7)).setI s 8 (((tk S o s).setI s 7 ((tk S o s).I o 7)).I o 8)).I o 9)).I o 10))
  have eo : (tk S o s).I o = S.I o := f.I (by omega)
  generalize tk S o s = T at *
  have no : o ≠ s := by omega
  simp only [sI_Ia no, eo, w0, w1, w2, w3]
  have F : Fi s (s+8) S ((((T.setI s 7 (w 0)).setI s 8 (w 1)).setI s 9 (w 2)).setI s 10 (w 3)) := ((((f.wk (by omega) (by omega)).tr (Fi.sI (by omega))).tr (Fi.sI (by omega))).tr (Fi.sI (by omega))).tr (Fi.sI (by omega))
  have n1 : ∀ i, s + (i + 1) ≠ s := fun i => by omega
  refine h _ F ⟨F.sy hY', ⟨⟨by simp (disch := omega) only [sI_I, cp_at, true_and, and_true, if_true, if_pos, if_neg], by simp (disch := omega) only [sI_I, cp_at, true_and, and_true, if_true, if_pos, if_neg], by simp (disch := omega) only [sI_I, cp_at, true_and, and_true, if_true, if_pos, if_neg], by simp (disch := omega) only [sI_I, cp_at, true_and, and_true, if_true, if_pos, if_neg]⟩, fun i hi => ?_, fun i hi => ?_, fun i hi => ?_⟩, hg⟩
  · rw [sI_Ia (n1 0), sI_Ia (n1 0), sI_Ia (n1 0), sI_Ia (n1 0), t.1 i hi]
    exact wt i hi
  · have := t.2.1 i (by omega)
    simp only [sI_Ia (n1 1), sI_Ia (n1 2), sI_Ia (n1 3), this.1, this.2.1, this.2.2]
    exact wk i hi
  · have := t.2.2 i (by omega)
    simp only [sI_Ia (n1 4), sI_Ia (n1 5), sI_Ia (n1 6), this.1, this.2.1, this.2.2]
    exact wn i hi
theorem kf_setThings {d s n : Nat} {w : Nat → Int} {Q : Out → MS → Prop} : ∀ (j : Nat) {S : MS} {t : Nat}, t + j = 7 → n ≤ t → SY S s → (∀ u, u < 7 → S.I (s+1) u = if n ≤ u ∧ u < t then 0 else w (4 + u)) → (∀ S', Fi (s+1) (s+2) S S' → (∀ u, u < 7 → S'.I (s+1) u = if n ≤ u ∧ u < 7 then 0 else w (4 + u)) → Q (.inl none) S') → VX7_setThings_7 d Q (j + 1) s (t : Nat) S := by
  intro j
  induction j with
  | zero =>
    intro S t ht hn hY hW h
    have hl := hY
    unfold SY at hl
    unfold VX7_setThings_7
    simp only [hl, sI_K, sI_N, sI_R, sI_J, sJ_K, sJ_N, sJ_R, sJ_I, sR_K, sR_N, sR_I, sR_J, Option.some.injEq, exists_eq_left', true_and, and_true, and_self_left, Int.toNat_natCast, Int.toNat_zero, Int.reduceToNat, Int.reduceLT, Int.reduceLE, Nat.reduceLeDiff, Nat.reduceLT, Int.cast_ofNat_Int, forall_eq, ge_iff_le, Int.reduceNeg, Int.reduceAdd, Int.reduceSub, Int.reduceMul, Int.reduceEq, r32_0, r32_1, r32_m1, b01_0, b01_1, not_true_eq_false, not_false_eq_true, false_implies, true_implies, implies_true, forall_const]
    refine ⟨⟨(by unfold R32; omega), (by unfold R32; omega)⟩, fun _ => h S Fi.rf ?_, fun c => by omega⟩
    rw [show t = 7 by omega] at hW
    exact hW
  | succ j ih =>
    intro S t ht hn hY hW h
    have hl := hY
    unfold SY at hl
    unfold VX7_setThings_7
    simp only [hl, sI_K, sI_N, sI_R, sI_J, sJ_K, sJ_N, sJ_R, sJ_I, sR_K, sR_N, sR_I, sR_J, Option.some.injEq, exists_eq_left', true_and, and_true, and_self_left, Int.toNat_natCast, Int.toNat_zero, Int.reduceToNat, Int.reduceLT, Int.reduceLE, Nat.reduceLeDiff, Nat.reduceLT, Int.cast_ofNat_Int, forall_eq, ge_iff_le, Int.reduceNeg, Int.reduceAdd, Int.reduceSub, Int.reduceMul, Int.reduceEq, r32_0, r32_1, r32_m1, b01_0, b01_1, not_true_eq_false, not_false_eq_true, false_implies, true_implies, implies_true, forall_const]
    have F : Fi (s+1) (s+2) S (S.setI (s+1) t 0) := Fi.sI (by omega)
    refine ⟨⟨(by unfold R32; omega), (by unfold R32; omega)⟩, fun c => by omega, fun _ => ⟨by omega, ih (t := t + 1) (by omega) (by omega) (F.sy hY) (fun u hu => ?_) (fun S' f => h S' (F.tr f))⟩⟩
    by_cases g : u = t
    · rw [sI_I, if_pos ⟨rfl, g⟩, if_pos (by omega)]
    · rw [sI_I, if_neg (fun k => g k.2), hW u hu]
      by_cases g2 : n ≤ u ∧ u < t
      · rw [if_pos g2, if_pos (by omega)]
      · rw [if_neg g2, if_neg (by omega)]
theorem k_setThings {d s n k : Nat} {w : Nat → Int} {S : MS} {Q : Out → MS → Prop} {x : Int} (hd : 1 ≤ d) (hS : SS S s n w) (hx : x = (k : Int)) (h3 : 3 ≤ k) (h7 : k ≤ 7) (h0 : nN w = 0) (h : ∀ S', Fi s (s+8) S S' → SS S' s k (W_things w k) → Q (.inl none) S') : Mw hX7_setThings yX7_setThings d [vA s, vI x] S Q := by
  subst hx
  obtain ⟨hY, ⟨⟨w0, w1, w2, w3⟩, wt, wk, wn⟩, hg⟩ := hS
  have g0 := hg.1
  have g1 := hg.2.1
  have g2 := hg.2.2.1
  have g3 := hg.2.2.2.1
  have hl := hY
  unfold SY at hl
  obtain ⟨dd, rfl⟩ : ∃ e, d = e + 1 := ⟨d - 1, by omega⟩
  refine MX7_setThings ?_
  unfold VX7_setThings_0
  simp only [hl, sI_K, sI_N, sI_R, sI_J, sJ_K, sJ_N, sJ_R, sJ_I, sR_K, sR_N, sR_I, sR_J, Option.some.injEq, exists_eq_left', true_and, and_true, and_self_left, Int.toNat_natCast, Int.toNat_zero, Int.reduceToNat, Int.reduceLT, Int.reduceLE, Nat.reduceLeDiff, Nat.reduceLT, Int.cast_ofNat_Int, forall_eq, ge_iff_le, Int.reduceNeg, Int.reduceAdd, Int.reduceSub, Int.reduceMul, Int.reduceEq, r32_0, r32_1, r32_m1, b01_0, b01_1, not_true_eq_false, not_false_eq_true, false_implies, true_implies, implies_true, forall_const]
  have F : Fi s (s+8) S (S.setI s 7 (k : Int)) := Fi.sI (by omega)
  obtain ⟨j, hj⟩ : ∃ j, k + j = 7 := ⟨7 - k, by omega⟩
  refine ⟨_, kf_setThings (w := w) j hj (Nat.le_refl _) (F.sy hY) (fun u hu => ?_) (fun S' f hu => h S' (F.tr (f.wk (by omega) (by omega))) ⟨f.sy (F.sy hY), ⟨⟨?_, ?_, ?_, ?_⟩, fun t ht => ?_, fun i hi => ?_, fun i hi => ?_⟩, hg.things h0 h3 h7⟩)⟩
  · rw [sI_Ia (by omega), if_neg (by omega), wt u hu]
  · rw [f.I (by omega)]; simp (disch := omega) only [sI_I, cp_at, true_and, and_true, if_true, if_pos, if_neg]; rfl
  · rw [f.I (by omega)]; simp (disch := omega) only [sI_I, cp_at, true_and, and_true, if_true, if_pos, if_neg]; rw [w1]; unfold W_things; simp (disch := omega) only [sI_I, cp_at, true_and, and_true, if_true, if_pos, if_neg]
  · rw [f.I (by omega)]; simp (disch := omega) only [sI_I, cp_at, true_and, and_true, if_true, if_pos, if_neg]; rw [w2]; unfold W_things; simp (disch := omega) only [sI_I, cp_at, true_and, and_true, if_true, if_pos, if_neg]
  · rw [f.I (by omega)]; simp (disch := omega) only [sI_I, cp_at, true_and, and_true, if_true, if_pos, if_neg]; rw [w3]; unfold W_things; simp (disch := omega) only [sI_I, cp_at, true_and, and_true, if_true, if_pos, if_neg]
  · rw [hu t ht]
    unfold W_things
    by_cases g : k ≤ t
    · simp (disch := omega) only [sI_I, cp_at, true_and, and_true, if_true, if_pos, if_neg]
    · simp (disch := omega) only [sI_I, cp_at, true_and, and_true, if_true, if_pos, if_neg]
  · have e : sN (W_things w k) = sN w := by unfold sN W_things; simp (disch := omega) only [sI_I, cp_at, true_and, and_true, if_true, if_pos, if_neg]
    rw [e] at hi
    have := wk i hi
    rw [f.I (by omega), f.I (by omega), f.I (by omega), sI_Ia (by omega), sI_Ia (by omega), sI_Ia (by omega), this.1, this.2.1, this.2.2]
    unfold W_things
    refine ⟨?_, ?_, ?_⟩ <;> simp (disch := omega) only [sI_I, cp_at, true_and, and_true, if_true, if_pos, if_neg]
  · have e : nN (W_things w k) = nN w := by unfold nN W_things; simp (disch := omega) only [sI_I, cp_at, true_and, and_true, if_true, if_pos, if_neg]
    omega
theorem k_addScale {d s n : Nat} {w : Nat → Int} {S : MS} {Q : Out → MS → Prop} {k p l : Int} (hd : 1 ≤ d) (hS : SS S s n w) (h4 : sN w ≠ 4) (hk : 0 ≤ k ∧ k ≤ 2) (hp : 0 ≤ p ∧ p ≤ 99) (hli : 0 ≤ l ∧ l ≤ 3) (h : ∀ S', Fi s (s+8) S S' → SS S' s n (W_scale w k p l) → Q (.inl (some (vI (sN w : Nat)))) S') : Mw hX7_addScale yX7_addScale d [vA s, vI k, vI p, vI l] S Q := by
  obtain ⟨hY, ⟨⟨w0, w1, w2, w3⟩, wt, wk, wn⟩, hg⟩ := hS
  have g0 := hg.1
  have g1 := hg.2.1
  have g2 := hg.2.2.1
  have g3 := hg.2.2.2.1
  have hl := hY
  unfold SY at hl
  obtain ⟨dd, rfl⟩ : ∃ e, d = e + 1 := ⟨d - 1, by omega⟩
  refine MX7_addScale ?_
  unfold VX7_addScale_0
  unfold VX7_addScale_46
  simp only [hl, sI_K, sI_N, sI_R, sI_J, sJ_K, sJ_N, sJ_R, sJ_I, sR_K, sR_N, sR_I, sR_J, Option.some.injEq, exists_eq_left', true_and, and_true, and_self_left, Int.toNat_natCast, Int.toNat_zero, Int.reduceToNat, Int.reduceLT, Int.reduceLE, Nat.reduceLeDiff, Nat.reduceLT, Int.cast_ofNat_Int, forall_eq, ge_iff_le, Int.reduceNeg, Int.reduceAdd, Int.reduceSub, Int.reduceMul, Int.reduceEq, r32_0, r32_1, r32_m1, b01_0, b01_1, not_true_eq_false, not_false_eq_true, false_implies, true_implies, implies_true, forall_const]
  rw [w1, g1.1]
  simp only [hl, sI_K, sI_N, sI_R, sI_J, sJ_K, sJ_N, sJ_R, sJ_I, sR_K, sR_N, sR_I, sR_J, Option.some.injEq, exists_eq_left', true_and, and_true, and_self_left, Int.toNat_natCast, Int.toNat_zero, Int.reduceToNat, Int.reduceLT, Int.reduceLE, Nat.reduceLeDiff, Nat.reduceLT, Int.cast_ofNat_Int, forall_eq, ge_iff_le, Int.reduceNeg, Int.reduceAdd, Int.reduceSub, Int.reduceMul, Int.reduceEq, r32_0, r32_1, r32_m1, b01_0, b01_1, not_true_eq_false, not_false_eq_true, false_implies, true_implies, implies_true, forall_const]
  have F : Fi s (s+8) S ((((S.setI (s+2) (sN w) k).setI (s+3) (sN w) p).setI (s+4) (sN w) l).setI s 8 ((sN w : Int) + 1)) := (((Fi.sI (by omega)).tr (Fi.sI (by omega))).tr (Fi.sI (by omega))).tr (Fi.sI (by omega))
  have es : sN (W_scale w k p l) = sN w + 1 := by unfold sN; rw [scale_at]; simp (disch := omega) only [sI_I, cp_at, true_and, and_true, if_true, if_pos, if_neg]; omega
  have en : nN (W_scale w k p l) = nN w := by unfold nN; rw [scale_at]; simp (disch := omega) only [sI_I, cp_at, true_and, and_true, if_true, if_pos, if_neg]
  have e := h _ F ⟨F.sy hY, ⟨⟨?_, ?_, ?_, ?_⟩, fun t ht => ?_, fun i hi => ?_, fun i hi => ?_⟩, hg.scale h4 hk hp hli⟩
  · refine ⟨⟨(by unfold R32; omega), (by unfold R32; omega)⟩, fun c => by omega, fun _ => ?_⟩
    simp (disch := omega) only [sI_I, cp_at, true_and, and_true, if_true, if_pos, if_neg]
    rw [w1, g1.1]
    exact ⟨by omega, e⟩
  · rw [scale_at]; simp (disch := omega) only [sI_I, cp_at, true_and, and_true, if_true, if_pos, if_neg]; exact w0
  · rw [scale_at]; simp (disch := omega) only [sI_I, cp_at, true_and, and_true, if_true, if_pos, if_neg]
  · rw [scale_at]; simp (disch := omega) only [sI_I, cp_at, true_and, and_true, if_true, if_pos, if_neg]; exact w2
  · rw [scale_at]; simp (disch := omega) only [sI_I, cp_at, true_and, and_true, if_true, if_pos, if_neg]; exact w3
  · rw [scale_at]; simp (disch := omega) only [sI_I, cp_at, true_and, and_true, if_true, if_pos, if_neg]; exact wt t ht
  · rw [es] at hi
    rw [scale_at, scale_at, scale_at]
    by_cases g : i = sN w
    · subst g
      simp (disch := omega) only [sI_I, cp_at, true_and, and_true, if_true, if_pos, if_neg]
    · simp (disch := omega) only [sI_I, cp_at, true_and, and_true, if_true, if_pos, if_neg]
      exact wk i (by omega)
  · rw [en] at hi
    rw [scale_at, scale_at, scale_at]
    simp (disch := omega) only [sI_I, cp_at, true_and, and_true, if_true, if_pos, if_neg]
    exact wn i hi
theorem k_addNote {d s n a x t : Nat} {w : Nat → Int} {S : MS} {Q : Out → MS → Prop} {k p l : Int} (hd : 1 ≤ d) (hS : SS S s n w) (ek : k = (a : Int)) (ep : p = (x : Int)) (el : l = (t : Int)) (h16 : nN w ≠ 16) (hs : a < sN w) (hx : x < 2 ^ n) (hpc : pc x = pansK (kd w a)) (ht : t < n) (hb : x.testBit t = true) (h : ∀ S', Fi s (s+8) S S' → SS S' s n (W_note w a x t) → Q (.inl (some (vI (nN w : Nat)))) S') : Mw hX7_addNote yX7_addNote d [vA s, vI k, vI p, vI l] S Q := by
  subst ek ep el
  obtain ⟨hY, ⟨⟨w0, w1, w2, w3⟩, wt, wk, wn⟩, hg⟩ := hS
  have g0 := hg.1
  have g1 := hg.2.1
  have g2 := hg.2.2.1
  have g3 := hg.2.2.2.1
  have hl := hY
  unfold SY at hl
  obtain ⟨dd, rfl⟩ : ∃ e, d = e + 1 := ⟨d - 1, by omega⟩
  refine MX7_addNote ?_
  unfold VX7_addNote_0
  unfold VX7_addNote_47
  simp only [hl, sI_K, sI_N, sI_R, sI_J, sJ_K, sJ_N, sJ_R, sJ_I, sR_K, sR_N, sR_I, sR_J, Option.some.injEq, exists_eq_left', true_and, and_true, and_self_left, Int.toNat_natCast, Int.toNat_zero, Int.reduceToNat, Int.reduceLT, Int.reduceLE, Nat.reduceLeDiff, Nat.reduceLT, Int.cast_ofNat_Int, forall_eq, ge_iff_le, Int.reduceNeg, Int.reduceAdd, Int.reduceSub, Int.reduceMul, Int.reduceEq, r32_0, r32_1, r32_m1, b01_0, b01_1, not_true_eq_false, not_false_eq_true, false_implies, true_implies, implies_true, forall_const]
  rw [w2, g2.1]
  simp only [hl, sI_K, sI_N, sI_R, sI_J, sJ_K, sJ_N, sJ_R, sJ_I, sR_K, sR_N, sR_I, sR_J, Option.some.injEq, exists_eq_left', true_and, and_true, and_self_left, Int.toNat_natCast, Int.toNat_zero, Int.reduceToNat, Int.reduceLT, Int.reduceLE, Nat.reduceLeDiff, Nat.reduceLT, Int.cast_ofNat_Int, forall_eq, ge_iff_le, Int.reduceNeg, Int.reduceAdd, Int.reduceSub, Int.reduceMul, Int.reduceEq, r32_0, r32_1, r32_m1, b01_0, b01_1, not_true_eq_false, not_false_eq_true, false_implies, true_implies, implies_true, forall_const]
  have F : Fi s (s+8) S ((((S.setI (s+5) (nN w) (a : Int)).setI (s+6) (nN w) (x : Int)).setI (s+7) (nN w) (t : Int)).setI s 9 ((nN w : Int) + 1)) := (((Fi.sI (by omega)).tr (Fi.sI (by omega))).tr (Fi.sI (by omega))).tr (Fi.sI (by omega))
  have es : sN (W_note w a x t) = sN w := by unfold sN; rw [note_at]; simp (disch := omega) only [sI_I, cp_at, true_and, and_true, if_true, if_pos, if_neg]
  have en : nN (W_note w a x t) = nN w + 1 := by unfold nN; rw [note_at]; simp (disch := omega) only [sI_I, cp_at, true_and, and_true, if_true, if_pos, if_neg]; omega
  have e := h _ F ⟨F.sy hY, ⟨⟨?_, ?_, ?_, ?_⟩, fun t ht => ?_, fun i hi => ?_, fun i hi => ?_⟩, hg.note h16 hs hx hpc ht hb⟩
  · refine ⟨⟨(by unfold R32; omega), (by unfold R32; omega)⟩, fun c => by omega, fun _ => ?_⟩
    simp (disch := omega) only [sI_I, cp_at, true_and, and_true, if_true, if_pos, if_neg]
    rw [w2, g2.1]
    exact ⟨by omega, e⟩
  · rw [note_at]; simp (disch := omega) only [sI_I, cp_at, true_and, and_true, if_true, if_pos, if_neg]; exact w0
  · rw [note_at]; simp (disch := omega) only [sI_I, cp_at, true_and, and_true, if_true, if_pos, if_neg]; exact w1
  · rw [note_at]; simp (disch := omega) only [sI_I, cp_at, true_and, and_true, if_true, if_pos, if_neg]
  · rw [note_at]; simp (disch := omega) only [sI_I, cp_at, true_and, and_true, if_true, if_pos, if_neg]; exact w3
  · rw [note_at]; simp (disch := omega) only [sI_I, cp_at, true_and, and_true, if_true, if_pos, if_neg]; exact wt t ht
  · rw [es] at hi
    rw [note_at, note_at, note_at]
    simp (disch := omega) only [sI_I, cp_at, true_and, and_true, if_true, if_pos, if_neg]
    exact wk i hi
  · rw [en] at hi
    rw [note_at, note_at, note_at]
    by_cases g : i = nN w
    · subst g
      simp (disch := omega) only [sI_I, cp_at, true_and, and_true, if_true, if_pos, if_neg]
    · simp (disch := omega) only [sI_I, cp_at, true_and, and_true, if_true, if_pos, if_neg]
      exact wn i (by omega)
