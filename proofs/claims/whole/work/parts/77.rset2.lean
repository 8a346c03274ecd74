theorem c_rAddG {d a k L : Nat} {z : Int} {v : BitVec 64} {x : Int} {S : MS} {Q : Out → MS → Prop} (hd : 2 ≤ d) (hY : RY S a) (hx : x = (k : Int)) (hk : k < 79) (h3 : S.I a 3 = (L : Int)) (h0 : S.I a 0 = z) (hL : v ≠ 0#64 → L < 79) (hq0 : v = 0#64 → Q (.inl none) S) (hq1 : v ≠ 0#64 → Q (.inl none) ((((S.setJ (a+1) k v).setI (a+2) L (k : Int)).setI a 3 ((L : Int) + 1)).setI a 0 (z + (lc v : Nat)))) (hLm : L < 1000) : Mw hX5_add yX5_add d [vA a, vI x, vL v] S Q := by
  subst hx
  have hl := hY
  unfold RY at hl
  have c0 := lCmp_0 (x := v) (z := 0#64)
  obtain ⟨dd, rfl⟩ : ∃ e, d = e + 1 := ⟨d - 1, by omega⟩
  refine MX5_add ?_
  unfold VX5_add_0
  refine ⟨c0.1, fun c => hq0 (c0.2.mp c), fun c => ?_⟩
  have nz : v ≠ 0#64 := fun e => c (c0.2.mpr e)
  have hL' := hL nz
  simp only [hl, sI_K, sI_N, sI_R, sI_J, sJ_K, sJ_N, sJ_R, sJ_I, sR_K, sR_N, sR_I, sR_J, Option.some.injEq, exists_eq_left', true_and, and_true, and_self_left, Int.toNat_natCast, Int.toNat_zero, Int.reduceToNat, Int.reduceLT, Int.reduceLE, Nat.reduceLeDiff, Nat.reduceLT, Int.cast_ofNat_Int, forall_eq, ge_iff_le, Int.reduceNeg, Int.reduceAdd, Int.reduceSub, Int.reduceMul, Int.reduceEq, r32_0, r32_1, r32_m1, b01_0, b01_1, not_true_eq_false, not_false_eq_true, false_implies, true_implies, implies_true, forall_const]
  rw [h3]
  refine ⟨(by unfold R32; omega), fun c => by omega, fun _ => ⟨⟨(by unfold R32; omega), (by unfold R32; omega)⟩, fun c => by omega, fun _ => ⟨⟨(by unfold R32; omega), (by unfold R32; omega)⟩, fun c => by omega, fun _ => ?_⟩⟩⟩
  rw [show (((S.setJ (a+1) k v).setI (a+2) (L : Int).toNat (k : Int)).I a 3) = (L : Int) by rw [sI_Ia (by omega)]; exact h3, Int.toNat_natCast]
  refine ⟨by omega, by omega, c_lbits (by omega) (oI_i ⟨hY.1, ?_⟩)⟩
  rw [show ((((S.setJ (a+1) k v).setI (a+2) L (k : Int)).setI a 3 ((L : Int) + 1)).I a 0) = z by rw [sI_I, if_neg (by omega), sI_Ia (by omega)]; exact h0]
  exact hq1 nz
theorem lvE_le (p : Nat → Bool) (i : Nat) : lvE p i ≤ 79 := by
  unfold lvE
  split
  · rename_i c
    have := (lvs_lt (getD_mem c)).1
    omega
  · exact Nat.le_refl _
/-- an array with two parts: new words below e, old ones from e on -/
def mixW (p q : Nat → Bool) (e w : Nat) : BitVec 64 := if w < e then wdv (fun r => p r && q r) w else wdv p w
theorem f_rNarrow {d a c W : Nat} {p q : Nat → Bool} {Q : Out → MS → Prop} (hd : 2 ≤ d) (hac : c < a ∨ a + 3 ≤ c) (hW : W ≤ 79) (hp : ∀ r, 64 * W ≤ r → p r = false) : ∀ (j : Nat) {S : MS} {i : Nat}, RY S a → LA S c W q → i + j = (lvs p 79).length → (∀ w, w < 79 → S.J (a+1) w = mixW p q (lvE p i) w) → S.I a 3 = ((lvs (fun r => p r && q r) (lvE p i)).length : Nat) → (lvs (fun r => p r && q r) (lvE p i)).length ≤ i → (∀ k, k < (lvs (fun r => p r && q r) (lvE p i)).length → S.I (a+2) k = ((lvs (fun r => p r && q r) (lvE p i)).getD k 0 : Nat)) → (∀ k, i ≤ k → k < (lvs p 79).length → S.I (a+2) k = ((lvs p 79).getD k 0 : Nat)) → S.I a 0 = (cntB (fun r => p r && q r) (64 * lvE p i) : Nat) → (∀ S', Fi a (a+3) S S' → RS_ S' a (fun r => p r && q r) → Q (.inl none) S') → VX5_narrow_17 d Q (j + 1) a c ((lvs p 79).length : Nat) (i : Nat) S := by
  have hlen := lvs_len p 79
  have hq : ∀ r, (p r && q r) = true → p r = true := fun r h => by rw [Bool.and_eq_true] at h; exact h.1
  intro j
  induction j with
  | zero =>
    intro S i hY hC hi b1 b2 b2' b3 b3' b4 h
    have e79 : lvE p i = 79 := by unfold lvE; rw [if_neg (by omega)]
    rw [e79] at b1 b2 b3 b4
    unfold VX5_narrow_17
    refine ⟨⟨(by unfold R32; omega), (by unfold R32; omega)⟩, fun _ => h S Fi.rf ⟨hY, fun w hw => ?_, b2, b3, b4⟩, fun c => by omega⟩
    rw [b1 w hw]
    unfold mixW
    rw [if_pos hw]
  | succ j ih =>
    intro S i hY hC hi b1 b2 b2' b3 b3' b4 h
    have hl := hY
    unfold RY at hl
    obtain ⟨e1, e2, e3⟩ := lvE_s (p := p) (q := fun r => p r && q r) (i := i) hq (by omega)
    have hwW : lvE p i < W := by
      have := (lvs_lt (getD_mem (L := lvs p 79) (k := i) (by omega))).2
      rw [← e1] at this
      rcases Nat.lt_or_ge (lvE p i) W with g | g
      · exact g
      · exact absurd (wdv_0.mpr (fun b _ => hp _ (by omega))) this
    obtain ⟨k1, k2, k3⟩ := hC
    have v1 : S.J (a+1) (lvE p i) = wdv p (lvE p i) := by rw [b1 _ e2]; unfold mixW; rw [if_neg (by omega)]
    unfold VX5_narrow_17 VX5_narrow_53
    simp only [hl, sI_K, sI_N, sI_R, sI_J, sJ_K, sJ_N, sJ_R, sJ_I, sR_K, sR_N, sR_I, sR_J, Option.some.injEq, exists_eq_left', true_and, and_true, and_self_left, Int.toNat_natCast, Int.toNat_zero, Int.reduceToNat, Int.reduceLT, Int.reduceLE, Nat.reduceLeDiff, Nat.reduceLT, Int.cast_ofNat_Int, forall_eq, ge_iff_le, Int.reduceNeg, Int.reduceAdd, Int.reduceSub, Int.reduceMul, Int.reduceEq, r32_0, r32_1, r32_m1, b01_0, b01_1, not_true_eq_false, not_false_eq_true, false_implies, true_implies, implies_true, forall_const]
    rw [b3' i (Nat.le_refl _) (by omega), Int.toNat_natCast, ← e1, v1, k1, k2, k3 _ hwW, wdv_and]
    refine ⟨⟨(by unfold R32; omega), (by unfold R32; omega)⟩, fun _ => by omega, fun _ => ⟨by omega, by omega, ⟨(by unfold R32; omega), (by unfold R32; omega)⟩, fun c => by omega, fun _ => ⟨by omega, ⟨rfl, by omega⟩, by omega, ?_⟩⟩⟩
    have eL := lvE_le p (i + 1)
    obtain ⟨-, -, e3p⟩ := lvE_s (p := p) (q := p) (i := i) (fun r h => h) (by omega)
    have gl : lvE p i + 1 ≤ lvE p (i + 1) := by
      unfold lvE at e1 ⊢
      by_cases g : i + 1 < (lvs p 79).length
      · rw [if_pos g, if_pos (by omega)]
        have := (lvs_gap g).1
        omega
      · rw [if_neg g, if_pos (by omega)]
        have := (lvs_lt (getD_mem (L := lvs p 79) (k := i) (by omega))).1
        omega
    have lv1 : lvs (fun r => p r && q r) (lvE p (i + 1)) = lvs (fun r => p r && q r) (lvE p i) ++ (if wdv (fun r => p r && q r) (lvE p i) = 0#64 then [] else [lvE p i]) := by
      rw [← lvs_s, ← lvs_cut eL, ← e3, lvs_cut (by omega)]
    have cn1 : cntB (fun r => p r && q r) (64 * lvE p (i + 1)) = cntB (fun r => p r && q r) (64 * lvE p i) + lc (wdv (fun r => p r && q r) (lvE p i)) := by
      rw [← cnt_cut eL, ← e3, cnt_cut (by omega), lc_wdv, show 64 * (lvE p i + 1) = 64 * lvE p i + 64 by omega, cntB_split]
    have gp : ∀ w, lvE p i + 1 ≤ w → w < lvE p (i + 1) → wdv p w = 0#64 ∧ wdv (fun r => p r && q r) w = 0#64 := by
      intro w h1 h2
      have a1 := congrArg (fun f => wdv f w) e3p
      have a2 := congrArg (fun f => wdv f w) e3
      simp only [wdv_cut] at a1 a2
      rw [if_neg (by omega), if_pos h2] at a1 a2
      exact ⟨a1.symm, a2.symm⟩
    have mixE : ∀ (f : Nat → BitVec 64), (∀ w, w < 79 → f w = if w = lvE p i then wdv (fun r => p r && q r) (lvE p i) else mixW p q (lvE p i) w) → ∀ w, w < 79 → f w = mixW p q (lvE p (i + 1)) w := by
      intro f hf w hw
      rw [hf w hw]
      unfold mixW
      by_cases g : w = lvE p i
      · rw [if_pos g, if_pos (by omega), g]
      · rw [if_neg g]
        by_cases g1 : w < lvE p i
        · rw [if_pos g1, if_pos (by omega)]
        · rw [if_neg g1]
          by_cases g2 : w < lvE p (i + 1)
          · rw [if_pos g2, (gp w (by omega) g2).1, (gp w (by omega) g2).2]
          · rw [if_neg g2]
    have cl : (if wdv (fun r => p r && q r) (lvE p i) = 0#64 then [] else [lvE p i]).length ≤ 1 := by split <;> simp
    refine c_rAddG (k := lvE p i) (L := (lvs (fun r => p r && q r) (lvE p i)).length) (z := (cntB (fun r => p r && q r) (64 * lvE p i) : Nat)) hd (by exact hY) rfl e2 (by exact b2) (by exact b4) (fun _ => by omega) (fun z => oV_i ?_) (fun nz => oV_i ?_) (by omega)
    · rw [if_pos z, List.append_nil] at lv1
      rw [z, show lc 0#64 = 0 by decide, Nat.add_zero] at cn1
      refine ih (i := i + 1) (by exact hY) ⟨k1, k2, fun w hw => by rw [sJ_Ja (by omega)]; exact k3 w hw⟩ (by omega) (mixE _ (fun w hw => ?_)) (by rw [lv1]; exact b2) (by rw [lv1]; omega) (by rw [lv1]; exact b3) (fun k h1 h2 => b3' k (by omega) h2) (by rw [cn1]; exact b4) (fun S' f => h S' ((Fi.sJ (by omega)).tr f))
      rw [sJ_J]
      by_cases g : w = lvE p i
      · rw [if_pos ⟨rfl, g⟩, if_pos g, z]
      · rw [if_neg (fun k => g k.2), if_neg g, b1 w hw]
    · rw [if_neg nz] at lv1
      have ll : (lvs (fun r => p r && q r) (lvE p (i + 1))).length = (lvs (fun r => p r && q r) (lvE p i)).length + 1 := by rw [lv1, List.length_append]; rfl
      refine ih (i := i + 1) (by exact hY) ⟨k1, k2, fun w hw => ?_⟩ (by omega) (mixE _ (fun w hw => ?_)) ?_ (by omega) (fun k hk => ?_) (fun k h1 h2 => ?_) ?_ (fun S' f => h S' ((Fi.sJ (by omega)).tr ((Fi.sJ (by omega)).tr ((Fi.sI (by omega)).tr ((Fi.sI (by omega)).tr ((Fi.sI (by omega)).tr f))))))
      · rw [sI_J, sI_J, sI_J, sJ_Ja (by omega), sJ_Ja (by omega)]; exact k3 w hw
      · rw [sI_J, sI_J, sI_J, sJ_J]
        by_cases g : w = lvE p i
        · rw [if_pos ⟨rfl, g⟩, if_pos g]
        · rw [if_neg (fun k => g k.2), if_neg g, sJ_J, if_neg (fun k => g k.2), b1 w hw]
      · rw [sI_I, if_neg (by omega), sI_I, if_pos ⟨rfl, rfl⟩, ll]; rfl
      · rw [sI_Ia (by omega), sI_Ia (by omega), sI_I, lv1, List.getD_eq_getElem?_getD]
        by_cases g : k = (lvs (fun r => p r && q r) (lvE p i)).length
        · rw [if_pos ⟨rfl, g⟩, g, List.getElem?_append_right (Nat.le_refl _), Nat.sub_self]
          rfl
        · rw [if_neg (fun k => g k.2), List.getElem?_append_left (by omega), ← List.getD_eq_getElem?_getD]
          exact b3 k (by omega)
      · rw [sI_Ia (by omega), sI_Ia (by omega), sI_I, if_neg (by omega)]
        exact b3' k (by omega) h2
      · rw [sI_I, if_pos ⟨rfl, rfl⟩, cn1]
        rw [Int.natCast_add]
theorem c_rNarrow {d a c W : Nat} {p q : Nat → Bool} {S : MS} {Q : Out → MS → Prop} (hd : 3 ≤ d) (hac : c < a ∨ a + 3 ≤ c) (hW : W ≤ 79) (hp : ∀ r, 64 * W ≤ r → p r = false) (hA : RS_ S a p) (hC : LA S c W q) (h : ∀ S', Fi a (a+3) S S' → RS_ S' a (fun r => p r && q r) → Q (.inl none) S') : Mw hX5_narrow yX5_narrow d [vA a, vA c] S Q := by
  have hq : ∀ r, (p r && q r) = true → p r = true := fun r h => by rw [Bool.and_eq_true] at h; exact h.1
  obtain ⟨hY, b1, b2, b3, b4⟩ := hA
  have hl := hY
  unfold RY at hl
  obtain ⟨dd, rfl⟩ : ∃ e, d = e + 1 := ⟨d - 1, by omega⟩
  refine MX5_narrow ?_
  unfold VX5_narrow_0
  simp only [hl, sI_K, sI_N, sI_R, sI_J, sJ_K, sJ_N, sJ_R, sJ_I, sR_K, sR_N, sR_I, sR_J, Option.some.injEq, exists_eq_left', true_and, and_true, and_self_left, Int.toNat_natCast, Int.toNat_zero, Int.reduceToNat, Int.reduceLT, Int.reduceLE, Nat.reduceLeDiff, Nat.reduceLT, Int.cast_ofNat_Int, forall_eq, ge_iff_le, Int.reduceNeg, Int.reduceAdd, Int.reduceSub, Int.reduceMul, Int.reduceEq, r32_0, r32_1, r32_m1, b01_0, b01_1, not_true_eq_false, not_false_eq_true, false_implies, true_implies, implies_true, forall_const]
  rw [b2]
  have z0 := lvE_0 hq
  have ze : ∀ w, w < lvE p 0 → wdv p w = 0#64 ∧ wdv (fun r => p r && q r) w = 0#64 := by
    intro w hw
    have a1 := congrArg (fun f => wdv f w) (lvE_0 (p := p) (q := p) (fun r h => h))
    have a2 := congrArg (fun f => wdv f w) z0
    simp only [wdv_cut, wdv_no] at a1 a2
    rw [if_pos hw] at a1 a2
    exact ⟨a1, a2⟩
  have lv0 : lvs (fun r => p r && q r) (lvE p 0) = [] := by
    have := lvs_tail (p := fun r => p r && q r) (k := 0) (lvE p 0) (fun w _ h => (ze w (by omega)).2)
    rw [Nat.zero_add] at this
    exact this
  have cn0 : cntB (fun r => p r && q r) (64 * lvE p 0) = 0 := by
    rw [← cnt_cut (lvE_le p 0), z0]
    exact cntB_0 (fun _ _ => rfl)
  refine ⟨(lvs p 79).length + 1, f_rNarrow (p := p) (q := q) (by omega) hac hW hp (lvs p 79).length (i := 0) (by exact hY) (by exact hC) (by omega) (fun w hw => ?_) ?_ (by rw [lv0]; exact Nat.le_refl _) (fun k hk => ?_) (fun k _ hk => ?_) ?_ (fun S' f => h S' ((Fi.sI (by omega)).tr ((Fi.sI (by omega)).tr f)))⟩
  · rw [sI_J, sI_J, b1 w hw]
    unfold mixW
    by_cases g : w < lvE p 0
    · rw [if_pos g, (ze w g).1, (ze w g).2]
    · rw [if_neg g]
  · rw [sI_I, if_pos ⟨rfl, rfl⟩, lv0]; rfl
  · rw [lv0] at hk
    exact absurd hk (Nat.not_lt_zero k)
  · rw [sI_Ia (by omega), sI_Ia (by omega)]
    exact b3 k hk
  · rw [sI_I, if_neg (by omega), sI_I, if_pos ⟨rfl, rfl⟩, cn0]; rfl
/-! reading a set of rows -/
theorem live_sum {p r : Nat → Bool} (h : ∀ x, r x = true → p x = true) : ∀ k, smL (fun w => lc (wdv r w)) (lvs p k) = cntB r (64 * k)
  | 0 => rfl
  | k + 1 => by
    rw [lvs_s, show 64 * (k + 1) = 64 * k + 64 by omega, cntB_split, ← live_sum h k, ← lc_wdv]
    by_cases c : wdv p k = 0#64
    · have : wdv r k = 0#64 := by
        rw [wdv_0] at c ⊢
        intro b hb
        cases e : r (64 * k + b)
        · rfl
        · have := h _ e; rw [c b hb] at this; exact absurd this (by decide)
      rw [if_pos c, List.append_nil, this]
      show _ = _ + lc 0#64
      rw [show lc 0#64 = 0 by decide]
      rfl
    · rw [if_neg c]
      unfold smL
      rw [List.map_append, List.sum_append]
      simp
theorem f_rShared {d a c W : Nat} {p q : Nat → Bool} {S : MS} {Q : Out → MS → Prop} (hd : 1 ≤ d) (hW : W ≤ 79) (hp : ∀ r, 64 * W ≤ r → p r = false) (hA : RS_ S a p) (hC : LA S c W q) (h : Q (.inl (some (vI (cntB (fun r => p r && q r) 5056 : Nat)))) S) : ∀ (j : Nat) {i : Nat}, i + j = (lvs p 79).length → VX5_shared_4 d Q (j + 1) a c (smL (fun w => lc (wdv (fun r => p r && q r) w)) ((lvs p 79).take i) : Nat) (i : Nat) S := by
  have hlen := lvs_len p 79
  have hq : ∀ r, (p r && q r) = true → p r = true := fun r h => by rw [Bool.and_eq_true] at h; exact h.1
  obtain ⟨hY, b1, b2, b3, b4⟩ := hA
  obtain ⟨k1, k2, k3⟩ := hC
  have hl := hY
  unfold RY at hl
  intro j
  induction j with
  | zero =>
    intro i hi
    unfold VX5_shared_4
    simp only [hl, sI_K, sI_N, sI_R, sI_J, sJ_K, sJ_N, sJ_R, sJ_I, sR_K, sR_N, sR_I, sR_J, Option.some.injEq, exists_eq_left', true_and, and_true, and_self_left, Int.toNat_natCast, Int.toNat_zero, Int.reduceToNat, Int.reduceLT, Int.reduceLE, Nat.reduceLeDiff, Nat.reduceLT, Int.cast_ofNat_Int, forall_eq, ge_iff_le, Int.reduceNeg, Int.reduceAdd, Int.reduceSub, Int.reduceMul, Int.reduceEq, r32_0, r32_1, r32_m1, b01_0, b01_1, not_true_eq_false, not_false_eq_true, false_implies, true_implies, implies_true, forall_const]
    rw [b2, show (lvs p 79).take i = lvs p 79 by rw [show i = (lvs p 79).length by omega]; exact List.take_length, live_sum hq]
    exact ⟨⟨(by unfold R32; omega), (by unfold R32; omega)⟩, fun _ => h, fun c => by omega⟩
  | succ j ih =>
    intro i hi
    have hwi := lvs_lt (getD_mem (L := lvs p 79) (k := i) (by omega))
    have hwW : (lvs p 79).getD i 0 < W := by
      rcases Nat.lt_or_ge ((lvs p 79).getD i 0) W with g | g
      · exact g
      · exact absurd (wdv_0.mpr (fun b _ => hp _ (by omega))) hwi.2
    unfold VX5_shared_4 VX5_shared_47
    simp only [hl, sI_K, sI_N, sI_R, sI_J, sJ_K, sJ_N, sJ_R, sJ_I, sR_K, sR_N, sR_I, sR_J, Option.some.injEq, exists_eq_left', true_and, and_true, and_self_left, Int.toNat_natCast, Int.toNat_zero, Int.reduceToNat, Int.reduceLT, Int.reduceLE, Nat.reduceLeDiff, Nat.reduceLT, Int.cast_ofNat_Int, forall_eq, ge_iff_le, Int.reduceNeg, Int.reduceAdd, Int.reduceSub, Int.reduceMul, Int.reduceEq, r32_0, r32_1, r32_m1, b01_0, b01_1, not_true_eq_false, not_false_eq_true, false_implies, true_implies, implies_true, forall_const]
    rw [b2, b3 i (by omega), Int.toNat_natCast, b1 _ hwi.1, k1, k2, k3 _ hwW, wdv_and]
    refine ⟨⟨(by unfold R32; omega), (by unfold R32; omega)⟩, fun _ => by omega, fun _ => ⟨by omega, by omega, ⟨(by unfold R32; omega), (by unfold R32; omega)⟩, fun c => by omega, fun _ => ⟨by omega, ⟨rfl, by omega⟩, c_lbits hd (oI_i ?_)⟩⟩⟩
    have := ih (i := i + 1) (by omega)
    rw [smL_s (by omega), Int.natCast_add] at this
    exact this
theorem c_rShared {d a c W : Nat} {p q : Nat → Bool} {S : MS} {Q : Out → MS → Prop} (hd : 2 ≤ d) (hW : W ≤ 79) (hp : ∀ r, 64 * W ≤ r → p r = false) (hA : RS_ S a p) (hC : LA S c W q) (h : Q (.inl (some (vI (cntB (fun r => p r && q r) 5056 : Nat)))) S) : Mw hX5_shared yX5_shared d [vA a, vA c] S Q := by
  obtain ⟨dd, rfl⟩ : ∃ e, d = e + 1 := ⟨d - 1, by omega⟩
  refine MX5_shared ?_
  unfold VX5_shared_0
  exact ⟨_, f_rShared (by omega) hW hp hA hC h (lvs p 79).length (i := 0) (by omega)⟩
/-- some row in all three -/
def Me (p q1 q2 : Nat → Bool) : Prop := ∃ r, p r = true ∧ q1 r = true ∧ q2 r = true
theorem f_rMeets {d a c e W : Nat} {p q1 q2 : Nat → Bool} {S : MS} {Q : Out → MS → Prop} (hW : W ≤ 79) (hp : ∀ r, 64 * W ≤ r → p r = false) (hA : RS_ S a p) (hC : LA S c W q1) (hE : LA S e W q2) (h : ∀ q, BI q (Me p q1 q2) → Q (.inl (some (vI q))) S) : ∀ (j : Nat) {i : Nat}, i + j = (lvs p 79).length → (∀ k, k < i → wdv (fun r => p r && q1 r && q2 r) ((lvs p 79).getD k 0) = 0#64) → VX5_meetsBoth_2 d Q (j + 1) a c e (i : Nat) S := by
  have hlen := lvs_len p 79
  obtain ⟨hY, b1, b2, b3, b4⟩ := hA
  obtain ⟨k1, k2, k3⟩ := hC
  obtain ⟨j1, j2, j3⟩ := hE
  have hl := hY
  unfold RY at hl
  intro j
  induction j with
  | zero =>
    intro i hi hz
    unfold VX5_meetsBoth_2
    simp only [hl, sI_K, sI_N, sI_R, sI_J, sJ_K, sJ_N, sJ_R, sJ_I, sR_K, sR_N, sR_I, sR_J, Option.some.injEq, exists_eq_left', true_and, and_true, and_self_left, Int.toNat_natCast, Int.toNat_zero, Int.reduceToNat, Int.reduceLT, Int.reduceLE, Nat.reduceLeDiff, Nat.reduceLT, Int.cast_ofNat_Int, forall_eq, ge_iff_le, Int.reduceNeg, Int.reduceAdd, Int.reduceSub, Int.reduceMul, Int.reduceEq, r32_0, r32_1, r32_m1, b01_0, b01_1, not_true_eq_false, not_false_eq_true, false_implies, true_implies, implies_true, forall_const]
    rw [b2]
    refine ⟨⟨(by unfold R32; omega), (by unfold R32; omega)⟩, fun _ => h _ (.n ?_), fun c => by omega⟩
    rintro ⟨r, g1, g2, g3⟩
    have hr : r < 64 * W := by
      rcases Nat.lt_or_ge r (64 * W) with g | g
      · exact g
      · rw [hp r g] at g1; exact absurd g1 (by decide)
    have nz : wdv p (r / 64) ≠ 0#64 := by
      intro z
      have := wdv_0.mp z (r % 64) (by omega)
      rw [Nat.div_add_mod, g1] at this
      exact absurd this (by decide)
    obtain ⟨k, hk, ek⟩ := mem_getD (lvs_mem (k := 79) (by omega) nz)
    have := hz k (by omega)
    rw [ek, wdv_0] at this
    have := this (r % 64) (by omega)
    rw [Nat.div_add_mod, g1, g2, g3] at this
    exact absurd this (by decide)
  | succ j ih =>
    intro i hi hz
    have hwi := lvs_lt (getD_mem (L := lvs p 79) (k := i) (by omega))
    have hwW : (lvs p 79).getD i 0 < W := by
      rcases Nat.lt_or_ge ((lvs p 79).getD i 0) W with g | g
      · exact g
      · exact absurd (wdv_0.mpr (fun b _ => hp _ (by omega))) hwi.2
    have c0 := lCmp_0 (x := wdv (fun r => p r && q1 r && q2 r) ((lvs p 79).getD i 0)) (z := 0#64)
    unfold VX5_meetsBoth_2 VX5_meetsBoth_56
    simp only [hl, sI_K, sI_N, sI_R, sI_J, sJ_K, sJ_N, sJ_R, sJ_I, sR_K, sR_N, sR_I, sR_J, Option.some.injEq, exists_eq_left', true_and, and_true, and_self_left, Int.toNat_natCast, Int.toNat_zero, Int.reduceToNat, Int.reduceLT, Int.reduceLE, Nat.reduceLeDiff, Nat.reduceLT, Int.cast_ofNat_Int, forall_eq, ge_iff_le, Int.reduceNeg, Int.reduceAdd, Int.reduceSub, Int.reduceMul, Int.reduceEq, r32_0, r32_1, r32_m1, b01_0, b01_1, not_true_eq_false, not_false_eq_true, false_implies, true_implies, implies_true, forall_const]
    rw [b2, b3 i (by omega), Int.toNat_natCast, b1 _ hwi.1, k1, k2, j1, j2, k3 _ hwW, j3 _ hwW, wdv_and, wdv_and]
    refine ⟨⟨(by unfold R32; omega), (by unfold R32; omega)⟩, fun _ => by omega, fun _ => ⟨by omega, by omega, ⟨(by unfold R32; omega), (by unfold R32; omega)⟩, fun c => by omega, fun _ => ⟨by omega, ⟨(by unfold R32; omega), (by unfold R32; omega)⟩, fun c => by omega, fun _ => ⟨by omega, ⟨rfl, by omega⟩, ⟨rfl, by omega⟩, c0.1, fun z => ih (i := i + 1) (by omega) (fun k hk => ?_), fun nz => h _ (.y ?_)⟩⟩⟩⟩
    · by_cases g : k = i
      · rw [g]; exact c0.2.mp z
      · exact hz k (by omega)
    · apply Classical.byContradiction
      intro g
      refine nz (c0.2.mpr (wdv_0.mpr (fun b hb => ?_)))
      cases g1 : p (64 * (lvs p 79).getD i 0 + b)
      · rfl
      · cases g2 : q1 (64 * (lvs p 79).getD i 0 + b)
        · rfl
        · cases g3 : q2 (64 * (lvs p 79).getD i 0 + b)
          · rfl
          · exact absurd ⟨_, g1, g2, g3⟩ g
theorem c_rMeetsB {d a c e W : Nat} {p q1 q2 : Nat → Bool} {S : MS} {Q : Out → MS → Prop} (hd : 1 ≤ d) (hW : W ≤ 79) (hp : ∀ r, 64 * W ≤ r → p r = false) (hA : RS_ S a p) (hC : LA S c W q1) (hE : LA S e W q2) (h : ∀ q, BI q (Me p q1 q2) → Q (.inl (some (vI q))) S) : Mw hX5_meetsBoth yX5_meetsBoth d [vA a, vA c, vA e] S Q := by
  obtain ⟨dd, rfl⟩ : ∃ e, d = e + 1 := ⟨d - 1, by omega⟩
  refine MX5_meetsBoth ?_
  unfold VX5_meetsBoth_0
  exact ⟨_, f_rMeets hW hp hA hC hE h (lvs p 79).length (i := 0) (by omega) (fun k hk => absurd hk (Nat.not_lt_zero k))⟩
theorem c_rMeets {d a c W : Nat} {p q : Nat → Bool} {S : MS} {Q : Out → MS → Prop} (hd : 2 ≤ d) (hW : W ≤ 79) (hp : ∀ r, 64 * W ≤ r → p r = false) (hA : RS_ S a p) (hC : LA S c W q) (h : ∀ v, BI v (∃ r, p r = true ∧ q r = true) → Q (.inl (some (vI v))) S) : Mw hX5_meets yX5_meets d [vA a, vA c] S Q := by
  obtain ⟨dd, rfl⟩ : ∃ e, d = e + 1 := ⟨d - 1, by omega⟩
  refine MX5_meets ?_
  unfold VX5_meets_0
  refine ⟨hA.1.1, c_rMeetsB (by omega) hW hp hA hC hC (fun v hv => oI_i ⟨hv.b, h v ?_⟩)⟩
  rcases hv with ⟨e, r, g1, g2, -⟩ | ⟨e, g⟩
  · exact Or.inl ⟨e, r, g1, g2⟩
  · exact Or.inr ⟨e, fun ⟨r, g1, g2⟩ => g ⟨r, g1, g2, g2⟩⟩
theorem f_rWithin {d a c W : Nat} {p q : Nat → Bool} {S : MS} {Q : Out → MS → Prop} (hW : W ≤ 79) (hp : ∀ r, 64 * W ≤ r → p r = false) (hA : RS_ S a p) (hC : LA S c W q) (h : ∀ v, BI v (∀ r, p r = true → q r = true) → Q (.inl (some (vI v))) S) : ∀ (j : Nat) {i : Nat}, i + j = (lvs p 79).length → (∀ k, k < i → wdv (fun r => p r && !q r) ((lvs p 79).getD k 0) = 0#64) → VX5_isWithin_2 d Q (j + 1) a c (i : Nat) S := by
  have hlen := lvs_len p 79
  obtain ⟨hY, b1, b2, b3, b4⟩ := hA
  obtain ⟨k1, k2, k3⟩ := hC
  have hl := hY
  unfold RY at hl
  intro j
  induction j with
  | zero =>
    intro i hi hz
    unfold VX5_isWithin_2
    simp only [hl, sI_K, sI_N, sI_R, sI_J, sJ_K, sJ_N, sJ_R, sJ_I, sR_K, sR_N, sR_I, sR_J, Option.some.injEq, exists_eq_left', true_and, and_true, and_self_left, Int.toNat_natCast, Int.toNat_zero, Int.reduceToNat, Int.reduceLT, Int.reduceLE, Nat.reduceLeDiff, Nat.reduceLT, Int.cast_ofNat_Int, forall_eq, ge_iff_le, Int.reduceNeg, Int.reduceAdd, Int.reduceSub, Int.reduceMul, Int.reduceEq, r32_0, r32_1, r32_m1, b01_0, b01_1, not_true_eq_false, not_false_eq_true, false_implies, true_implies, implies_true, forall_const]
    rw [b2]
    refine ⟨⟨(by unfold R32; omega), (by unfold R32; omega)⟩, fun _ => h _ (.y (fun r g1 => ?_)), fun c => by omega⟩
    have hr : r < 64 * W := by
      rcases Nat.lt_or_ge r (64 * W) with g | g
      · exact g
      · rw [hp r g] at g1; exact absurd g1 (by decide)
    have nz : wdv p (r / 64) ≠ 0#64 := by
      intro z
      have := wdv_0.mp z (r % 64) (by omega)
      rw [Nat.div_add_mod, g1] at this
      exact absurd this (by decide)
    obtain ⟨k, hk, ek⟩ := mem_getD (lvs_mem (k := 79) (by omega) nz)
    have := hz k (by omega)
    rw [ek, wdv_0] at this
    have := this (r % 64) (by omega)
    rw [Nat.div_add_mod, g1] at this
    simpa using this
  | succ j ih =>
    intro i hi hz
    have hwi := lvs_lt (getD_mem (L := lvs p 79) (k := i) (by omega))
    have hwW : (lvs p 79).getD i 0 < W := by
      rcases Nat.lt_or_ge ((lvs p 79).getD i 0) W with g | g
      · exact g
      · exact absurd (wdv_0.mpr (fun b _ => hp _ (by omega))) hwi.2
    have c0 := lCmp_0 (x := wdv (fun r => p r && !q r) ((lvs p 79).getD i 0)) (z := 0#64)
    unfold VX5_isWithin_2
    simp only [hl, sI_K, sI_N, sI_R, sI_J, sJ_K, sJ_N, sJ_R, sJ_I, sR_K, sR_N, sR_I, sR_J, Option.some.injEq, exists_eq_left', true_and, and_true, and_self_left, Int.toNat_natCast, Int.toNat_zero, Int.reduceToNat, Int.reduceLT, Int.reduceLE, Nat.reduceLeDiff, Nat.reduceLT, Int.cast_ofNat_Int, forall_eq, ge_iff_le, Int.reduceNeg, Int.reduceAdd, Int.reduceSub, Int.reduceMul, Int.reduceEq, r32_0, r32_1, r32_m1, b01_0, b01_1, not_true_eq_false, not_false_eq_true, false_implies, true_implies, implies_true, forall_const]
    rw [b2, b3 i (by omega), Int.toNat_natCast, b1 _ hwi.1, k1, k2, k3 _ hwW, wdv_not, wdv_and]
    refine ⟨⟨(by unfold R32; omega), (by unfold R32; omega)⟩, fun _ => by omega, fun _ => ⟨by omega, by omega, ⟨(by unfold R32; omega), (by unfold R32; omega)⟩, fun c => by omega, fun _ => ⟨by omega, ⟨rfl, by omega⟩, c0.1, fun z => ih (i := i + 1) (by omega) (fun k hk => ?_), fun nz => h _ (.n ?_)⟩⟩⟩
    · by_cases g : k = i
      · rw [g]; exact c0.2.mp z
      · exact hz k (by omega)
    · intro g
      refine nz (c0.2.mpr (wdv_0.mpr (fun b hb => ?_)))
      cases g1 : p (64 * (lvs p 79).getD i 0 + b)
      · rfl
      · rw [g _ g1]; rfl
theorem c_rWithin {d a c W : Nat} {p q : Nat → Bool} {S : MS} {Q : Out → MS → Prop} (hd : 1 ≤ d) (hW : W ≤ 79) (hp : ∀ r, 64 * W ≤ r → p r = false) (hA : RS_ S a p) (hC : LA S c W q) (h : ∀ v, BI v (∀ r, p r = true → q r = true) → Q (.inl (some (vI v))) S) : Mw hX5_isWithin yX5_isWithin d [vA a, vA c] S Q := by
  obtain ⟨dd, rfl⟩ : ∃ e, d = e + 1 := ⟨d - 1, by omega⟩
  refine MX5_isWithin ?_
  unfold VX5_isWithin_0
  exact ⟨_, f_rWithin hW hp hA hC h (lvs p 79).length (i := 0) (by omega) (fun k hk => absurd hk (Nat.not_lt_zero k))⟩
theorem bit_at {x : BitVec 64} {b : Nat} (hb : b < 64) : (lUshr x (b : Int) &&& 1#64 = 1#64) ↔ x.getLsbD b = true := by
  rw [lUshr_n x hb]
  constructor
  · intro h
    have := congrArg (fun y => y.getLsbD 0) h
    simp at this
    exact this
  · intro h
    apply BitVec.eq_of_getLsbD_eq
    intro i hi
    rw [BitVec.getLsbD_and, BitVec.getLsbD_ushiftRight]
    by_cases e : i = 0
    · subst e
      simp [h]
    · have : (1#64).getLsbD i = false := by
        show Nat.testBit 1 i = false
        exact Nat.testBit_lt_two_pow (Nat.one_lt_two_pow e)
      rw [this]
      simp
theorem c_rHas {d a k : Nat} {p : Nat → Bool} {S : MS} {Q : Out → MS → Prop} {x : Int} (hd : 1 ≤ d) (hA : RS_ S a p) (hx : x = (k : Int)) (hk : k < 5056) (h : ∀ v, BI v (p k = true) → Q (.inl (some (vI v))) S) : Mw hX5_has yX5_has d [vA a, vI x] S Q := by
  subst hx
  obtain ⟨hY, b1, b2, b3, b4⟩ := hA
  have hl := hY
  unfold RY at hl
  have e1 : iShr (k : Int) 6 = ((k / 64 : Nat) : Int) := iShr_n (k := 6) (by omega) (by decide)
  have e2 : iAnd (k : Int) 63 = ((k % 64 : Nat) : Int) := by
    have := iAnd_n (a := k) (b := 63) (by omega) (by decide)
    rw [show (63 : Nat) = 2 ^ 6 - 1 by decide, Nat.and_two_pow_sub_one_eq_mod] at this
    exact this
  have c0 := lCmp_0 (x := lUshr (wdv p (k / 64)) ((k % 64 : Nat) : Int) &&& 1#64) (z := 1#64)
  have bt : (lUshr (wdv p (k / 64)) ((k % 64 : Nat) : Int) &&& 1#64 = 1#64) ↔ p k = true := by
    rw [bit_at (by omega), wdv_bit, Nat.div_add_mod]
    simp
    omega
  obtain ⟨dd, rfl⟩ : ∃ e, d = e + 1 := ⟨d - 1, by omega⟩
  refine MX5_has ?_
  unfold VX5_has_0
  rw [e1, e2]
  simp only [hl, sI_K, sI_N, sI_R, sI_J, sJ_K, sJ_N, sJ_R, sJ_I, sR_K, sR_N, sR_I, sR_J, Option.some.injEq, exists_eq_left', true_and, and_true, and_self_left, Int.toNat_natCast, Int.toNat_zero, Int.reduceToNat, Int.reduceLT, Int.reduceLE, Nat.reduceLeDiff, Nat.reduceLT, Int.cast_ofNat_Int, forall_eq, ge_iff_le, Int.reduceNeg, Int.reduceAdd, Int.reduceSub, Int.reduceMul, Int.reduceEq, r32_0, r32_1, r32_m1, b01_0, b01_1, not_true_eq_false, not_false_eq_true, false_implies, true_implies, implies_true, forall_const]
  rw [b1 _ (by omega)]
  exact ⟨(by unfold R32; omega), fun c => by omega, fun _ => ⟨⟨(by unfold R32; omega), (by unfold R32; omega)⟩, fun c => by omega, fun _ => ⟨by omega, c0.1, fun nz => h _ (.n (fun g => nz (c0.2.mpr (bt.mpr g)))), fun z => h _ (.y (bt.mp (c0.2.mp z)))⟩⟩⟩
