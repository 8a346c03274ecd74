def sh (i k : Nat) (g : Nat → Int) (q : Nat) : Int := if i ≤ q ∧ q < k then g (q + 1) else g q
theorem sh_s {i k : Nat} {g : Nat → Int} (h : i ≤ k) (q : Nat) : (if q = k then sh i k g (k + 1) else sh i k g q) = sh i (k + 1) g q := by
  unfold sh
  by_cases c : q = k
  · subst c
    rw [if_pos rfl, if_neg (by omega), if_pos (by omega)]
  · rw [if_neg c]
    by_cases g2 : i ≤ q ∧ q < k
    · rw [if_pos g2, if_pos (by omega)]
    · rw [if_neg g2, if_neg (by omega)]
theorem kf_putAway {d s N i : Nat} {g5 g6 g7 : Nat → Int} {Q : Out → MS → Prop} (hN : N ≤ 16) : ∀ (j : Nat) {S : MS} {k : Nat}, k + 1 + j = N → i ≤ k → SY S s → S.I s 9 = (N : Int) → (∀ q, q < 16 → S.I (s+5) q = sh i k g5 q ∧ S.I (s+6) q = sh i k g6 q ∧ S.I (s+7) q = sh i k g7 q) → (∀ S', Fi (s+5) (s+8) S S' → (∀ q, q < 16 → S'.I (s+5) q = sh i (N - 1) g5 q ∧ S'.I (s+6) q = sh i (N - 1) g6 q ∧ S'.I (s+7) q = sh i (N - 1) g7 q) → Q (.inl none) (S'.setI s 9 ((N : Int) - 1))) → VX7_putAway_2 d Q (j + 1) s (k : Nat) S := by
  intro j
  induction j with
  | zero =>
    intro S k hk hi hY h9 hA h
    have hl := hY
    unfold SY at hl
    unfold VX7_putAway_2
    simp only [hl, sI_K, sI_N, sI_R, sI_J, sJ_K, sJ_N, sJ_R, sJ_I, sR_K, sR_N, sR_I, sR_J, Option.some.injEq, exists_eq_left', true_and, and_true, and_self_left, Int.toNat_natCast, Int.toNat_zero, Int.reduceToNat, Int.reduceLT, Int.reduceLE, Nat.reduceLeDiff, Nat.reduceLT, Int.cast_ofNat_Int, forall_eq, ge_iff_le, Int.reduceNeg, Int.reduceAdd, Int.reduceSub, Int.reduceMul, Int.reduceEq, r32_0, r32_1, r32_m1, b01_0, b01_1, not_true_eq_false, not_false_eq_true, false_implies, true_implies, implies_true, forall_const]
    rw [h9]
    rw [show k = N - 1 by omega] at hA
    exact ⟨⟨(by unfold R32; omega), (by unfold R32; omega)⟩, fun _ => h S Fi.rf hA, fun c => by omega⟩
  | succ j ih =>
    intro S k hk hi hY h9 hA h
    have hl := hY
    unfold SY at hl
    unfold VX7_putAway_2
    rw [show (k : Int) + 1 = ((k + 1 : Nat) : Int) by omega]
    simp only [hl, sI_K, sI_N, sI_R, sI_J, sJ_K, sJ_N, sJ_R, sJ_I, sR_K, sR_N, sR_I, sR_J, Option.some.injEq, exists_eq_left', true_and, and_true, and_self_left, Int.toNat_natCast, Int.toNat_zero, Int.reduceToNat, Int.reduceLT, Int.reduceLE, Nat.reduceLeDiff, Nat.reduceLT, Int.cast_ofNat_Int, forall_eq, ge_iff_le, Int.reduceNeg, Int.reduceAdd, Int.reduceSub, Int.reduceMul, Int.reduceEq, r32_0, r32_1, r32_m1, b01_0, b01_1, not_true_eq_false, not_false_eq_true, false_implies, true_implies, implies_true, forall_const]
    rw [h9]
    have F : Fi (s+5) (s+8) S (((S.setI (s+5) k (S.I (s+5) (k + 1))).setI (s+6) k (S.I (s+6) (k + 1))).setI (s+7) k (S.I (s+7) (k + 1))) := ((Fi.sI (by omega)).tr (Fi.sI (by omega))).tr (Fi.sI (by omega))
    have a1 := hA (k + 1) (by omega)
    refine ⟨⟨(by unfold R32; omega), (by unfold R32; omega)⟩, fun c => by omega, fun _ => ⟨by omega, by omega, ?_⟩⟩
    have e1 : (S.setI (s+5) k (S.I (s+5) (k + 1))).I (s+6) (k + 1) = S.I (s+6) (k + 1) := by rw [sI_Ia (by omega)]
    have e2 : ((S.setI (s+5) k (S.I (s+5) (k + 1))).setI (s+6) k (S.I (s+6) (k + 1))).I (s+7) (k + 1) = S.I (s+7) (k + 1) := by rw [sI_Ia (by omega), sI_Ia (by omega)]
    rw [e1, e2]
    refine ⟨by omega, by omega, by omega, by omega, ih (k := k + 1) (by omega) (by omega) (F.sy hY) (by rw [F.I (by omega)]; exact h9) (fun q hq => ?_) (fun S' f => h S' (F.tr f))⟩
    have aq := hA q hq
    have n5 : s + 5 ≠ s + 6 := by omega
    have n6 : s + 5 ≠ s + 7 := by omega
    have n7 : s + 6 ≠ s + 5 := by omega
    have n8 : s + 6 ≠ s + 7 := by omega
    have n9 : s + 7 ≠ s + 5 := by omega
    have n0 : s + 7 ≠ s + 6 := by omega
    rw [← sh_s hi, ← sh_s hi, ← sh_s hi, ← a1.1, ← a1.2.1, ← a1.2.2, ← aq.1, ← aq.2.1, ← aq.2.2]
    simp only [sI_I, n5, n6, n7, n8, n9, n0, true_and, false_and, if_false, and_self]
theorem k_putAway {d s n i : Nat} {w : Nat → Int} {S : MS} {Q : Out → MS → Prop} {x : Int} (hd : 1 ≤ d) (hS : SS S s n w) (hx : x = (i : Int)) (hi : i < nN w) (h : ∀ S', Fi s (s+8) S S' → SS S' s n (W_drop w i) → Q (.inl none) S') : Mw hX7_putAway yX7_putAway d [vA s, vI x] S Q := by
  subst hx
  obtain ⟨hY, ⟨⟨w0, w1, w2, w3⟩, wt, wk, wn⟩, hg⟩ := hS
  have g0 := hg.1
  have g1 := hg.2.1
  have g2 := hg.2.2.1
  have g3 := hg.2.2.2.1
  have hl := hY
  unfold SY at hl
  obtain ⟨dd, rfl⟩ : ∃ e, d = e + 1 := ⟨d - 1, by omega⟩
  refine MX7_putAway ?_
  unfold VX7_putAway_0
  obtain ⟨j, hj⟩ : ∃ j, i + 1 + j = nN w := ⟨nN w - (i + 1), by omega⟩
  refine ⟨_, kf_putAway (i := i) (g5 := S.I (s+5)) (g6 := S.I (s+6)) (g7 := S.I (s+7)) g2.2 j hj (Nat.le_refl _) hY (by rw [w2, g2.1]) (fun q _ => ?_) (fun S' f hA => ?_)⟩
  · unfold sh
    rw [if_neg (by omega), if_neg (by omega), if_neg (by omega)]
    exact ⟨rfl, rfl, rfl⟩
  · have F : Fi s (s+8) S (S'.setI s 9 ((nN w : Int) - 1)) := (f.wk (by omega) (by omega)).tr (Fi.sI (by omega))
    have es : sN (W_drop w i) = sN w := by unfold sN W_drop; simp (disch := omega) only [sI_I, cp_at, true_and, and_true, if_true, if_pos, if_neg]
    have en : nN (W_drop w i) = nN w - 1 := by
      unfold nN W_drop
      rw [if_pos rfl, g2.1]
      omega
    have fI := fun a (h : a < s + 5) => f.I (a := a) (Or.inl h)
    refine h _ F ⟨F.sy hY, ⟨⟨?_, ?_, ?_, ?_⟩, fun t ht => ?_, fun q hq => ?_, fun q hq => ?_⟩, hg.drop hi⟩
    · rw [sI_I, if_neg (by omega), fI s (by omega), w0]; unfold W_drop; simp (disch := omega) only [sI_I, cp_at, true_and, and_true, if_true, if_pos, if_neg]
    · rw [sI_I, if_neg (by omega), fI s (by omega), w1]; unfold W_drop; simp (disch := omega) only [sI_I, cp_at, true_and, and_true, if_true, if_pos, if_neg]
    · rw [sI_I, if_pos ⟨rfl, rfl⟩]; unfold W_drop; rw [if_pos rfl, g2.1]
    · rw [sI_I, if_neg (by omega), fI s (by omega), w3]; unfold W_drop; simp (disch := omega) only [sI_I, cp_at, true_and, and_true, if_true, if_pos, if_neg]
    · rw [sI_Ia (by omega), fI _ (by omega), wt t ht]; unfold W_drop; simp (disch := omega) only [sI_I, cp_at, true_and, and_true, if_true, if_pos, if_neg]
    · rw [es] at hq
      have := wk q hq
      rw [sI_Ia (by omega), sI_Ia (by omega), sI_Ia (by omega), fI _ (by omega), fI _ (by omega), fI _ (by omega), this.1, this.2.1, this.2.2]
      unfold W_drop
      refine ⟨?_, ?_, ?_⟩ <;> simp (disch := omega) only [sI_I, cp_at, true_and, and_true, if_true, if_pos, if_neg]
    · rw [en] at hq
      have a1 := hA q (by omega)
      rw [sI_Ia (by omega), sI_Ia (by omega), sI_Ia (by omega), a1.1, a1.2.1, a1.2.2]
      unfold sh W_drop
      by_cases c : i ≤ q
      · have := wn (q + 1) (by omega)
        simp (disch := omega) only [if_pos, if_neg]
        rw [this.1, this.2.1, this.2.2]
        exact ⟨congrArg w (by omega), congrArg w (by omega), congrArg w (by omega)⟩
      · have := wn q (by omega)
        simp (disch := omega) only [if_pos, if_neg]
        exact this
/-! the true row -/
theorem rowP_pck (n r : Nat) (h8 : n ≤ 8) : rowP n r = pck (rat n r) n := by
  have : ∃ f : Nat → Nat, (∀ p, p < n → f p < 8) ∧ rowP n r = pck f n := by
    cases r with
    | zero => exact ⟨id, fun p hp => by show p < 8; omega, rfl⟩
    | succ r =>
      rcases Nat.eq_zero_or_pos n with h | h
      · subst h; exact ⟨id, fun p hp => absurd hp (Nat.not_lt_zero p), rfl⟩
      · exact ⟨nxt n (dig (rowP n r)), nxt_lt h (fun p _ => Nat.mod_lt _ (by decide)), rfl⟩
  obtain ⟨f, hf, e⟩ := this
  rw [e]
  refine pck_cong (fun p hp => ?_)
  unfold rat
  rw [e, dig_pck hf p hp]
theorem abv_all {w : Nat → Int} {n t : Nat} (h7 : n ≤ 7) (ht : t < n) : abv w n (2 ^ n - 1) t + rkW w n t + 1 = n := by
  have hx : 2 ^ n - 1 < 2 ^ n := by have := Nat.two_pow_pos n; omega
  have hb : ∀ u, u < n → (2 ^ n - 1).testBit u = true := fun u hu => by rw [Nat.testBit_two_pow_sub_one, decide_eq_true hu]
  have a := abv_sum (w := w) h7 hx ht (hb t ht)
  have e : owC w n (2 ^ n - 1) t = rkW w n t := by
    unfold owC rkW
    refine cntB_cong (fun u hu => ?_)
    by_cases g : ow w t u
    · rw [dc_y g, dc_y ⟨fun e => ow_irr (by rw [e] at g; exact g), hb u hu, g⟩]
    · rw [dc_n g, dc_n (fun k => g k.2.2)]
  rw [e, pc_n h7 hx, cntB_cong (q := fun _ => true) (fun u hu => hb u hu), cntB_allT] at a
  exact a
noncomputable def twF (w : Nat → Int) (n u p : Nat) : Nat := if rat n (rW w n) p < u then rat n (rW w n) p else 0
theorem kf_trueRow {d s n : Nat} {w : Nat → Int} {S : MS} {Q : Out → MS → Prop} (hd : 2 ≤ d) (hS : SS S s n w) (h : Q (.inl (some (vI (rowP n (rW w n) : Nat)))) S) : ∀ (j : Nat) {u : Nat}, u + j = n → VX7_trueRow_13 d Q (j + 1) s ((2 ^ n - 1 : Nat) : Int) (pck (twF w n u) n : Nat) (u : Nat) S := by
  have hS' := hS
  obtain ⟨hY, ⟨⟨w0, w1, w2, w3⟩, wt, wk, wn⟩, hg⟩ := hS
  have g0 := hg.1
  have g1 := hg.2.1
  have g2 := hg.2.2.1
  have g3 := hg.2.2.2.1
  have hl := hY
  unfold SY at hl
  have p7 := p2_7 g0.2.1
  have hr := rW_lt (w := w) g0.1 g0.2.1
  intro j
  induction j with
  | zero =>
    intro u hu
    unfold VX7_trueRow_13
    simp only [hl, sI_K, sI_N, sI_R, sI_J, sJ_K, sJ_N, sJ_R, sJ_I, sR_K, sR_N, sR_I, sR_J, Option.some.injEq, exists_eq_left', true_and, and_true, and_self_left, Int.toNat_natCast, Int.toNat_zero, Int.reduceToNat, Int.reduceLT, Int.reduceLE, Nat.reduceLeDiff, Nat.reduceLT, Int.cast_ofNat_Int, forall_eq, ge_iff_le, Int.reduceNeg, Int.reduceAdd, Int.reduceSub, Int.reduceMul, Int.reduceEq, r32_0, r32_1, r32_m1, b01_0, b01_1, not_true_eq_false, not_false_eq_true, false_implies, true_implies, implies_true, forall_const]
    rw [w0, g0.2.2, show u = n by omega]
    rw [rowP_pck n _ (by omega), ← pck_cong (f := twF w n n) (fun p hp => by unfold twF; rw [if_pos (rat_lt g0.1 g0.2.1 hr hp)])] at h
    exact ⟨⟨(by unfold R32; omega), (by unfold R32; omega)⟩, fun _ => h, fun c => by omega⟩
  | succ j ih =>
    intro u hu
    unfold VX7_trueRow_13
    simp only [hl, sI_K, sI_N, sI_R, sI_J, sJ_K, sJ_N, sJ_R, sJ_I, sR_K, sR_N, sR_I, sR_J, Option.some.injEq, exists_eq_left', true_and, and_true, and_self_left, Int.toNat_natCast, Int.toNat_zero, Int.reduceToNat, Int.reduceLT, Int.reduceLE, Nat.reduceLeDiff, Nat.reduceLT, Int.cast_ofNat_Int, forall_eq, ge_iff_le, Int.reduceNeg, Int.reduceAdd, Int.reduceSub, Int.reduceMul, Int.reduceEq, r32_0, r32_1, r32_m1, b01_0, b01_1, not_true_eq_false, not_false_eq_true, false_implies, true_implies, implies_true, forall_const]
    rw [w0, g0.2.2]
    have a := abv_all (w := w) (n := n) (t := u) g0.2.1 (by omega)
    have pl := rW_plc (w := w) (t := u) g0.1 g0.2.1 (by omega)
    have rp := rat_plc (t := u) g0.1 g0.2.1 hr (by omega)
    rw [pl] at rp
    refine ⟨⟨(by unfold R32; omega), (by unfold R32; omega)⟩, fun c => by omega, fun _ => k_heavierIn (d := d) hd hS' rfl rfl (by omega) (by omega) (oI_i ?_)⟩
    rw [show (n : Int) - 1 - (abv w n (2 ^ n - 1) u : Nat) = (rkW w n u : Nat) by omega]
    have t8 : ∀ p, p < n → twF w n u p < 8 := fun p hp => by
      have := rat_lt g0.1 g0.2.1 hr hp
      unfold twF; split <;> omega
    rw [pck_put g0.2.1 t8 (by omega) (by omega) (by unfold twF; rw [rp, if_neg (by omega)])]
    have := ih (u := u + 1) (by omega)
    rw [pck_cong (g := fun p => if p = rkW w n u then u else twF w n u p) (fun p hp => ?_)] at this
    · exact this
    · unfold twF
      by_cases c : p = rkW w n u
      · rw [if_pos c, c, rp, if_pos (by omega)]
      · rw [if_neg c]
        have ne : rat n (rW w n) p ≠ u := fun e => c (rat_inj g0.1 g0.2.1 hr hp (by omega) (by rw [e, rp]))
        by_cases g : rat n (rW w n) p < u
        · rw [if_pos g, if_pos (by omega)]
        · rw [if_neg g, if_neg (by omega)]
theorem k_trueRow {d s n : Nat} {w : Nat → Int} {S : MS} {Q : Out → MS → Prop} (hd : 3 ≤ d) (hS : SS S s n w) (h : Q (.inl (some (vI (rowP n (rW w n) : Nat)))) S) : Mw hX7_trueRow yX7_trueRow d [vA s] S Q := by
  have hS' := hS
  obtain ⟨hY, ⟨⟨w0, w1, w2, w3⟩, wt, wk, wn⟩, hg⟩ := hS
  have g0 := hg.1
  have g1 := hg.2.1
  have g2 := hg.2.2.1
  have g3 := hg.2.2.2.1
  have hl := hY
  unfold SY at hl
  have p7 := p2_7 g0.2.1
  have p0 := Nat.two_pow_pos n
  obtain ⟨dd, rfl⟩ : ∃ e, d = e + 1 := ⟨d - 1, by omega⟩
  refine MX7_trueRow ?_
  unfold VX7_trueRow_0
  simp only [hl, sI_K, sI_N, sI_R, sI_J, sJ_K, sJ_N, sJ_R, sJ_I, sR_K, sR_N, sR_I, sR_J, Option.some.injEq, exists_eq_left', true_and, and_true, and_self_left, Int.toNat_natCast, Int.toNat_zero, Int.reduceToNat, Int.reduceLT, Int.reduceLE, Nat.reduceLeDiff, Nat.reduceLT, Int.cast_ofNat_Int, forall_eq, ge_iff_le, Int.reduceNeg, Int.reduceAdd, Int.reduceSub, Int.reduceMul, Int.reduceEq, r32_0, r32_1, r32_m1, b01_0, b01_1, not_true_eq_false, not_false_eq_true, false_implies, true_implies, implies_true, forall_const]
  rw [w0, g0.2.2, i1_shl (by omega), show ((2 ^ n : Nat) : Int) - 1 = ((2 ^ n - 1 : Nat) : Int) by omega]
  have := kf_trueRow (d := dd) (by omega) hS' h n (u := 0) (by omega)
  rw [pck_cong (g := fun _ => 0) (fun p _ => by unfold twF; rw [if_neg (by omega)]), pck_0] at this
  exact ⟨_, this⟩
/-! notes counted -/
theorem kf_spentCoin {d s n : Nat} {w : Nat → Int} {S : MS} {Q : Out → MS → Prop} (hS : SS S s n w) (h : Q (.inl (some (vI (coin n w : Nat)))) S) : ∀ (j : Nat) {i : Nat}, i + j = nN w → VX7_spentCoin_4 d Q (j + 1) s (smB (fun i => prc w (nS w i)) i : Nat) (i : Nat) S := by
  obtain ⟨hY, ⟨⟨w0, w1, w2, w3⟩, wt, wk, wn⟩, hg⟩ := hS
  have g0 := hg.1
  have g1 := hg.2.1
  have g2 := hg.2.2.1
  have g3 := hg.2.2.2.1
  have hl := hY
  unfold SY at hl
  intro j
  induction j with
  | zero =>
    intro i hi
    unfold VX7_spentCoin_4
    simp only [hl, sI_K, sI_N, sI_R, sI_J, sJ_K, sJ_N, sJ_R, sJ_I, sR_K, sR_N, sR_I, sR_J, Option.some.injEq, exists_eq_left', true_and, and_true, and_self_left, Int.toNat_natCast, Int.toNat_zero, Int.reduceToNat, Int.reduceLT, Int.reduceLE, Nat.reduceLeDiff, Nat.reduceLT, Int.cast_ofNat_Int, forall_eq, ge_iff_le, Int.reduceNeg, Int.reduceAdd, Int.reduceSub, Int.reduceMul, Int.reduceEq, r32_0, r32_1, r32_m1, b01_0, b01_1, not_true_eq_false, not_false_eq_true, false_implies, true_implies, implies_true, forall_const]
    rw [w2, g2.1, show i = nN w by omega]
    exact ⟨⟨(by unfold R32; omega), (by unfold R32; omega)⟩, fun _ => h, fun c => by omega⟩
  | succ j ih =>
    intro i hi
    have hi' : i < nN w := by omega
    have n1 := (hg.nt hi').1
    have k1 := (hg.sc n1.2).2.1
    unfold VX7_spentCoin_4
    simp only [hl, sI_K, sI_N, sI_R, sI_J, sJ_K, sJ_N, sJ_R, sJ_I, sR_K, sR_N, sR_I, sR_J, Option.some.injEq, exists_eq_left', true_and, and_true, and_self_left, Int.toNat_natCast, Int.toNat_zero, Int.reduceToNat, Int.reduceLT, Int.reduceLE, Nat.reduceLeDiff, Nat.reduceLT, Int.cast_ofNat_Int, forall_eq, ge_iff_le, Int.reduceNeg, Int.reduceAdd, Int.reduceSub, Int.reduceMul, Int.reduceEq, r32_0, r32_1, r32_m1, b01_0, b01_1, not_true_eq_false, not_false_eq_true, false_implies, true_implies, implies_true, forall_const]
    rw [w2, g2.1, (wn i hi').1, n1.1, Int.toNat_natCast, (wk _ n1.2).2.1, k1.1]
    exact ⟨⟨(by unfold R32; omega), (by unfold R32; omega)⟩, fun c => by omega, fun _ => ⟨by omega, by omega, ih (i := i + 1) (by omega)⟩⟩
theorem k_spentCoin {d s n : Nat} {w : Nat → Int} {S : MS} {Q : Out → MS → Prop} (hd : 1 ≤ d) (hS : SS S s n w) (h : Q (.inl (some (vI (coin n w : Nat)))) S) : Mw hX7_spentCoin yX7_spentCoin d [vA s] S Q := by
  obtain ⟨dd, rfl⟩ : ∃ e, d = e + 1 := ⟨d - 1, by omega⟩
  refine MX7_spentCoin ?_
  unfold VX7_spentCoin_0
  exact ⟨_, kf_spentCoin hS h (nN w) (i := 0) (by omega)⟩
theorem kf_falseNotes {d s n : Nat} {w : Nat → Int} {S : MS} {Q : Out → MS → Prop} (hd : 3 ≤ d) (hS : SS S s n w) (h : Q (.inl (some (vI (fnC n w : Nat)))) S) : ∀ (j : Nat) {i : Nat}, i + j = nN w → VX7_falseNotes_4 d Q (j + 1) s (cntB (fun i => !(fitN n w (rW w n) i)) i : Nat) (i : Nat) S := by
  have hS' := hS
  obtain ⟨hY, ⟨⟨w0, w1, w2, w3⟩, wt, wk, wn⟩, hg⟩ := hS
  have g0 := hg.1
  have g1 := hg.2.1
  have g2 := hg.2.2.1
  have g3 := hg.2.2.2.1
  have hl := hY
  unfold SY at hl
  have hr := rW_lt (w := w) g0.1 g0.2.1
  intro j
  induction j with
  | zero =>
    intro i hi
    unfold VX7_falseNotes_4
    simp only [hl, sI_K, sI_N, sI_R, sI_J, sJ_K, sJ_N, sJ_R, sJ_I, sR_K, sR_N, sR_I, sR_J, Option.some.injEq, exists_eq_left', true_and, and_true, and_self_left, Int.toNat_natCast, Int.toNat_zero, Int.reduceToNat, Int.reduceLT, Int.reduceLE, Nat.reduceLeDiff, Nat.reduceLT, Int.cast_ofNat_Int, forall_eq, ge_iff_le, Int.reduceNeg, Int.reduceAdd, Int.reduceSub, Int.reduceMul, Int.reduceEq, r32_0, r32_1, r32_m1, b01_0, b01_1, not_true_eq_false, not_false_eq_true, false_implies, true_implies, implies_true, forall_const]
    rw [w2, g2.1, show i = nN w by omega]
    exact ⟨⟨(by unfold R32; omega), (by unfold R32; omega)⟩, fun _ => h, fun c => by omega⟩
  | succ j ih =>
    intro i hi
    have hi' : i < nN w := by omega
    obtain ⟨n1, n2, n3⟩ := hg.nt hi'
    have k1 := (hg.sc n1.2).1
    have r := rs_N (kn := kd w (nS w i)) g0.1 g0.2.1 hr n2.2.1 (by rw [n2.2.2]; exact belK_pans k1.2)
    have ih' := ih (i := i + 1) (by omega)
    have e : cntB (fun i => !(fitN n w (rW w n) i)) (i + 1) = cntB (fun i => !(fitN n w (rW w n) i)) i + (if (!(fitN n w (rW w n) i)) = true then 1 else 0) := rfl
    have fe : fitN n w (rW w n) i = decide (rsN n (kd w (nS w i)) (nX w i) (rW w n) = nT w i) := by
      unfold fitN
      rw [r.1]
      exact decide_eq_decide.mpr (by omega)
    unfold VX7_falseNotes_4 VX7_falseNotes_42
    simp only [hl, sI_K, sI_N, sI_R, sI_J, sJ_K, sJ_N, sJ_R, sJ_I, sR_K, sR_N, sR_I, sR_J, Option.some.injEq, exists_eq_left', true_and, and_true, and_self_left, Int.toNat_natCast, Int.toNat_zero, Int.reduceToNat, Int.reduceLT, Int.reduceLE, Nat.reduceLeDiff, Nat.reduceLT, Int.cast_ofNat_Int, forall_eq, ge_iff_le, Int.reduceNeg, Int.reduceAdd, Int.reduceSub, Int.reduceMul, Int.reduceEq, r32_0, r32_1, r32_m1, b01_0, b01_1, not_true_eq_false, not_false_eq_true, false_implies, true_implies, implies_true, forall_const]
    rw [w2, g2.1]
    refine ⟨⟨(by unfold R32; omega), (by unfold R32; omega)⟩, fun c => by omega, fun _ => k_kindOf (by omega) hS' rfl hi' (oI_i ?_)⟩
    simp only [hl, sI_K, sI_N, sI_R, sI_J, sJ_K, sJ_N, sJ_R, sJ_I, sR_K, sR_N, sR_I, sR_J, Option.some.injEq, exists_eq_left', true_and, and_true, and_self_left, Int.toNat_natCast, Int.toNat_zero, Int.reduceToNat, Int.reduceLT, Int.reduceLE, Nat.reduceLeDiff, Nat.reduceLT, Int.cast_ofNat_Int, forall_eq, ge_iff_le, Int.reduceNeg, Int.reduceAdd, Int.reduceSub, Int.reduceMul, Int.reduceEq, r32_0, r32_1, r32_m1, b01_0, b01_1, not_true_eq_false, not_false_eq_true, false_implies, true_implies, implies_true, forall_const]
    rw [(wn i hi').2.1, n2.1]
    refine ⟨by omega, k_riser hd hS' rfl rfl k1.2 n2.2.1 n2.2.2 (oI_i ?_)⟩
    simp only [hl, sI_K, sI_N, sI_R, sI_J, sJ_K, sJ_N, sJ_R, sJ_I, sR_K, sR_N, sR_I, sR_J, Option.some.injEq, exists_eq_left', true_and, and_true, and_self_left, Int.toNat_natCast, Int.toNat_zero, Int.reduceToNat, Int.reduceLT, Int.reduceLE, Nat.reduceLeDiff, Nat.reduceLT, Int.cast_ofNat_Int, forall_eq, ge_iff_le, Int.reduceNeg, Int.reduceAdd, Int.reduceSub, Int.reduceMul, Int.reduceEq, r32_0, r32_1, r32_m1, b01_0, b01_1, not_true_eq_false, not_false_eq_true, false_implies, true_implies, implies_true, forall_const]
    rw [(wn i hi').2.2, n3.1]
    refine ⟨by omega, ⟨(by unfold R32; omega), (by unfold R32; omega)⟩, fun c => ?_, fun c => ?_⟩
    · rw [fe, decide_eq_true (by omega), if_neg (by decide), Nat.add_zero] at e
      rw [e] at ih'
      rw [Int.add_zero]
      exact ih'
    · rw [fe, decide_eq_false (by omega), if_pos (by decide)] at e
      rw [e] at ih'
      exact ih'
theorem k_falseNotes {d s n : Nat} {w : Nat → Int} {S : MS} {Q : Out → MS → Prop} (hd : 4 ≤ d) (hS : SS S s n w) (h : Q (.inl (some (vI (fnC n w : Nat)))) S) : Mw hX7_falseNotes yX7_falseNotes d [vA s] S Q := by
  obtain ⟨dd, rfl⟩ : ∃ e, d = e + 1 := ⟨d - 1, by omega⟩
  refine MX7_falseNotes ?_
  unfold VX7_falseNotes_0
  exact ⟨_, kf_falseNotes (by omega) hS h (nN w) (i := 0) (by omega)⟩
theorem kf_timesRisen {d s n x t : Nat} {w : Nat → Int} {S : MS} {Q : Out → MS → Prop} (hd : 1 ≤ d) (hS : SS S s n w) (hx : x < 2147483648) (ht : t < 2147483648) (h : Q (.inl (some (vI (vtC w x t : Nat)))) S) : ∀ (j : Nat) {i : Nat}, i + j = nN w → VX7_timesRisen_5 d Q (j + 1) s (x : Nat) (t : Nat) (cntB (vtB w x t) i : Nat) (i : Nat) S := by
  have hS' := hS
  obtain ⟨hY, ⟨⟨w0, w1, w2, w3⟩, wt, wk, wn⟩, hg⟩ := hS
  have g0 := hg.1
  have g1 := hg.2.1
  have g2 := hg.2.2.1
  have g3 := hg.2.2.2.1
  have hl := hY
  unfold SY at hl
  have p7 := p2_7 g0.2.1
  intro j
  induction j with
  | zero =>
    intro i hi
    unfold VX7_timesRisen_5
    simp only [hl, sI_K, sI_N, sI_R, sI_J, sJ_K, sJ_N, sJ_R, sJ_I, sR_K, sR_N, sR_I, sR_J, Option.some.injEq, exists_eq_left', true_and, and_true, and_self_left, Int.toNat_natCast, Int.toNat_zero, Int.reduceToNat, Int.reduceLT, Int.reduceLE, Nat.reduceLeDiff, Nat.reduceLT, Int.cast_ofNat_Int, forall_eq, ge_iff_le, Int.reduceNeg, Int.reduceAdd, Int.reduceSub, Int.reduceMul, Int.reduceEq, r32_0, r32_1, r32_m1, b01_0, b01_1, not_true_eq_false, not_false_eq_true, false_implies, true_implies, implies_true, forall_const]
    rw [w2, g2.1, show i = nN w by omega]
    exact ⟨⟨(by unfold R32; omega), (by unfold R32; omega)⟩, fun _ => h, fun c => by omega⟩
  | succ j ih =>
    intro i hi
    have hi' : i < nN w := by omega
    obtain ⟨n1, n2, n3⟩ := hg.nt hi'
    have k1 := (hg.sc n1.2).1
    have ih' := ih (i := i + 1) (by omega)
    have e : cntB (vtB w x t) (i + 1) = cntB (vtB w x t) i + (if vtB w x t i = true then 1 else 0) := rfl
    have no : vtB w x t i = false → VX7_timesRisen_5 d Q (j + 1) s (x : Nat) (t : Nat) ((cntB (vtB w x t) i : Nat) + (0 : Int)) ((i : Int) + 1) S := by
      intro f
      rw [f, if_neg (by decide), Nat.add_zero] at e
      rw [e] at ih'
      rw [Int.add_zero]
      exact ih'
    unfold VX7_timesRisen_5 VX7_timesRisen_49 VX7_timesRisen_50 VX7_timesRisen_63
    simp only [hl, sI_K, sI_N, sI_R, sI_J, sJ_K, sJ_N, sJ_R, sJ_I, sR_K, sR_N, sR_I, sR_J, Option.some.injEq, exists_eq_left', true_and, and_true, and_self_left, Int.toNat_natCast, Int.toNat_zero, Int.reduceToNat, Int.reduceLT, Int.reduceLE, Nat.reduceLeDiff, Nat.reduceLT, Int.cast_ofNat_Int, forall_eq, ge_iff_le, Int.reduceNeg, Int.reduceAdd, Int.reduceSub, Int.reduceMul, Int.reduceEq, r32_0, r32_1, r32_m1, b01_0, b01_1, not_true_eq_false, not_false_eq_true, false_implies, true_implies, implies_true, forall_const]
    rw [w2, g2.1]
    refine ⟨⟨(by unfold R32; omega), (by unfold R32; omega)⟩, fun c => by omega, fun _ => k_kindOf (by omega) hS' rfl hi' (oI_i ⟨(by unfold R32; omega), fun c => ?_, fun c => ?_⟩)⟩
    · exact no (by unfold vtB; rw [decide_eq_false (by omega)]; rfl)
    · simp only [hl, sI_K, sI_N, sI_R, sI_J, sJ_K, sJ_N, sJ_R, sJ_I, sR_K, sR_N, sR_I, sR_J, Option.some.injEq, exists_eq_left', true_and, and_true, and_self_left, Int.toNat_natCast, Int.toNat_zero, Int.reduceToNat, Int.reduceLT, Int.reduceLE, Nat.reduceLeDiff, Nat.reduceLT, Int.cast_ofNat_Int, forall_eq, ge_iff_le, Int.reduceNeg, Int.reduceAdd, Int.reduceSub, Int.reduceMul, Int.reduceEq, r32_0, r32_1, r32_m1, b01_0, b01_1, not_true_eq_false, not_false_eq_true, false_implies, true_implies, implies_true, forall_const]
      rw [(wn i hi').2.1, n2.1, (wn i hi').2.2, n3.1]
      refine ⟨by omega, ⟨(by unfold R32; omega), (by unfold R32; omega)⟩, fun c2 => no (by unfold vtB; rw [decide_eq_false (p := nX w i = x) (by omega), Bool.false_and, Bool.and_false]), fun c2 => ⟨by omega, ⟨(by unfold R32; omega), (by unfold R32; omega)⟩, fun c3 => no (by unfold vtB; rw [decide_eq_false (p := nT w i = t) (by omega), Bool.and_false, Bool.and_false]), fun c3 => ?_⟩⟩
      have f : vtB w x t i = true := by
        unfold vtB
        rw [decide_eq_true (p := kd w (nS w i) = 0) (by omega), decide_eq_true (p := nX w i = x) (by omega), decide_eq_true (p := nT w i = t) (by omega)]
        rfl
      rw [f, if_pos rfl] at e
      rw [e] at ih'
      exact ih'
theorem k_timesRisen {d s n x t : Nat} {w : Nat → Int} {S : MS} {Q : Out → MS → Prop} {a b : Int} (hd : 2 ≤ d) (hS : SS S s n w) (ea : a = (x : Int)) (eb : b = (t : Int)) (hx : x < 2147483648) (ht : t < 2147483648) (h : Q (.inl (some (vI (vtC w x t : Nat)))) S) : Mw hX7_timesRisen yX7_timesRisen d [vA s, vI a, vI b] S Q := by
  subst ea eb
  obtain ⟨dd, rfl⟩ : ∃ e, d = e + 1 := ⟨d - 1, by omega⟩
  refine MX7_timesRisen ?_
  unfold VX7_timesRisen_0
  exact ⟨_, kf_timesRisen (by omega) hS hx ht h (nN w) (i := 0) (by omega)⟩
theorem kf_isNoted {d s n x : Nat} {w : Nat → Int} {S : MS} {Q : Out → MS → Prop} (hd : 1 ≤ d) (hS : SS S s n w) (hx : x < 2147483648) (h : ∀ q, BI q (allB (suN w x) (nN w) = false) → Q (.inl (some (vI q))) S) : ∀ (j : Nat) {i : Nat} {q : Int}, i + j = nN w → BI q (allB (suN w x) i = false) → VX7_isNoted_4 d Q (j + 1) s (x : Nat) q (i : Nat) S := by
  have hS' := hS
  obtain ⟨hY, ⟨⟨w0, w1, w2, w3⟩, wt, wk, wn⟩, hg⟩ := hS
  have g0 := hg.1
  have g1 := hg.2.1
  have g2 := hg.2.2.1
  have g3 := hg.2.2.2.1
  have hl := hY
  unfold SY at hl
  have p7 := p2_7 g0.2.1
  intro j
  induction j with
  | zero =>
    intro i q hi hq
    unfold VX7_isNoted_4
    simp only [hl, sI_K, sI_N, sI_R, sI_J, sJ_K, sJ_N, sJ_R, sJ_I, sR_K, sR_N, sR_I, sR_J, Option.some.injEq, exists_eq_left', true_and, and_true, and_self_left, Int.toNat_natCast, Int.toNat_zero, Int.reduceToNat, Int.reduceLT, Int.reduceLE, Nat.reduceLeDiff, Nat.reduceLT, Int.cast_ofNat_Int, forall_eq, ge_iff_le, Int.reduceNeg, Int.reduceAdd, Int.reduceSub, Int.reduceMul, Int.reduceEq, r32_0, r32_1, r32_m1, b01_0, b01_1, not_true_eq_false, not_false_eq_true, false_implies, true_implies, implies_true, forall_const]
    rw [w2, g2.1]
    rw [show i = nN w by omega] at hq ⊢
    exact ⟨⟨(by unfold R32; omega), (by unfold R32; omega)⟩, fun _ => ⟨hq.b, h q hq⟩, fun c => by omega⟩
  | succ j ih =>
    intro i q hi hq
    have hi' : i < nN w := by omega
    obtain ⟨n1, n2, n3⟩ := hg.nt hi'
    have k1 := (hg.sc n1.2).1
    have e : allB (suN w x) (i + 1) = (suN w x i && allB (suN w x) i) := rfl
    have ih' := fun q => ih (i := i + 1) (q := q) (by omega)
    rw [e] at ih'
    unfold VX7_isNoted_4 VX7_isNoted_34 VX7_isNoted_38 VX7_isNoted_39
    simp only [hl, sI_K, sI_N, sI_R, sI_J, sJ_K, sJ_N, sJ_R, sJ_I, sR_K, sR_N, sR_I, sR_J, Option.some.injEq, exists_eq_left', true_and, and_true, and_self_left, Int.toNat_natCast, Int.toNat_zero, Int.reduceToNat, Int.reduceLT, Int.reduceLE, Nat.reduceLeDiff, Nat.reduceLT, Int.cast_ofNat_Int, forall_eq, ge_iff_le, Int.reduceNeg, Int.reduceAdd, Int.reduceSub, Int.reduceMul, Int.reduceEq, r32_0, r32_1, r32_m1, b01_0, b01_1, not_true_eq_false, not_false_eq_true, false_implies, true_implies, implies_true, forall_const]
    rw [w2, g2.1]
    refine ⟨⟨(by unfold R32; omega), (by unfold R32; omega)⟩, fun c => by omega, fun _ => ⟨hq.r, fun c => ih' 1 (.y ?_), fun c => k_kindOf (by omega) hS' rfl hi' (oI_i ⟨(by unfold R32; omega), fun c2 => ih' 0 (.n ?_), fun c2 => ?_⟩)⟩⟩
    · rcases hq with ⟨-, k⟩ | ⟨rfl, -⟩
      · rw [k, Bool.and_false]
      · exact absurd rfl c
    · have k : ¬ allB (suN w x) i = false := by
        rcases hq with ⟨rfl, -⟩ | ⟨-, k⟩
        · exact absurd c (by decide)
        · exact k
      unfold suN at k ⊢
      rw [decide_eq_true (p := kd w (nS w i) ≠ 0) (by omega)]
      exact k
    · have k : ¬ allB (suN w x) i = false := by
        rcases hq with ⟨rfl, -⟩ | ⟨-, k⟩
        · exact absurd c (by decide)
        · exact k
      simp only [hl, sI_K, sI_N, sI_R, sI_J, sJ_K, sJ_N, sJ_R, sJ_I, sR_K, sR_N, sR_I, sR_J, Option.some.injEq, exists_eq_left', true_and, and_true, and_self_left, Int.toNat_natCast, Int.toNat_zero, Int.reduceToNat, Int.reduceLT, Int.reduceLE, Nat.reduceLeDiff, Nat.reduceLT, Int.cast_ofNat_Int, forall_eq, ge_iff_le, Int.reduceNeg, Int.reduceAdd, Int.reduceSub, Int.reduceMul, Int.reduceEq, r32_0, r32_1, r32_m1, b01_0, b01_1, not_true_eq_false, not_false_eq_true, false_implies, true_implies, implies_true, forall_const]
      rw [(wn i hi').2.1, n2.1]
      refine ⟨by omega, ⟨(by unfold R32; omega), (by unfold R32; omega)⟩, fun c3 => ih' 0 (.n ?_), fun c3 => ih' 1 (.y ?_)⟩
      · have f : suN w x i = true := by unfold suN; rw [decide_eq_true (p := nX w i ≠ x) (by omega), Bool.or_true]
        rw [f]
        exact k
      · have f : suN w x i = false := by
          unfold suN
          rw [decide_eq_false (p := nX w i ≠ x) (by omega), decide_eq_false (p := kd w (nS w i) ≠ 0) (by omega)]
          rfl
        rw [f]
        rfl
theorem k_isNoted {d s n x : Nat} {w : Nat → Int} {S : MS} {Q : Out → MS → Prop} {a : Int} (hd : 2 ≤ d) (hS : SS S s n w) (ea : a = (x : Int)) (hx : x < 2147483648) (h : ∀ q, BI q (allB (suN w x) (nN w) = false) → Q (.inl (some (vI q))) S) : Mw hX7_isNoted yX7_isNoted d [vA s, vI a] S Q := by
  subst ea
  obtain ⟨dd, rfl⟩ : ∃ e, d = e + 1 := ⟨d - 1, by omega⟩
  refine MX7_isNoted ?_
  unfold VX7_isNoted_0
  exact ⟨_, kf_isNoted (by omega) hS hx h (nN w) (i := 0) (by omega) (.n (fun k => Bool.noConfusion (show true = false from k)))⟩
