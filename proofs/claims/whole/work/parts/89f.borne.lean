/-! how many notes of a scale a row misses -/
def mC (n : Nat) (w : Nat → Int) (wo : Int) (s r : Nat) : Nat → Nat
  | 0 => 0
  | m + 1 => mC n w wo s r m + (if nS w m = s ∧ (m : Int) ≠ wo ∧ inR n (fun r => decide (rsN n (kd w (nS w m)) (nX w m) r = nT w m)) r = false then 1 else 0)
def mW (n : Nat) (w : Nat → Int) (wo : Int) (s m t : Nat) : Nat → Bool := fun r => decide (t ≤ mC n w wo s r m)
theorem mW_no {n : Nat} {w : Nat → Int} {wo : Int} {s m t v : Nat} (h : ¬ (nS w m = s ∧ (m : Int) ≠ wo)) : wdv (mW n w wo s (m + 1) t) v = wdv (mW n w wo s m t) v := by
  refine wdv_eq (fun b _ => ?_)
  unfold mW
  rw [show mC n w wo s (64 * v + b) (m + 1) = mC n w wo s (64 * v + b) m from by
    show _ + _ = _
    rw [if_neg (fun k => h ⟨k.1, k.2.1⟩), Nat.add_zero]]
theorem mW_yes {n : Nat} {w : Nat → Int} {wo : Int} {s m t v : Nat} (h1 : nS w m = s) (h2 : (m : Int) ≠ wo) : wdv (mW n w wo s m (t + 1)) v ||| (wdv (mW n w wo s m t) v &&& (wdv (inR n (fun r => decide (rsN n (kd w (nS w m)) (nX w m) r = nT w m))) v ^^^ 18446744073709551615#64)) = wdv (mW n w wo s (m + 1) (t + 1)) v := by
  rw [wdv_not, wdv_and, wdv_or]
  refine wdv_eq (fun b _ => ?_)
  unfold mW
  have e : mC n w wo s (64 * v + b) (m + 1) = mC n w wo s (64 * v + b) m + (if inR n (fun r => decide (rsN n (kd w (nS w m)) (nX w m) r = nT w m)) (64 * v + b) = false then 1 else 0) := by
    show _ + _ = _
    by_cases c : inR n (fun r => decide (rsN n (kd w (nS w m)) (nX w m) r = nT w m)) (64 * v + b) = false
    · rw [if_pos ⟨h1, h2, c⟩, if_pos c]
    · rw [if_neg (fun k => c k.2.2), if_neg c]
  rw [e]
  cases c : inR n (fun r => decide (rsN n (kd w (nS w m)) (nX w m) r = nT w m)) (64 * v + b)
  · rw [if_pos rfl, Bool.eq_iff_iff]
    simp
    omega
  · rw [if_neg (by decide), Bool.eq_iff_iff]
    simp
theorem mW_one {n : Nat} {w : Nat → Int} {wo : Int} {s m v : Nat} : wdv (mW n w wo s m 0) v = 18446744073709551615#64 := by
  have := wdv_not (fun _ => false) v
  rw [wdv_no] at this
  rw [wdv_eq (q := fun r => !((fun _ => false) r)) (w := v) (fun b _ => by unfold mW; simp), ← this]
  decide
theorem mW_yes1 {n : Nat} {w : Nat → Int} {wo : Int} {s m v : Nat} (h1 : nS w m = s) (h2 : (m : Int) ≠ wo) : wdv (mW n w wo s m 1) v ||| (wdv (inR n (fun r => decide (rsN n (kd w (nS w m)) (nX w m) r = nT w m))) v ^^^ 18446744073709551615#64) = wdv (mW n w wo s (m + 1) 1) v := by
  have := mW_yes (n := n) (t := 0) (v := v) h1 h2
  rw [mW_one, show (18446744073709551615#64) = BitVec.allOnes 64 by decide, BitVec.allOnes_and] at this
  exact this
theorem mW_end {n : Nat} {w : Nat → Int} {wo : Int} {s m t v : Nat} : wdv (mW n w wo s m (t + 1)) v ^^^ 18446744073709551615#64 = wdv (fun r => decide (mC n w wo s r m ≤ t)) v := by
  rw [wdv_not]
  refine wdv_eq (fun b _ => ?_)
  unfold mW
  rw [Bool.eq_iff_iff]
  simp
  omega
theorem kf_borne {d ft sr n lo hi s v : Nat} {w : Nat → Int} {wo : Int} {S : MS} {Q : Out → MS → Prop} (h3 : 3 ≤ n) (h7 : n ≤ 7) (hF : FT S ft) (hS : SS S sr n w) (hM : AM S ft n w lo hi (nN w)) (hs : s < sN w) (hv : v < Wn n) (hwo : R32 wo) (h : Q (.inl (some (vL (wdv (fun r => decide (mC n w wo s r (nN w) ≤ lie w s)) v)))) S) : ∀ (j : Nat) {i : Nat}, i + j = nN w → VX1_borne_15 d Q (j + 1) ft sr (s : Nat) wo (v : Nat) (wdv (mW n w wo s i 1) v) (wdv (mW n w wo s i 2) v) (wdv (mW n w wo s i 3) v) (wdv (mW n w wo s i 4) v) (i : Nat) S := by
  have hW := Wn_le h3 h7
  obtain ⟨hY, ⟨⟨w0, w1, w2, w3⟩, wt, wk, wn⟩, hg⟩ := hS
  have g0 := hg.1
  have g1 := hg.2.1
  have g2 := hg.2.2.1
  have g3 := hg.2.2.2.1
  have hl := hY
  unfold SY at hl
  have k1 := (hg.sc hs).2.2
  intro j
  induction j with
  | zero =>
    intro i hi
    unfold VX1_borne_15
    simp only [hl, sI_K, sI_N, sI_R, sI_J, sJ_K, sJ_N, sJ_R, sJ_I, sR_K, sR_N, sR_I, sR_J, Option.some.injEq, exists_eq_left', true_and, and_true, and_self_left, Int.toNat_natCast, Int.toNat_zero, Int.reduceToNat, Int.reduceLT, Int.reduceLE, Nat.reduceLeDiff, Nat.reduceLT, Int.cast_ofNat_Int, forall_eq, ge_iff_le, Int.reduceNeg, Int.reduceAdd, Int.reduceSub, Int.reduceMul, Int.reduceEq, r32_0, r32_1, r32_m1, b01_0, b01_1, not_true_eq_false, not_false_eq_true, false_implies, true_implies, implies_true, forall_const]
    rw [w2, g2.1, (wk s hs).2.2, k1.1, show i = nN w by omega, mW_end, mW_end, mW_end, mW_end]
    refine ⟨⟨(by unfold R32; omega), (by unfold R32; omega)⟩, fun _ => ⟨by omega, (by unfold R32; omega), fun c => ?_, fun c => ?_, fun c => ?_, fun c => ?_⟩, fun c => by omega⟩
    · rw [show lie w s = 0 by omega] at h; exact h
    · rw [show lie w s = 1 by omega] at h; exact h
    · rw [show lie w s = 2 by omega] at h; exact h
    · rw [show lie w s = 3 by omega] at h; exact h
  | succ j ih =>
    intro i hi
    have hi' : i < nN w := by omega
    obtain ⟨n1, n2, n3⟩ := hg.nt hi'
    have ih' := ih (i := i + 1) (by omega)
    obtain ⟨e, e1, e2, e3⟩ := hM i hi'
    have no : ¬ (nS w i = s ∧ (i : Int) ≠ wo) → VX1_borne_15 d Q (j + 1) ft sr (s : Nat) wo (v : Nat) (wdv (mW n w wo s i 1) v) (wdv (mW n w wo s i 2) v) (wdv (mW n w wo s i 3) v) (wdv (mW n w wo s i 4) v) ((i : Int) + 1) S := by
      intro z
      rw [mW_no z, mW_no z, mW_no z, mW_no z] at ih'
      exact ih'
    unfold VX1_borne_15 VX1_borne_107
    simp only [hl, sI_K, sI_N, sI_R, sI_J, sJ_K, sJ_N, sJ_R, sJ_I, sR_K, sR_N, sR_I, sR_J, Option.some.injEq, exists_eq_left', true_and, and_true, and_self_left, Int.toNat_natCast, Int.toNat_zero, Int.reduceToNat, Int.reduceLT, Int.reduceLE, Nat.reduceLeDiff, Nat.reduceLT, Int.cast_ofNat_Int, forall_eq, ge_iff_le, Int.reduceNeg, Int.reduceAdd, Int.reduceSub, Int.reduceMul, Int.reduceEq, r32_0, r32_1, r32_m1, b01_0, b01_1, not_true_eq_false, not_false_eq_true, false_implies, true_implies, implies_true, forall_const]
    rw [w2, g2.1, (wn i hi').1, n1.1]
    refine ⟨⟨(by unfold R32; omega), (by unfold R32; omega)⟩, fun c => by omega, fun _ => ⟨by omega, ⟨(by unfold R32; omega), (by unfold R32; omega)⟩, fun c => no (by omega), fun c => ⟨⟨(by unfold R32; omega), hwo⟩, fun c2 => no (by omega), fun c2 => ⟨hF.1, ft+1, hF.2.1, ⟨hF.2.2.1, by omega, by rw [hF.2.2.2]; omega⟩, e, e1, by rw [e3.1]; omega, ⟨(by unfold R32; omega), by rw [e3.2.1]; exact (by unfold R32; omega)⟩, fun c3 => absurd c3 (by rw [e3.2.1]; omega), fun _ => ⟨hF.1, ft+1, hF.2.1, ⟨hF.2.2.1, by omega, by rw [hF.2.2.2]; omega⟩, e, e1, ⟨e3.1, by omega, by rw [e3.2.1]; omega⟩, ?_⟩⟩⟩⟩⟩
    have q1 : nS w i = s := by omega
    rw [e3.2.2 v hv, mW_yes1 q1 c2, mW_yes q1 c2, mW_yes q1 c2, mW_yes q1 c2]
    exact ih'
theorem k_borne {d ft sr n lo hi s v : Nat} {w : Nat → Int} {wo x y : Int} {S : MS} {Q : Out → MS → Prop} (hd : 1 ≤ d) (h3 : 3 ≤ n) (h7 : n ≤ 7) (hF : FT S ft) (hS : SS S sr n w) (hM : AM S ft n w lo hi (nN w)) (hx : x = (s : Int)) (hy : y = (v : Int)) (hs : s < sN w) (hv : v < Wn n) (hwo : R32 wo) (h : Q (.inl (some (vL (wdv (fun r => decide (mC n w wo s r (nN w) ≤ lie w s)) v)))) S) : Mw hX1_borne yX1_borne d [vA ft, vA sr, vI x, vI wo, vI y] S Q := by
  subst hx hy
  obtain ⟨dd, rfl⟩ : ∃ e, d = e + 1 := ⟨d - 1, by omega⟩
  refine MX1_borne ?_
  unfold VX1_borne_0
  have := kf_borne (d := dd) h3 h7 hF hS hM hs hv hwo h (nN w) (i := 0) (by omega)
  have z : ∀ t, wdv (mW n w wo s 0 (t + 1)) v = 0#64 := fun t => by
    rw [← wdv_no v]
    refine wdv_eq (fun b _ => ?_)
    unfold mW
    rw [decide_eq_false]
    show ¬ t + 1 ≤ 0
    omega
  rw [z 0, z 1, z 2, z 3] at this
  exact ⟨_, this⟩
