/-! which rows fit: the class's fitting -/
def FT (S : MS) (ft : Nat) : Prop := S.K ft = 1 ∧ S.R ft 0 = some (ft+1) ∧ S.K (ft+1) = 20 ∧ S.N (ft+1) = 16
theorem k_hadRisen {d ft s b n lo hi li i t : Nat} {w : Nat → Int} {S : MS} {Q : Out → MS → Prop} {x z : Int} (hd : 4 ≤ d) (hF : FT S ft) (hS : SS S s n w) (hA : AR S b n lo hi li) (hx : x = (i : Int)) (hz : z = (t : Int)) (hi' : i < nN w) (ht : t < n) (hb : (nX w i).testBit t = true) (h : ∀ e, (lo ≤ e ∧ e < hi) → LA S e (Wn n) (inR n fun r => decide (rsN n (kd w (nS w i)) (nX w i) r = t)) → Q (.inl none) (S.setR (ft+1) i (some e))) : Mw hX1_hadRisen yX1_hadRisen d [vA ft, vA s, vA b, vI x, vI z] S Q := by
  subst hx hz
  have hS' := hS
  obtain ⟨hY, ⟨⟨w0, w1, w2, w3⟩, wt, wk, wn⟩, hg⟩ := hS
  have g0 := hg.1
  have g1 := hg.2.1
  have g2 := hg.2.2.1
  have g3 := hg.2.2.2.1
  have hl := hY
  unfold SY at hl
  obtain ⟨n1, n2, n3⟩ := hg.nt hi'
  have k1 := (hg.sc n1.2).1
  obtain ⟨dd, rfl⟩ : ∃ e, d = e + 1 := ⟨d - 1, by omega⟩
  refine MX1_hadRisen ?_
  unfold VX1_hadRisen_0
  refine ⟨hF.1, ft+1, hF.2.1, hl.1, k_kindOf (by omega) hS' rfl hi' (oI_i ⟨hA.1.1, k_layings (by omega) hA rfl k1.2 (fun y hy => oA_i ⟨hl.1, s+6, hl.2.1.2.2.2.2.2.1, ⟨hl.2.2.1.2.2.2.2.2.1, by omega, by rw [hl.2.2.2.2.2.2.2.2.1]; omega⟩, hy.1.1, ?_⟩)⟩)⟩
  rw [Int.toNat_natCast, (wn i hi').2.1, n2.1]
  refine k_rising (by omega) g0.2.1 hy n2.2.1 n2.2.2 ht hb rfl rfl (fun e e1 e2 => oA_i ⟨⟨hF.2.2.1, e2.1, by omega, by rw [hF.2.2.2]; omega⟩, h e e1 e2⟩)
/-- the rows of the first m notes stand ready -/
def AM (S : MS) (ft n : Nat) (w : Nat → Int) (lo hi m : Nat) : Prop := ∀ i, i < m → ∃ e, S.R (ft+1) i = some e ∧ (lo ≤ e ∧ e < hi) ∧ LA S e (Wn n) (inR n fun r => decide (rsN n (kd w (nS w i)) (nX w i) r = nT w i))
/-- only the risen rows' references change -/
def Fx (ro : Nat) (S S' : MS) : Prop := S'.K = S.K ∧ S'.N = S.N ∧ S'.I = S.I ∧ S'.J = S.J ∧ S'.T = S.T ∧ S'.nx = S.nx ∧ S'.us = S.us ∧ ∀ a, a ≠ ro → S'.R a = S.R a
theorem Fx.rf {ro : Nat} {S : MS} : Fx ro S S := ⟨rfl, rfl, rfl, rfl, rfl, rfl, rfl, fun _ _ => rfl⟩
theorem Fx.tr {ro : Nat} {S S1 S2 : MS} (f : Fx ro S S1) (g : Fx ro S1 S2) : Fx ro S S2 := ⟨g.1.trans f.1, g.2.1.trans f.2.1, g.2.2.1.trans f.2.2.1, g.2.2.2.1.trans f.2.2.2.1, g.2.2.2.2.1.trans f.2.2.2.2.1, g.2.2.2.2.2.1.trans f.2.2.2.2.2.1, g.2.2.2.2.2.2.1.trans f.2.2.2.2.2.2.1, fun a h => (g.2.2.2.2.2.2.2 a h).trans (f.2.2.2.2.2.2.2 a h)⟩
theorem Fx.s {ro i : Nat} {v : Option Nat} {S : MS} : Fx ro S (S.setR ro i v) := ⟨rfl, rfl, rfl, rfl, rfl, rfl, rfl, fun _ h => sR_Ra h⟩
theorem Fx.ss {ro s n : Nat} {w : Nat → Int} {S S1 : MS} (f : Fx ro S S1) (h : s ≠ ro) (k : SS S s n w) : SS S1 s n w := by
  unfold SS SY SW
  rw [f.1, f.2.1, f.2.2.1, f.2.2.2.2.2.2.2 s h]
  exact k
theorem kf_aim {d ft s b n lo hi li : Nat} {w : Nat → Int} {Q : Out → MS → Prop} (hd : 4 ≤ d) (hs : s ≠ ft + 1) (hlo : ft + 2 ≤ lo) : ∀ (j : Nat) {S : MS} {i : Nat}, i + j = nN w → FT S ft → SS S s n w → AR S b n lo hi li → AM S ft n w lo hi i → (∀ S', Fx (ft+1) S S' → FT S' ft → AR S' b n lo hi li → AM S' ft n w lo hi (nN w) → Q (.inl none) S') → VX1_aim_2 d Q (j + 1) ft s b (i : Nat) S := by
  intro j
  induction j with
  | zero =>
    intro S i hi hF hS hA hM h
    have hS' := hS
    obtain ⟨hY, ⟨⟨w0, w1, w2, w3⟩, wt, wk, wn⟩, hg⟩ := hS
    have g0 := hg.1
    have g1 := hg.2.1
    have g2 := hg.2.2.1
    have g3 := hg.2.2.2.1
    have hl := hY
    unfold SY at hl
    unfold VX1_aim_2
    rw [w2, g2.1]
    rw [show i = nN w by omega] at hM ⊢
    exact ⟨hl.1, ⟨(by unfold R32; omega), (by unfold R32; omega)⟩, fun _ => h S Fx.rf hF hA hM, fun c => by omega⟩
  | succ j ih =>
    intro S i hi hF hS hA hM h
    have hS' := hS
    obtain ⟨hY, ⟨⟨w0, w1, w2, w3⟩, wt, wk, wn⟩, hg⟩ := hS
    have g0 := hg.1
    have g1 := hg.2.1
    have g2 := hg.2.2.1
    have g3 := hg.2.2.2.1
    have hl := hY
    unfold SY at hl
    have hi' : i < nN w := by omega
    obtain ⟨n1, n2, n3⟩ := hg.nt hi'
    unfold VX1_aim_2
    simp only [hl, sI_K, sI_N, sI_R, sI_J, sJ_K, sJ_N, sJ_R, sJ_I, sR_K, sR_N, sR_I, sR_J, Option.some.injEq, exists_eq_left', true_and, and_true, and_self_left, Int.toNat_natCast, Int.toNat_zero, Int.reduceToNat, Int.reduceLT, Int.reduceLE, Nat.reduceLeDiff, Nat.reduceLT, Int.cast_ofNat_Int, forall_eq, ge_iff_le, Int.reduceNeg, Int.reduceAdd, Int.reduceSub, Int.reduceMul, Int.reduceEq, r32_0, r32_1, r32_m1, b01_0, b01_1, not_true_eq_false, not_false_eq_true, false_implies, true_implies, implies_true, forall_const]
    rw [w2, g2.1, (wn i hi').2.2, n3.1]
    refine ⟨⟨(by unfold R32; omega), (by unfold R32; omega)⟩, fun c => by omega, fun _ => ⟨by omega, hF.1, k_hadRisen hd hF hS' hA rfl rfl hi' n3.2.1 n3.2.2 (fun e e1 e2 => oV_i ?_)⟩⟩
    have X : Fx (ft+1) S (S.setR (ft+1) i (some e)) := Fx.s
    refine ih (i := i + 1) (by omega) ⟨hF.1, by rw [sR_Ra (by omega)]; exact hF.2.1, hF.2.2.1, hF.2.2.2⟩ (X.ss hs hS') (ar_setR (by omega) hA) (fun u hu => ?_) (fun S' f' => h S' (X.tr f'))
    by_cases c : u = i
    · subst c
      exact ⟨e, by rw [sR_R, if_pos ⟨rfl, rfl⟩], e1, e2⟩
    · obtain ⟨e', a1, a2, a3⟩ := hM u (by omega)
      exact ⟨e', by rw [sR_R, if_neg (fun k => c k.2)]; exact a1, a2, a3⟩
theorem k_aim {d ft s b n lo hi li : Nat} {w : Nat → Int} {S : MS} {Q : Out → MS → Prop} (hd : 5 ≤ d) (hs : s ≠ ft + 1) (hlo : ft + 2 ≤ lo) (hF : FT S ft) (hS : SS S s n w) (hA : AR S b n lo hi li) (h : ∀ S', Fx (ft+1) S S' → FT S' ft → AR S' b n lo hi li → AM S' ft n w lo hi (nN w) → Q (.inl none) S') : Mw hX1_aim yX1_aim d [vA ft, vA s, vA b] S Q := by
  obtain ⟨dd, rfl⟩ : ∃ e, d = e + 1 := ⟨d - 1, by omega⟩
  refine MX1_aim ?_
  unfold VX1_aim_0
  exact ⟨_, kf_aim (by omega) hs hlo (nN w) (i := 0) (by omega) hF hS hA (fun i hi => absurd hi (Nat.not_lt_zero i)) h⟩
