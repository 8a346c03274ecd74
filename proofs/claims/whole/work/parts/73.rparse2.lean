/-- four numbers put into an array that holds w -/
theorem set4 {S : MS} {a : Nat} {w : Nat → Int} (h : S.I a = w) (k1 k2 k3 k4 : Nat) (v1 v2 v3 v4 : Int) : ((((S.setI a k1 v1).setI a k2 v2).setI a k3 v3).setI a k4 v4).I a = upW (upW (upW (upW w k1 v1) k2 v2) k3 v3) k4 v4 := set_up (set_up (set_up (set_up h)))
noncomputable def scR (w : Nat → Int) (k p : Int) : Nat ⊕ (Nat × Nat) → Nat ⊕ ((Nat → Int) × Nat)
  | .inl f => .inl f
  | .inr (l, r) => .inr (W_scale w k p l, r)
theorem f_rs87 {d m len n : Nat} {tb : Nat → Nat} {w : Nat → Int} {S : MS} {Q : Out → MS → Prop} {k p : Int} {res : Nat ⊕ (Nat × Nat)} {t : Int} (hP : TP S m tb len) (hw : S.I (m+3) = w) (hg : GW n w) (h4 : sN w ≠ 4) (hk : 0 ≤ k ∧ k ≤ 2) (hp : 0 ≤ p ∧ p ≤ 99) (ht : t = (match res with | .inl _ => -1 | .inr (v, _) => (v : Int))) (hr : ∀ v e, res = .inr (v, e) → v ≤ 3) (h9 : ∀ f, res = .inl f → S.I m 9 = (f : Nat)) (h7 : ∀ v e, res = .inr (v, e) → S.I m 7 = (e : Nat))
    (h : ∀ S' r, Fr m [3] [7, 9] S S' → PR S' m r (scR w k p res) → Q (.inl (some (vI r))) S') : VX11_readScale_87 d Q m k p t S := by
  have hL := hP.1
  have g1 := hg.2.1
  cases res with
  | inl f =>
    simp only [scR] at ht h
    subst ht
    unfold VX11_readScale_87
    exact ⟨r32_m1, fun c => absurd c (by decide), fun _ => ⟨b01_0, h S 0 Fr.rf (.no (h9 f rfl))⟩⟩
  | inr q =>
    obtain ⟨l, e⟩ := q
    simp only [scR] at ht h
    subst ht
    have hl3 := hr l e rfl
    have hl := hL
    unfold RLay at hl
    unfold VX11_readScale_87
    refine ⟨(by unfold R32; omega), fun _ => ?_, fun c => by omega⟩
    simp only [hl, sI_K, sI_N, sI_R, sI_J, Option.some.injEq, exists_eq_left', true_and, and_true, Int.toNat_zero, Int.reduceToNat, Int.reduceLT, Int.reduceLE, Int.cast_ofNat_Int, forall_eq, ge_iff_le, Int.reduceNeg, Int.reduceAdd, Int.reduceSub, Int.reduceMul, Int.reduceEq, r32_0, r32_1, r32_m1, b01_0, b01_1, not_true_eq_false, not_false_eq_true, false_implies, true_implies, implies_true, forall_const]
    have ew : S.I (m+3) 1 = (sN w : Int) := by rw [hw]; exact g1.1
    rw [ew, show ((11 : Int) + 3 * (sN w : Int)).toNat = 11 + 3 * sN w by omega, show ((11 : Int) + 3 * (sN w : Int) + 1).toNat = 12 + 3 * sN w by omega, show ((11 : Int) + 3 * (sN w : Int) + 2).toNat = 13 + 3 * sN w by omega]
    have e3 : (((S.setI (m+3) (11 + 3 * sN w) k).setI (m+3) (12 + 3 * sN w) p).setI (m+3) (13 + 3 * sN w) (l : Int)).I (m+3) 1 = (sN w : Int) := by
      rw [set_up (set_up (set_up hw)), upW_ne (by omega), upW_ne (by omega), upW_ne (by omega)]
      exact g1.1
    rw [e3]
    refine ⟨by omega, by omega, by omega, h _ 1 ((Fr.sA (by decide) (by decide)).tr ((Fr.sA (by decide) (by decide)).tr ((Fr.sA (by decide) (by decide)).tr (Fr.sA (by decide) (by decide))))) (.ye (set4 hw _ _ _ _ _ _ _ _) ?_)⟩
    rw [sI_Ia (by omega), sI_Ia (by omega), sI_Ia (by omega), sI_Ia (by omega)]
    exact h7 l e rfl
theorem c_readScale {d m len n b e : Nat} {tb : Nat → Nat} {w : Nat → Int} {S : MS} {Q : Out → MS → Prop} (hd : 6 ≤ d) (hP : TP S m tb len) (hw : S.I (m+3) = w) (hg : GW n w) (hb : S.I m 9 = (b : Int)) (he : S.I m 7 = (e : Int)) (hel : e ≤ len) (h : ∀ S' r, Fr m [3] [7, 9] S S' → PR S' m r (pScale tb len w b e) → Q (.inl (some (vI r))) S') : Mw hX11_readScale yX11_readScale d [vA m] S Q := by
  have hL := hP.1
  have g1 := hg.2.1
  have c1 := skb_le (tb := tb) hel
  have c2 := lte_le (tb := tb) c1.2
  obtain ⟨dd, rfl⟩ : ∃ e, d = e + 1 := ⟨d - 1, by omega⟩
  refine MX11_readScale ?_
  have hl := hL
  unfold RLay at hl
  unfold VX11_readScale_0
  simp only [hl, sI_K, sI_N, sI_R, sI_J, Option.some.injEq, exists_eq_left', true_and, and_true, Int.toNat_zero, Int.reduceToNat, Int.reduceLT, Int.reduceLE, Int.cast_ofNat_Int, forall_eq, ge_iff_le, Int.reduceNeg, Int.reduceAdd, Int.reduceSub, Int.reduceMul, Int.reduceEq, r32_0, r32_1, r32_m1, b01_0, b01_1, not_true_eq_false, not_false_eq_true, false_implies, true_implies, implies_true, forall_const]
  have ew : S.I (m+3) 1 = (sN w : Int) := by rw [hw]; exact g1.1
  rw [ew]
  unfold pScale at h
  refine ⟨⟨(by unfold R32; omega), (by unfold R32; omega)⟩, fun c => c_letters (by omega) hP he hel (fun S1 f1 k7 k9 => oV_i ?_), fun c => ?_⟩
  · rw [if_neg (by omega)] at h
    have hP1 := hP.fr f1 (by decide) (by decide)
    have hL1 := hP1.1
    have hw1 : S1.I (m+3) = w := by rw [f1.arr (by decide) (by decide), hw]
    generalize hB : skb tb len e = B at h k7 k9 c1 c2
    generalize hE : lte tb len B = E at h k7 c2
    have e56 : ∀ k : Int, k = pKind tb B E → -1 ≤ k → k ≤ 2 → VX11_readScale_56 dd Q m k S1 := by
      intro k hk hk1 hk2
      rw [← hk] at h
      unfold VX11_readScale_56
      by_cases k0 : k < 0
      · rw [if_pos k0] at h
        unfold VX11_readScale_72 VX11_readScale_87
        exact ⟨(by unfold R32; omega), fun c => by omega, fun _ => ⟨r32_m1, fun c => absurd c (by decide), fun _ => ⟨r32_m1, fun c => absurd c (by decide), fun _ => ⟨b01_0, h S1 0 (f1.wk (by decide) (by decide)) (.no k9)⟩⟩⟩⟩
      · rw [if_neg k0] at h
        refine ⟨(by unfold R32; omega), fun _ => ⟨hL1.1, c_number (by omega) hP1 k7 c2.2 (by unfold R32; omega) (by unfold R32; omega) (fun S2 f2 j1 j2 => oI_i ?_)⟩, fun c => by omega⟩
        have hP2 := hP1.fr f2 (by decide) (by decide)
        have hL2 := hP2.1
        have hw2 : S2.I (m+3) = w := by rw [f2.arr (by decide) (by decide), hw1]
        have f12 : Fr m [3] [7, 9] S S2 := (f1.wk (by decide) (by decide)).tr (f2.wk (by decide) (by decide))
        unfold VX11_readScale_72
        cases hn : pNum tb len 0 99 E with
        | inl f =>
          rw [hn] at h
          have ev : nmV tb len 0 99 E = -1 := by unfold nmV; rw [hn]
          rw [ev]
          refine ⟨r32_m1, fun c => absurd c (by decide), fun _ => ?_⟩
          unfold VX11_readScale_87
          exact ⟨r32_m1, fun c => absurd c (by decide), fun _ => ⟨b01_0, h S2 0 f12 (.no (j1 f hn))⟩⟩
        | inr q =>
          obtain ⟨p, q⟩ := q
          rw [hn] at h
          simp only at h
          have ev : nmV tb len 0 99 E = (p : Int) := by unfold nmV; rw [hn]
          obtain ⟨a1, a2, a3, a4⟩ := pNum_r c2.2 hn
          rw [ev]
          refine ⟨(by unfold R32; omega), fun _ => ⟨hL2.1, c_number (by omega) hP2 (j2 p q hn).1 a4 (by unfold R32; omega) (by unfold R32; omega) (fun S3 f3 i1 i2 => oI_i ?_)⟩, fun c => by omega⟩
          have hP3 := hP2.fr f3 (by decide) (by decide)
          refine f_rs87 (n := n) (res := pNum tb len 0 3 q) hP3 (by rw [f3.arr (by decide) (by decide), hw2]) hg (by omega) (by omega) (by omega) rfl (fun v e hv => ?_) i1 (fun v e hv => (i2 v e hv).1) (fun S' r f4 hpr => h S' r (f12.tr ((f3.wk (by decide) (by decide)).tr f4)) ?_)
          · have := pNum_r a4 hv
            omega
          · unfold scR at hpr
            exact hpr
    refine ⟨hL1.1, c_isWord (i := 4) (by omega) hP1 k9 k7 c2.1 c2.2 (by decide) rfl (fun q hq => oI_i ⟨hq.r, fun d1 => ⟨hL1.1, c_isWord (i := 5) (by omega) hP1 k9 k7 c2.1 c2.2 (by decide) rfl (fun q2 hq2 => oI_i ⟨hq2.r, fun d2 => ⟨hL1.1, c_isWord (i := 6) (by omega) hP1 k9 k7 c2.1 c2.2 (by decide) rfl (fun q3 hq3 => oI_i ⟨hq3.r, fun d3 => e56 _ ?_ (by decide) (by decide), fun d3 => e56 _ ?_ (by decide) (by decide)⟩)⟩, fun d2 => e56 _ ?_ (by decide) (by decide)⟩)⟩, fun d1 => e56 _ ?_ (by decide) (by decide)⟩)⟩
    · unfold pKind
      rw [cD_n, cD_n, cD_n]
      · rcases hq3 with ⟨rfl, -⟩ | ⟨-, g⟩
        · omega
        · exact g
      · rcases hq2 with ⟨rfl, -⟩ | ⟨-, g⟩
        · omega
        · exact g
      · rcases hq with ⟨rfl, -⟩ | ⟨-, g⟩
        · omega
        · exact g
    · unfold pKind
      rw [cD_n, cD_n, cD_y]
      · rcases hq3 with ⟨-, g⟩ | ⟨rfl, -⟩
        · exact g
        · omega
      · rcases hq2 with ⟨rfl, -⟩ | ⟨-, g⟩
        · omega
        · exact g
      · rcases hq with ⟨rfl, -⟩ | ⟨-, g⟩
        · omega
        · exact g
    · unfold pKind
      rw [cD_n, cD_y]
      · rcases hq2 with ⟨-, g⟩ | ⟨rfl, -⟩
        · exact g
        · omega
      · rcases hq with ⟨rfl, -⟩ | ⟨-, g⟩
        · omega
        · exact g
    · unfold pKind
      rw [cD_y]
      rcases hq with ⟨-, g⟩ | ⟨rfl, -⟩
      · exact g
      · omega
  · rw [if_pos (by omega)] at h
    exact h S 0 Fr.rf (.no hb)
theorem pow_or {x t n : Nat} (hx : x < 2 ^ n) (h7 : n ≤ 7) (ht : t < n) : iOr (x : Int) (iShl 1 (t : Int)) = ((x ||| 2 ^ t : Nat) : Int) ∧ x ||| 2 ^ t < 2 ^ n := by
  have p7 := p2_7 h7
  have q : 2 ^ t ≤ 2 ^ 6 := Nat.pow_le_pow_right (by decide) (by omega)
  exact ⟨by rw [i1_shl (by omega), iOr_n (by omega) (by omega)], Nat.or_lt_two_pow hx (Nat.pow_lt_pow_right (by decide) ht)⟩
theorem f_rn50 {d m len n s : Nat} {tb : Nat → Nat} {w : Nat → Int} {Q : Out → MS → Prop} (hd : 5 ≤ d) (hg : GW n w) (h16 : nN w ≠ 16) (hs : s < sN w) : ∀ (k : Nat) {S : MS} {x p : Nat}, TP S m tb len → S.I (m+3) = w → S.I m 7 = (p : Int) → p ≤ len → x < 2 ^ n → k ≤ 4 →
    (∀ S' r, Fr m [3] [7, 9] S S' → PR S' m r (match pMem tb len n k x p with
    | .inl f => .inl f
    | .inr (x, r) => cD (isW tb 7 (skb tb len r) (lte tb len (skb tb len r))) (match pNum tb len 0 ((n : Int) - 1) (lte tb len (skb tb len r)) with
      | .inl f => .inl f
      | .inr (t, u) => if x.testBit t then .inr (W_note w s x t, u) else .inl (skb tb len (lte tb len (skb tb len r)))) (.inl (skb tb len r))) → Q (.inl (some (vI r))) S') → VX11_readNote_50 d Q (k + 1) m (s : Nat) (x : Nat) (k : Nat) S := by
  have h37 := hg.1
  have g1 := hg.2.1
  have g2 := hg.2.2.1
  have p7 := p2_7 h37.2.1
  intro k
  induction k with
  | zero =>
    intro S x p hP hw hp hpl hx hk4 h
    have hL := hP.1
    have c1 := skb_le (tb := tb) hpl
    have c2 := lte_le (tb := tb) c1.2
    simp only [pMem] at h
    unfold VX11_readNote_50
    refine ⟨r32_0, fun _ => ⟨hL.1, c_letters (by omega) hP hp hpl (fun S1 f1 k7 k9 => oV_i ?_)⟩, fun c => absurd (Int.le_refl _) c⟩
    have hP1 := hP.fr f1 (by decide) (by decide)
    have hL1 := hP1.1
    have hw1 : S1.I (m+3) = w := by rw [f1.arr (by decide) (by decide), hw]
    refine ⟨hL1.1, c_isWord (i := 7) (by omega) hP1 k9 k7 c2.1 c2.2 (by decide) rfl (fun q hq => oI_i ⟨hq.r, fun d1 => ?_, fun d1 => ?_⟩)⟩
    · have g : isW tb 7 (skb tb len p) (lte tb len (skb tb len p)) := by
        rcases hq with ⟨-, g⟩ | ⟨rfl, -⟩
        · exact g
        · omega
      rw [cD_y g] at h
      refine ⟨hL1.1, c_drafted (by omega) hL1 (oI_i ⟨hL1.1, ?_⟩)⟩
      rw [hw1, h37.2.2]
      refine c_number (by omega) hP1 k7 c2.2 (by unfold R32; omega) (by unfold R32; omega) (fun S2 f2 j1 j2 => oI_i ?_)
      have hP2 := hP1.fr f2 (by decide) (by decide)
      have hL2 := hP2.1
      have hw2 : S2.I (m+3) = w := by rw [f2.arr (by decide) (by decide), hw1]
      have f12 : Fr m [3] [7, 9] S S2 := (f1.wk (by decide) (by decide)).tr (f2.wk (by decide) (by decide))
      cases hn : pNum tb len 0 ((n : Int) - 1) (lte tb len (skb tb len p)) with
      | inl f =>
        rw [hn] at h
        have ev : nmV tb len 0 ((n : Int) - 1) (lte tb len (skb tb len p)) = -1 := by unfold nmV; rw [hn]
        rw [ev]
        exact ⟨r32_m1, fun _ => ⟨b01_0, h S2 0 f12 (.no (j1 f hn))⟩, fun c => absurd (by decide) c⟩
      | inr q =>
        obtain ⟨t, u⟩ := q
        rw [hn] at h
        simp only at h
        have ev : nmV tb len 0 ((n : Int) - 1) (lte tb len (skb tb len p)) = (t : Int) := by unfold nmV; rw [hn]
        obtain ⟨a1, a2, a3, a4⟩ := pNum_r c2.2 hn
        rw [ev, iBit_n (by omega) (by omega)]
        refine ⟨(by unfold R32; omega), fun c => by omega, fun _ => ⟨r32_ite, fun c3 => ?_, fun c3 => ?_⟩⟩
        · have hbt : x.testBit t = true := by
            by_cases g : x.testBit t = true
            · exact g
            · rw [if_neg g] at c3; exact absurd rfl c3
          rw [if_pos hbt] at h
          have hl := hL2
          unfold RLay at hl
          simp only [hl, sI_K, sI_N, sI_R, sI_J, Option.some.injEq, exists_eq_left', true_and, and_true, Int.toNat_zero, Int.reduceToNat, Int.reduceLT, Int.reduceLE, Int.cast_ofNat_Int, forall_eq, ge_iff_le, Int.reduceNeg, Int.reduceAdd, Int.reduceSub, Int.reduceMul, Int.reduceEq, r32_0, r32_1, r32_m1, b01_0, b01_1, not_true_eq_false, not_false_eq_true, false_implies, true_implies, implies_true, forall_const]
          have ew : S2.I (m+3) 2 = (nN w : Int) := by rw [hw2]; exact g2.1
          rw [ew, show ((23 : Int) + 3 * (nN w : Int)).toNat = 23 + 3 * nN w by omega, show ((23 : Int) + 3 * (nN w : Int) + 1).toNat = 24 + 3 * nN w by omega, show ((23 : Int) + 3 * (nN w : Int) + 2).toNat = 25 + 3 * nN w by omega]
          have e3 : (((S2.setI (m+3) (23 + 3 * nN w) (s : Int)).setI (m+3) (24 + 3 * nN w) (x : Int)).setI (m+3) (25 + 3 * nN w) (t : Int)).I (m+3) 2 = (nN w : Int) := by
            rw [set_up (set_up (set_up hw2)), upW_ne (by omega), upW_ne (by omega), upW_ne (by omega)]
            exact g2.1
          rw [e3]
          refine ⟨by omega, by omega, by omega, h _ 1 (f12.tr ((Fr.sA (by decide) (by decide)).tr ((Fr.sA (by decide) (by decide)).tr ((Fr.sA (by decide) (by decide)).tr (Fr.sA (by decide) (by decide)))))) (.ye (set4 hw2 _ _ _ _ _ _ _ _) ?_)⟩
          rw [sI_Ia (by omega), sI_Ia (by omega), sI_Ia (by omega), sI_Ia (by omega)]
          exact (j2 t u hn).1
        · have hbt : ¬ x.testBit t = true := by
            intro g
            rw [if_pos g] at c3
            omega
          rw [if_neg hbt] at h
          exact ⟨b01_0, h S2 0 f12 (.no (j2 t u hn).2)⟩
    · rw [cD_n] at h
      · exact ⟨b01_0, h S1 0 (f1.wk (by decide) (by decide)) (.no k9)⟩
      · rcases hq with ⟨rfl, -⟩ | ⟨-, g⟩
        · omega
        · exact g
  | succ k ih =>
    intro S x p hP hw hp hpl hx hk4 h
    have hL := hP.1
    unfold VX11_readNote_50
    refine ⟨(by unfold R32; omega), fun c => by omega, fun _ => ⟨hL.1, c_drafted (by omega) hL (oI_i ⟨hL.1, ?_⟩)⟩⟩
    rw [hw, h37.2.2]
    refine c_number (by omega) hP hp hpl (by unfold R32; omega) (by unfold R32; omega) (fun S2 f2 j1 j2 => oI_i ?_)
    have hP2 := hP.fr f2 (by decide) (by decide)
    have hL2 := hP2.1
    have hw2 : S2.I (m+3) = w := by rw [f2.arr (by decide) (by decide), hw]
    have f02 : Fr m [3] [7, 9] S S2 := f2.wk (by decide) (by decide)
    simp only [pMem] at h
    cases hn : pNum tb len 0 ((n : Int) - 1) p with
    | inl f =>
      rw [hn] at h
      have ev : nmV tb len 0 ((n : Int) - 1) p = -1 := by unfold nmV; rw [hn]
      rw [ev]
      exact ⟨r32_m1, fun _ => ⟨b01_0, h S2 0 f02 (.no (j1 f hn))⟩, fun c => absurd (by decide) c⟩
    | inr q =>
      obtain ⟨t, u⟩ := q
      rw [hn] at h
      simp only at h
      have ev : nmV tb len 0 ((n : Int) - 1) p = (t : Int) := by unfold nmV; rw [hn]
      obtain ⟨a1, a2, a3, a4⟩ := pNum_r hpl hn
      obtain ⟨po, pl⟩ := pow_or hx h37.2.1 (show t < n by omega)
      rw [ev, iBit_n (by omega) (by omega), po]
      refine ⟨(by unfold R32; omega), fun c => by omega, fun _ => ⟨⟨r32_ite, r32_1⟩, fun c3 => ?_, fun c3 => ?_⟩⟩
      · have hbt : ¬ x.testBit t = true := by
          intro g
          rw [if_pos g] at c3
          exact c3 rfl
        rw [if_neg hbt] at h
        rw [show ((k + 1 : Nat) : Int) + -1 = (k : Nat) by omega]
        exact ih (p := u) hP2 hw2 (j2 t u hn).1 a4 pl (by omega) (fun S' r f3 hpr => h S' r (f02.tr f3) hpr)
      · have hbt : x.testBit t = true := by
          by_cases g : x.testBit t = true
          · exact g
          · rw [if_neg g] at c3; omega
        rw [if_pos hbt] at h
        exact ⟨b01_0, h S2 0 f02 (.no (j2 t u hn).2)⟩
theorem c_readNote {d m len n b e : Nat} {tb : Nat → Nat} {w : Nat → Int} {S : MS} {Q : Out → MS → Prop} (hd : 6 ≤ d) (hP : TP S m tb len) (hw : S.I (m+3) = w) (hg : GW n w) (hb : S.I m 9 = (b : Int)) (he : S.I m 7 = (e : Int)) (hel : e ≤ len) (h : ∀ S' r, Fr m [3] [7, 9] S S' → PR S' m r (pNote tb len w n b e) → Q (.inl (some (vI r))) S') : Mw hX11_readNote yX11_readNote d [vA m] S Q := by
  have hL := hP.1
  have g1 := hg.2.1
  have g2 := hg.2.2.1
  obtain ⟨dd, rfl⟩ : ∃ e, d = e + 1 := ⟨d - 1, by omega⟩
  refine MX11_readNote ?_
  have hl := hL
  unfold RLay at hl
  unfold VX11_readNote_0
  simp only [hl, sI_K, sI_N, sI_R, sI_J, Option.some.injEq, exists_eq_left', true_and, and_true, Int.toNat_zero, Int.reduceToNat, Int.reduceLT, Int.reduceLE, Int.cast_ofNat_Int, forall_eq, ge_iff_le, Int.reduceNeg, Int.reduceAdd, Int.reduceSub, Int.reduceMul, Int.reduceEq, r32_0, r32_1, r32_m1, b01_0, b01_1, not_true_eq_false, not_false_eq_true, false_implies, true_implies, implies_true, forall_const]
  have ew : S.I (m+3) 2 = (nN w : Int) := by rw [hw]; exact g2.1
  have ew1 : S.I (m+3) 1 = (sN w : Int) := by rw [hw]; exact g1.1
  rw [ew, ew1]
  unfold pNote at h
  refine ⟨⟨(by unfold R32; omega), (by unfold R32; omega)⟩, fun c => c_number (by omega) hP he hel (by unfold R32; omega) (by unfold R32; omega) (fun S1 f1 k1 k2 => oI_i ?_), fun c => ?_⟩
  · rw [if_neg (by omega)] at h
    have hP1 := hP.fr f1 (by decide) (by decide)
    have hL1 := hP1.1
    have hw1 : S1.I (m+3) = w := by rw [f1.arr (by decide) (by decide), hw]
    cases hn : pNum tb len 0 ((sN w : Int) - 1) e with
    | inl f =>
      rw [hn] at h
      have ev : nmV tb len 0 ((sN w : Int) - 1) e = -1 := by unfold nmV; rw [hn]
      rw [ev]
      exact ⟨r32_m1, fun c => absurd c (by decide), fun _ => h S1 0 (f1.wk (by decide) (by decide)) (.no (k1 f hn))⟩
    | inr q =>
      obtain ⟨s, q⟩ := q
      rw [hn] at h
      simp only at h
      have ev : nmV tb len 0 ((sN w : Int) - 1) e = (s : Int) := by unfold nmV; rw [hn]
      obtain ⟨a1, a2, a3, a4⟩ := pNum_r hel hn
      have bs := hg.sc (s := s) (by omega)
      have hpk := pansK_le (kd w s)
      have hl := hL1
      unfold RLay at hl
      rw [ev]
      refine ⟨(by unfold R32; omega), fun _ => ?_, fun c => by omega⟩
      simp only [hl, sI_K, sI_N, sI_R, sI_J, Option.some.injEq, exists_eq_left', true_and, and_true, Int.toNat_zero, Int.reduceToNat, Int.reduceLT, Int.reduceLE, Int.cast_ofNat_Int, forall_eq, ge_iff_le, Int.reduceNeg, Int.reduceAdd, Int.reduceSub, Int.reduceMul, Int.reduceEq, r32_0, r32_1, r32_m1, b01_0, b01_1, not_true_eq_false, not_false_eq_true, false_implies, true_implies, implies_true, forall_const]
      rw [show ((11 : Int) + 3 * (s : Int)).toNat = 11 + 3 * s by omega, hw1]
      refine ⟨by omega, c_pansOf (k := kd w s) (by omega) bs.1.1 bs.1.2 (oI_i ⟨pansK (kd w s) + 1, ?_⟩)⟩
      exact f_rn50 (n := n) (s := s) (by omega) hg (by omega) (by omega) (pansK (kd w s)) (x := 0) (p := q) hP1 hw1 (k2 s q hn).1 a4 (Nat.two_pow_pos n) (by omega) (fun S' r f3 hpr => h S' r ((f1.wk (by decide) (by decide)).tr f3) hpr)
  · rw [if_pos (by omega)] at h
    exact h S 0 Fr.rf (.no hb)
theorem c_readLine {d m len n p c : Nat} {tb : Nat → Nat} {w : Nat → Int} {S : MS} {Q : Out → MS → Prop} {x : Int} (hd : 7 ≤ d) (hP : TP S m tb len) (hw : S.I (m+3) = w) (hg : GW n w) (hp : S.I m 7 = (p : Int)) (hpl : p ≤ len) (e1 : x = (c : Int)) (hc : c ≤ 12) (h : ∀ S' r, Fr m [3] [7, 9] S S' → PR S' m r (pLine tb len c w n p) → Q (.inl (some (vI r))) S') : Mw hX11_readLine yX11_readLine d [vA m, vI x] S Q := by
  subst e1
  have hL := hP.1
  have h37 := hg.1
  have c1 := skb_le (tb := tb) hpl
  have c2 := lte_le (tb := tb) c1.2
  obtain ⟨dd, rfl⟩ : ∃ e, d = e + 1 := ⟨d - 1, by omega⟩
  refine MX11_readLine ?_
  have hl := hL
  unfold RLay at hl
  unfold VX11_readLine_0
  simp only [hl, sI_K, sI_N, sI_R, sI_J, Option.some.injEq, exists_eq_left', true_and, and_true, Int.toNat_zero, Int.reduceToNat, Int.reduceLT, Int.reduceLE, Int.cast_ofNat_Int, forall_eq, ge_iff_le, Int.reduceNeg, Int.reduceAdd, Int.reduceSub, Int.reduceMul, Int.reduceEq, r32_0, r32_1, r32_m1, b01_0, b01_1, not_true_eq_false, not_false_eq_true, false_implies, true_implies, implies_true, forall_const]
  refine c_letters (by omega) hP hp hpl (fun S1 f1 k7 k9 => oV_i ?_)
  have hP1 := hP.fr f1 (by decide) (by decide)
  have hL1 := hP1.1
  have hw1 : S1.I (m+3) = w := by rw [f1.arr (by decide) (by decide), hw]
  have f01 : Fr m [3] [7, 9] S S1 := f1.wk (by decide) (by decide)
  unfold pLine at h
  generalize hB : skb tb len p = B at h k7 k9 c1 c2
  generalize hE : lte tb len B = E at h k7 c2
  refine ⟨⟨(by unfold R32; omega), (by unfold R32; omega)⟩, fun c12 => ⟨hL1.1, c_isWord (i := 0) (by omega) hP1 k9 k7 c2.1 c2.2 (by decide) rfl (fun q0 hq0 => oI_i ⟨hq0.r, fun d0 => ⟨hL1.1, c_isWord (i := 1) (by omega) hP1 k9 k7 c2.1 c2.2 (by decide) rfl (fun q1 hq1 => oI_i ⟨hq1.r, fun d1 => ⟨hL1.1, c_isWord (i := 3) (by omega) hP1 k9 k7 c2.1 c2.2 (by decide) rfl (fun q3 hq3 => oI_i ⟨hq3.r, fun d3 => ⟨hL1.1, c_isWord (i := 2) (by omega) hP1 k9 k7 c2.1 c2.2 (by decide) rfl (fun q2 hq2 => oI_i ⟨hq2.r, fun d2 => ?_, fun d2 => ?_⟩)⟩, fun d3 => ⟨hL1.1, ?_⟩⟩)⟩, fun d1 => ⟨hL1.1, ?_⟩⟩)⟩, fun d0 => ⟨hL1.1, ?_⟩⟩)⟩, fun c12 => ?_⟩
  · have n0 : ¬ isW tb 0 B E := by rcases hq0 with ⟨rfl, -⟩ | ⟨-, g⟩; omega; exact g
    have n1 : ¬ isW tb 1 B E := by rcases hq1 with ⟨rfl, -⟩ | ⟨-, g⟩; omega; exact g
    have n3 : ¬ isW tb 3 B E := by rcases hq3 with ⟨rfl, -⟩ | ⟨-, g⟩; omega; exact g
    have y2 : isW tb 2 B E := by rcases hq2 with ⟨-, g⟩ | ⟨rfl, -⟩; exact g; omega
    rw [if_neg (by omega), cD_n n0, cD_n n1, cD_n n3, cD_y y2] at h
    unfold pWeight at h
    refine ⟨hL1.1, c_drafted (by omega) hL1 (oI_i ⟨hL1.1, ?_⟩)⟩
    rw [hw1, h37.2.2]
    refine c_number (by omega) hP1 k7 c2.2 (by unfold R32; omega) (by unfold R32; omega) (fun S2 f2 j1 j2 => oI_i ?_)
    have hP2 := hP1.fr f2 (by decide) (by decide)
    have hL2 := hP2.1
    have hw2 : S2.I (m+3) = w := by rw [f2.arr (by decide) (by decide), hw1]
    have f02 : Fr m [3] [7, 9] S S2 := f01.tr (f2.wk (by decide) (by decide))
    unfold VX11_readLine_91 VX11_readLine_105
    cases hn : pNum tb len 0 ((n : Int) - 1) E with
    | inl f =>
      rw [hn] at h
      have ev : nmV tb len 0 ((n : Int) - 1) E = -1 := by unfold nmV; rw [hn]
      rw [ev]
      exact ⟨r32_m1, fun c => absurd c (by decide), fun _ => ⟨r32_m1, fun _ => ⟨r32_m1, fun _ => ⟨b01_0, h S2 0 f02 (.no (j1 f hn))⟩, fun c => absurd (by decide) c⟩, fun c => absurd (by decide) c⟩⟩
    | inr q =>
      obtain ⟨t, u⟩ := q
      rw [hn] at h
      simp only at h
      have ev : nmV tb len 0 ((n : Int) - 1) E = (t : Int) := by unfold nmV; rw [hn]
      obtain ⟨a1, a2, a3, a4⟩ := pNum_r c2.2 hn
      rw [ev]
      refine ⟨(by unfold R32; omega), fun _ => ⟨hL2.1, c_number (by omega) hP2 (j2 t u hn).1 a4 (by unfold R32; omega) (by unfold R32; omega) (fun S3 f3 i1 i2 => oI_i ?_)⟩, fun c => by omega⟩
      have hL3 := f3.lay hL2
      have hw3 : S3.I (m+3) = w := by rw [f3.arr (by decide) (by decide), hw2]
      have f03 : Fr m [3] [7, 9] S S3 := f02.tr (f3.wk (by decide) (by decide))
      cases hn2 : pNum tb len 0 999 u with
      | inl f =>
        rw [hn2] at h
        have ev : nmV tb len 0 999 u = -1 := by unfold nmV; rw [hn2]
        rw [ev]
        exact ⟨r32_m1, fun _ => ⟨r32_m1, fun _ => ⟨b01_0, h S3 0 f03 (.no (i1 f hn2))⟩, fun c => absurd (by decide) c⟩, fun c => absurd (by decide) c⟩
      | inr r =>
        obtain ⟨v, r⟩ := r
        rw [hn2] at h
        simp only at h
        have ev : nmV tb len 0 999 u = (v : Int) := by unfold nmV; rw [hn2]
        obtain ⟨b1, b2, b3, b4⟩ := pNum_r a4 hn2
        have hl := hL3
        unfold RLay at hl
        rw [ev]
        refine ⟨(by unfold R32; omega), fun c => by omega, fun _ => ?_⟩
        simp only [hl, sI_K, sI_N, sI_R, sI_J, Option.some.injEq, exists_eq_left', true_and, and_true, Int.toNat_zero, Int.reduceToNat, Int.reduceLT, Int.reduceLE, Int.cast_ofNat_Int, forall_eq, ge_iff_le, Int.reduceNeg, Int.reduceAdd, Int.reduceSub, Int.reduceMul, Int.reduceEq, r32_0, r32_1, r32_m1, b01_0, b01_1, not_true_eq_false, not_false_eq_true, false_implies, true_implies, implies_true, forall_const]
        rw [show ((4 : Int) + (t : Int)).toNat = 4 + t by omega]
        refine ⟨by omega, (by unfold R32; omega), fun c => by omega, fun _ => h _ 1 (f03.tr (Fr.sA (by decide) (by decide))) (.ye (set_up hw3) ?_)⟩
        rw [sI_Ia (by omega)]
        exact (i2 v r hn2).1
  · have n0 : ¬ isW tb 0 B E := by rcases hq0 with ⟨rfl, -⟩ | ⟨-, g⟩; omega; exact g
    have n1 : ¬ isW tb 1 B E := by rcases hq1 with ⟨rfl, -⟩ | ⟨-, g⟩; omega; exact g
    have n3 : ¬ isW tb 3 B E := by rcases hq3 with ⟨rfl, -⟩ | ⟨-, g⟩; omega; exact g
    have n2 : ¬ isW tb 2 B E := by rcases hq2 with ⟨rfl, -⟩ | ⟨-, g⟩; omega; exact g
    rw [if_neg (by omega), cD_n n0, cD_n n1, cD_n n3, cD_n n2] at h
    exact h S1 0 f01 (.no k9)
  · have n0 : ¬ isW tb 0 B E := by rcases hq0 with ⟨rfl, -⟩ | ⟨-, g⟩; omega; exact g
    have n1 : ¬ isW tb 1 B E := by rcases hq1 with ⟨rfl, -⟩ | ⟨-, g⟩; omega; exact g
    have y3 : isW tb 3 B E := by rcases hq3 with ⟨-, g⟩ | ⟨rfl, -⟩; exact g; omega
    rw [if_neg (by omega), cD_n n0, cD_n n1, cD_y y3] at h
    exact c_readNote (n := n) (by omega) hP1 hw1 hg k9 k7 c2.2 (fun S' r f2 hpr => oI_i ⟨hpr.b, h S' r (f01.tr f2) hpr⟩)
  · have n0 : ¬ isW tb 0 B E := by rcases hq0 with ⟨rfl, -⟩ | ⟨-, g⟩; omega; exact g
    have y1 : isW tb 1 B E := by rcases hq1 with ⟨-, g⟩ | ⟨rfl, -⟩; exact g; omega
    rw [if_neg (by omega), cD_n n0, cD_y y1] at h
    exact c_readScale (n := n) (by omega) hP1 hw1 hg k9 k7 c2.2 (fun S' r f2 hpr => oI_i ⟨hpr.b, h S' r (f01.tr f2) hpr⟩)
  · have y0 : isW tb 0 B E := by rcases hq0 with ⟨-, g⟩ | ⟨rfl, -⟩; exact g; omega
    rw [if_neg (by omega), cD_y y0] at h
    exact c_readThings (n := n) (by omega) hP1 hw1 hg k9 k7 c2.2 (fun S' r f2 hpr => oI_i ⟨hpr.b, h S' r (f01.tr f2) hpr⟩)
  · rw [if_pos (by omega)] at h
    exact h S1 0 f01 (.no k9)
/-- how a whole text came out -/
def PT (S' : MS) (m : Nat) (r : Int) (res : Nat ⊕ (Nat → Int)) : Prop := (∀ f, res = .inl f → r = 0 ∧ S'.I m 9 = (f : Nat)) ∧ ∀ w', res = .inr w' → r = 1 ∧ S'.I (m+3) = w'
theorem PT.no {S' : MS} {m f : Nat} (h : S'.I m 9 = (f : Nat)) : PT S' m 0 (.inl f) := ⟨fun g e => by cases e; exact ⟨rfl, h⟩, fun w' k => by cases k⟩
theorem PT.ye {S' : MS} {m : Nat} {w' : Nat → Int} (h1 : S'.I (m+3) = w') : PT S' m 1 (.inr w') := ⟨fun g e => (by cases e), fun w'' k => by cases k; exact ⟨rfl, h1⟩⟩
theorem f_readAll {d m len : Nat} {tb : Nat → Nat} {Q : Out → MS → Prop} (hd : 7 ≤ d) : ∀ (j : Nat) {S : MS} {c p n : Nat} {w : Nat → Int}, TP S m tb len → S.I (m+3) = w → GW n w → S.I m 7 = (p : Int) → p ≤ len → c + j = 13 → c ≤ 12 → (∀ S' r, Fr m [3] [7, 9] S S' → PT S' m r (pAll tb len j c w p) → Q (.inl (some (vI r))) S') → VX11_readAll_19 d Q j m (c : Nat) S := by
  intro j
  induction j with
  | zero => intro S c p n w _ _ _ _ _ h1 h2; omega
  | succ j ih =>
    intro S c p n w hP hw hg hp hpl hcj hc h
    have hL := hP.1
    have en : (w 0).toNat = n := by rw [hg.1.2.2]; rfl
    unfold pAll at h
    rw [en] at h
    unfold VX11_readAll_19
    refine ⟨hL.1, c_readLine (n := n) (c := c) (by omega) hP hw hg hp hpl rfl hc (fun S1 r f1 hpr => oI_i ⟨b01_r hpr.b, fun c1 => ?_, fun c1 => ?_⟩)⟩
    · cases hn : pLine tb len c w n p with
      | inl f =>
        rw [hn] at hpr
        have := (hpr.1 f rfl).1
        omega
      | inr q =>
        obtain ⟨w', q⟩ := q
        rw [hn] at h hpr
        simp only at h
        obtain ⟨-, k3, k7⟩ := hpr.2 w' q rfl
        obtain ⟨⟨n', hg'⟩, a1, a2, -⟩ := pLine_ok hg hpl hn
        have hP1 := hP.fr f1 (by decide) (by decide)
        refine ⟨hP1.1.1, c_blanks (by omega) hP1 k7 a2 (fun S2 f2 j7 j9 => oV_i ?_)⟩
        have hP2 := hP1.fr f2 (by decide) (by decide)
        have hL2 := hP2.1
        have f02 : Fr m [3] [7, 9] S S2 := f1.tr (f2.wk (by decide) (by decide))
        have b := skb_le (tb := tb) a2
        have hw2 : S2.I (m+3) = w' := by rw [f2.arr (by decide) (by decide), k3]
        have hlen := hP2.2.2.1
        rw [j7, hP2.2.1]
        refine ⟨hL2.1, hL2.1, ⟨(by unfold R32; omega), (by unfold R32; omega)⟩, fun c2 => ⟨hL2.1, c_isAt (p := skb tb len q) (lo := 59) (hi := 59) (by omega) hP2 j7 b.2 rfl rfl (by decide) (by decide) (fun q2 hq2 => oI_i ⟨hq2.r, fun c3 => ⟨hL2.1, hL2.1, ?_⟩, fun c3 => ⟨b01_0, h S2 0 f02 ?_⟩⟩)⟩, fun c2 => ⟨b01_1, h S2 1 f02 ?_⟩⟩
        · have t59 : tb (skb tb len q) = 59 := by rcases hq2 with ⟨-, g⟩ | ⟨rfl, -⟩ <;> omega
          rw [if_neg (by omega), if_pos t59] at h
          rw [j7]
          have f3 : Fr m [3] [7, 9] S2 (S2.setI m 7 ((skb tb len q : Nat) + 1)) := Fr.sB (by decide)
          have hc12 : c < 12 := by
            rcases Nat.lt_or_ge c 12 with g | g
            · exact g
            · unfold pLine at hn
              rw [if_pos (by omega)] at hn
              cases hn
          exact ih (c := c + 1) (p := skb tb len q + 1) (hP2.fr f3 (by decide) (by decide)) (by rw [sI_Ia (by omega)]; exact hw2) hg' (by rw [sI_I, if_pos ⟨rfl, rfl⟩]; rfl) (by rcases hq2 with ⟨-, g⟩ | ⟨rfl, -⟩ <;> omega) (by omega) (by omega) (fun S' r f4 hpt => h S' r (f02.tr (f3.tr f4)) hpt)
        · have t59 : ¬ tb (skb tb len q) = 59 := by rcases hq2 with ⟨rfl, -⟩ | ⟨-, g⟩ <;> omega
          rw [if_neg (by omega), if_neg t59]
          exact .no j9
        · rw [if_pos (by omega)]
          exact .ye hw2
    · cases hn : pLine tb len c w n p with
      | inl f =>
        rw [hn] at h hpr
        exact ⟨b01_0, h S1 0 f1 (.no (hpr.1 f rfl).2)⟩
      | inr q =>
        obtain ⟨w', q⟩ := q
        rw [hn] at hpr
        have := (hpr.2 w' q rfl).1
        omega
theorem c_readAll {d m len n : Nat} {tb : Nat → Nat} {w : Nat → Int} {S : MS} {Q : Out → MS → Prop} (hd : 8 ≤ d) (hP : TP S m tb len) (hw : S.I (m+3) = w) (hg : GW n w) (hp : S.I m 7 = 0) (h : ∀ S' r, Fr m [3] [7, 9] S S' → PT S' m r (pText tb len w) → Q (.inl (some (vI r))) S') : Mw hX11_readAll yX11_readAll d [vA m] S Q := by
  have hL := hP.1
  have hlen := hP.2.2.1
  have b := skb_le (tb := tb) (Nat.zero_le len)
  obtain ⟨dd, rfl⟩ : ∃ e, d = e + 1 := ⟨d - 1, by omega⟩
  refine MX11_readAll ?_
  have hl := hL
  unfold RLay at hl
  unfold VX11_readAll_0
  simp only [hl, sI_K, sI_N, sI_R, sI_J, Option.some.injEq, exists_eq_left', true_and, and_true, Int.toNat_zero, Int.reduceToNat, Int.reduceLT, Int.reduceLE, Int.cast_ofNat_Int, forall_eq, ge_iff_le, Int.reduceNeg, Int.reduceAdd, Int.reduceSub, Int.reduceMul, Int.reduceEq, r32_0, r32_1, r32_m1, b01_0, b01_1, not_true_eq_false, not_false_eq_true, false_implies, true_implies, implies_true, forall_const]
  refine c_blanks (p := 0) (by omega) hP hp (Nat.zero_le _) (fun S1 f1 k7 k9 => oV_i ?_)
  have hP1 := hP.fr f1 (by decide) (by decide)
  have f01 : Fr m [3] [7, 9] S S1 := f1.wk (by decide) (by decide)
  have hw1 : S1.I (m+3) = w := by rw [f1.arr (by decide) (by decide), hw]
  rw [k7, hP1.2.1]
  unfold pText at h
  refine ⟨hP1.1.1, hP1.1.1, ⟨(by unfold R32; omega), (by unfold R32; omega)⟩, fun c => ⟨13, ?_⟩, fun c => h S1 1 f01 ?_⟩
  · rw [if_neg (by omega)] at h
    exact f_readAll (by omega) 13 (c := 0) (p := skb tb len 0) hP1 hw1 hg k7 b.2 (by omega) (by omega) (fun S' r f2 hpt => h S' r (f01.tr f2) hpt)
  · rw [if_pos (by omega)]
    exact .ye hw1
