/-! a text for the shed -/
/-- what is drafted from -/
def dr0 (w d : Nat → Int) : Nat → Int := fun q => if q < 71 then w q else d q
theorem f_sh6 {d m : Nat} {Q : Out → MS → Prop} {S0 : MS} : ∀ (j : Nat) {S : MS} {k : Nat}, Fr m [3] [] S0 S → RLay S m → k + j = 71 → (∀ q, S.I (m+3) q = if q < k then S0.I (m+1) q else S0.I (m+3) q) →
    (∀ S', Fr m [3] [] S0 S' → S'.I (m+3) = dr0 (S0.I (m+1)) (S0.I (m+3)) → Mw hX11_readAll yX11_readAll d [vA m] S' (oI (fun r1 S1 => R32 r1 ∧ ((r1 = 0) → S1.K m = 11 ∧ (VX11_shed_48 d Q m r1 (S1.I m 9) m S1)) ∧ (¬ (r1 = 0) → VX11_shed_48 d Q m r1 ((-1)) m S1)))) → VX11_shed_6 d Q (j + 1) m (k : Nat) S := by
  intro j
  induction j with
  | zero =>
    intro S k f0 hL hk h1 h
    unfold VX11_shed_6
    refine ⟨⟨(by unfold R32; omega), (by unfold R32; omega)⟩, fun _ => ⟨hL.1, h S f0 ?_⟩, fun c => by omega⟩
    funext q
    rw [h1 q, show k = 71 by omega]
    rfl
  | succ j ih =>
    intro S k f0 hL hk h1 h
    have hl := hL
    unfold RLay at hl
    unfold VX11_shed_6
    refine ⟨⟨(by unfold R32; omega), (by unfold R32; omega)⟩, fun _ => by omega, fun c => ?_⟩
    simp only [hl, sI_K, sI_N, sI_R, sI_J, Option.some.injEq, exists_eq_left', true_and, and_true, Int.toNat_zero, Int.reduceToNat, Int.reduceLT, Int.reduceLE, Int.cast_ofNat_Int, forall_eq, ge_iff_le, Int.reduceNeg, Int.reduceAdd, Int.reduceSub, Int.reduceMul, Int.reduceEq, r32_0, r32_1, r32_m1, b01_0, b01_1, not_true_eq_false, not_false_eq_true, false_implies, true_implies, implies_true, forall_const]
    rw [Int.toNat_natCast, f0.arr (o := 1) (by decide) (by decide)]
    refine ⟨by omega, by omega, ih (k := k + 1) (f0.tr (Fr.sA (by decide) (by decide))) (by exact hL) (by omega) (fun q => ?_) h⟩
    rw [sI_I]
    by_cases g : q = k
    · rw [if_pos ⟨rfl, g⟩, if_pos (by omega), g]
    · rw [if_neg (fun k => g k.2), h1 q]
      by_cases g2 : q < k
      · rw [if_pos g2, if_pos (by omega)]
      · rw [if_neg g2, if_neg (by omega)]
theorem f_sh96 {d m : Nat} {Q : Out → MS → Prop} {S0 : MS} {w' : Nat → Int} {t : Nat} (hw' : S0.I (m+3) = w') (ht : w' 3 = (t : Int)) (ht8 : t < 8) : ∀ (j : Nat) {S : MS} {k : Nat}, Fr m [1] [] S0 S → RLay S m → k + j = 71 → (∀ q, q < k → S.I (m+1) q = w' q) →
    (∀ S', Fr m [1] [] S0 S' → (∀ q, q < 71 → S'.I (m+1) q = upW w' 3 ((t : Int) + 1) q) → Q (.inl (some (vI ((t : Int) + 1)))) S') → VX11_shed_96 d Q (j + 1) m (k : Nat) S := by
  intro j
  induction j with
  | zero =>
    intro S k f0 hL hk h1 h
    have hl := hL
    unfold RLay at hl
    unfold VX11_shed_96
    refine ⟨⟨(by unfold R32; omega), (by unfold R32; omega)⟩, fun _ => ?_, fun c => by omega⟩
    simp only [hl, sI_K, sI_N, sI_R, sI_J, Option.some.injEq, exists_eq_left', true_and, and_true, Int.toNat_zero, Int.reduceToNat, Int.reduceLT, Int.reduceLE, Int.cast_ofNat_Int, forall_eq, ge_iff_le, Int.reduceNeg, Int.reduceAdd, Int.reduceSub, Int.reduceMul, Int.reduceEq, r32_0, r32_1, r32_m1, b01_0, b01_1, not_true_eq_false, not_false_eq_true, false_implies, true_implies, implies_true, forall_const]
    rw [h1 3 (by omega), ht, sI_I, if_pos ⟨rfl, rfl⟩]
    refine h _ (f0.tr (Fr.sA (by decide) (by decide))) (fun q hq => ?_)
    rw [sI_I]
    unfold upW
    by_cases g : q = 3
    · rw [if_pos ⟨rfl, g⟩, if_pos g]
    · rw [if_neg (fun k => g k.2), if_neg g, h1 q (by omega)]
  | succ j ih =>
    intro S k f0 hL hk h1 h
    have hl := hL
    unfold RLay at hl
    unfold VX11_shed_96
    refine ⟨⟨(by unfold R32; omega), (by unfold R32; omega)⟩, fun _ => by omega, fun c => ?_⟩
    simp only [hl, sI_K, sI_N, sI_R, sI_J, Option.some.injEq, exists_eq_left', true_and, and_true, Int.toNat_zero, Int.reduceToNat, Int.reduceLT, Int.reduceLE, Int.cast_ofNat_Int, forall_eq, ge_iff_le, Int.reduceNeg, Int.reduceAdd, Int.reduceSub, Int.reduceMul, Int.reduceEq, r32_0, r32_1, r32_m1, b01_0, b01_1, not_true_eq_false, not_false_eq_true, false_implies, true_implies, implies_true, forall_const]
    rw [Int.toNat_natCast, f0.arr (o := 3) (by decide) (by decide), hw']
    refine ⟨by omega, by omega, ih (k := k + 1) (f0.tr (Fr.sA (by decide) (by decide))) (by exact hL) (by omega) (fun q hq => ?_) h⟩
    rw [sI_I]
    by_cases g : q = k
    · rw [if_pos ⟨rfl, g⟩, g]
    · rw [if_neg (fun k => g k.2), h1 q (by omega)]
/-- what reading a text leaves -/
def RS (m : Nat) (S S' : MS) : Prop := Fr m (1 :: A0) (6 :: 10 :: B0) S S' ∧ Tbl S' m ∧ S'.I m 6 = 0
theorem c_shed {d m n len : Nat} {tb : Nat → Nat} {S : MS} {Q : Out → MS → Prop} (hd : 9 ≤ d) (hI : RI S m n) (hP : Tp S m tb len)
    (h1 : ∀ f, pText tb len (dr0 (S.I (m+1)) (S.I (m+3))) = .inl f → ∀ S', RS m S S' → S'.I (m+1) = S.I (m+1) → S'.I m 0 = 1 → S'.I m 10 = (f : Nat) → Q (.inl (some (vI 0))) S')
    (h2 : ∀ w', pText tb len (dr0 (S.I (m+1)) (S.I (m+3))) = .inr w' → S.I (m+1) 3 = 8 → ∀ S', RS m S S' → S'.I (m+1) = S.I (m+1) → S'.I m 0 = 2 → S'.I m 10 = -1 → Q (.inl (some (vI 0))) S')
    (h0 : ∀ w', pText tb len (dr0 (S.I (m+1)) (S.I (m+3))) = .inr w' → S.I (m+1) 3 ≠ 8 → ∀ S', RS m S S' → (∀ q, q < 71 → S'.I (m+1) q = upW w' 3 (S.I (m+1) 3 + 1) q) → S'.I m 0 = 0 → S'.I m 10 = -1 → Q (.inl (some (vI (S.I (m+1) 3 + 1)))) S')
    (hw3 : ∀ w', pText tb len (dr0 (S.I (m+1)) (S.I (m+3))) = .inr w' → w' 3 = S.I (m+1) 3) : Mw hX11_shed yX11_shed d [vA m] S Q := by
  have hL := hI.1
  have hg := hI.2.1
  have g3 := hg.2.2.2.1
  obtain ⟨h6, hlen, ht⟩ := hP
  obtain ⟨dd, rfl⟩ : ∃ e, d = e + 1 := ⟨d - 1, by omega⟩
  refine MX11_shed ?_
  have hl := hL
  unfold RLay at hl
  unfold VX11_shed_0
  simp only [hl, sI_K, sI_N, sI_R, sI_J, Option.some.injEq, exists_eq_left', true_and, and_true, Int.toNat_zero, Int.reduceToNat, Int.reduceLT, Int.reduceLE, Int.cast_ofNat_Int, forall_eq, ge_iff_le, Int.reduceNeg, Int.reduceAdd, Int.reduceSub, Int.reduceMul, Int.reduceEq, r32_0, r32_1, r32_m1, b01_0, b01_1, not_true_eq_false, not_false_eq_true, false_implies, true_implies, implies_true, forall_const]
  refine c_uses (by omega) hL (fun S1 f1 a1 a2 a3 a4 => oV_i ⟨72, ?_⟩)
  have hL1 := f1.lay hL
  have hw1 : S1.I (m+1) = S.I (m+1) := f1.arr (by decide) (by decide)
  have hd1 : S1.I (m+3) = S.I (m+3) := f1.arr (by decide) (by decide)
  refine f_sh6 (S0 := S1) 71 (k := 0) Fr.rf hL1 (by omega) (fun q => by rw [if_neg (by omega)]) (fun S2 f2 e2 => ?_)
  rw [hw1, hd1] at e2
  have hL2 := f2.lay hL1
  have hP2 : TP S2 m tb len := ⟨hL2, by rw [f2.fld (by decide), a4, h6], hlen, fun i hi => by rw [f2.arr (by decide) (by decide), f1.arr (by decide) (by decide)]; exact ht i hi⟩
  have hg2 : GW n (dr0 (S.I (m+1)) (S.I (m+3))) := hg.cong (fun q hq => by unfold dr0; rw [if_pos hq])
  refine c_readAll (n := n) (by omega) hP2 e2 hg2 (by rw [f2.fld (by decide), a3]) (fun S3 r f3 hpt => oI_i ?_)
  have hL3 := f3.lay hL2
  have f13 : Fr m [3] [7, 9] S1 S3 := (f2.wk (by decide) (by decide)).tr f3
  have f03 : Fr m [3] [0, 6, 7, 8, 9] S S3 := (f1.wk (by decide) (by decide)).tr (f13.wk (by decide) (by decide))
  have hw3' : S3.I (m+1) = S.I (m+1) := f03.arr (by decide) (by decide)
  have z0 : S3.I m 0 = 0 := by rw [f13.fld (by decide), a1]
  have z6 : S3.I m 6 = 0 := by rw [f13.fld (by decide), a2]
  have T3 := f03.tbl (by decide) (by decide) (by decide) hI.2.2
  cases hx : pText tb len (dr0 (S.I (m+1)) (S.I (m+3))) with
  | inl f =>
    rw [hx] at hpt
    obtain ⟨rfl, k9⟩ := hpt.1 f rfl
    refine ⟨r32_0, fun _ => ⟨hL3.1, ?_⟩, fun c => absurd rfl c⟩
    have fx : Fr m [3] [0, 6, 7, 8, 9, 10] S (S3.setI m 10 (S3.I m 9)) := (f03.wk (by decide) (by decide)).tr (Fr.sB (by decide))
    have Tx := fx.tbl (by decide) (by decide) (by decide) hI.2.2
    unfold VX11_shed_48 VX11_shed_61
    refine ⟨hL3.1, r32_0, fun c => absurd rfl c, fun _ => ⟨hL3.1, t_if (P := True) (by omega) (fx.lay hL) (.y trivial) (fun k => absurd trivial k) (fun _ => oI_i ⟨r32_1, fun _ => ?_, fun c => absurd c (by decide)⟩)⟩⟩
    refine h1 f hx _ ⟨(fx.wk (by decide) (by decide)).tr (Fr.sB (by decide)), Tx.set (by decide) (by decide), ?_⟩ ?_ ?_ ?_
    · rw [sI_I, if_neg (by omega), sI_I, if_neg (by omega)]; exact z6
    · rw [sI_Ia (by omega), sI_Ia (by omega)]; exact hw3'
    · rw [sI_I, if_pos ⟨rfl, rfl⟩]
    · rw [sI_I, if_neg (by omega), sI_I, if_pos ⟨rfl, rfl⟩]; exact k9
  | inr w' =>
    rw [hx] at hpt
    obtain ⟨rfl, k3⟩ := hpt.2 w' rfl
    refine ⟨r32_1, fun c => absurd c (by decide), fun _ => ?_⟩
    have fx : Fr m [3] [0, 6, 7, 8, 9, 10] S (S3.setI m 10 (-1)) := (f03.wk (by decide) (by decide)).tr (Fr.sB (by decide))
    have Tx := fx.tbl (by decide) (by decide) (by decide) hI.2.2
    have hLx := fx.lay hL
    have hwx : (S3.setI m 10 (-1)).I (m+1) = S.I (m+1) := by rw [sI_Ia (by omega)]; exact hw3'
    unfold VX11_shed_48 VX11_shed_61
    refine ⟨hL3.1, r32_1, fun _ => ⟨hL3.1, t_if (P := False) (by omega) hLx (.n id) (fun _ => oI_i ⟨r32_0, fun c => absurd rfl c, fun _ => ?_⟩) (fun k => k.elim)⟩, fun c => absurd c (by decide)⟩
    have hl := hL3
    unfold RLay at hl
    simp only [hl, sI_K, sI_N, sI_R, sI_J, Option.some.injEq, exists_eq_left', true_and, and_true, Int.toNat_zero, Int.reduceToNat, Int.reduceLT, Int.reduceLE, Int.cast_ofNat_Int, forall_eq, ge_iff_le, Int.reduceNeg, Int.reduceAdd, Int.reduceSub, Int.reduceMul, Int.reduceEq, r32_0, r32_1, r32_m1, b01_0, b01_1, not_true_eq_false, not_false_eq_true, false_implies, true_implies, implies_true, forall_const]
    have e3 : S3.I (m+1) 3 = S.I (m+1) 3 := by rw [hw3']
    have e3' : (S3.setI m 10 (-1)).I (m+1) 3 = S.I (m+1) 3 := by rw [hwx]
    rw [e3']
    unfold VX11_shed_85
    refine ⟨⟨(by unfold R32; omega), (by unfold R32; omega)⟩, fun c => ⟨hL3.1, t_if (P := False) (by omega) hLx (.n id) (fun _ => oI_i ⟨r32_0, fun _ => ⟨72, ?_⟩, fun c => absurd rfl c⟩) (fun k => k.elim)⟩, fun c => ⟨hL3.1, t_if (P := True) (by omega) hLx (.y trivial) (fun k => absurd trivial k) (fun _ => oI_i ⟨r32_1, fun c => absurd c (by decide), fun _ => ?_⟩)⟩⟩
    · refine f_sh96 (S0 := S3.setI m 10 (-1)) (w' := w') (t := (S.I (m+1) 3).toNat) (by rw [sI_Ia (by omega)]; exact k3) (by rw [hw3 w' hx]; omega) (by omega) 71 (k := 0) Fr.rf hLx (by omega) (fun q hq => absurd hq (Nat.not_lt_zero q)) (fun S' f4 k4 => ?_)
      rw [show ((S.I (m+1) 3).toNat : Int) = S.I (m+1) 3 by omega] at k4 ⊢
      refine h0 w' hx c S' ⟨(fx.wk (by decide) (by decide)).tr (f4.wk (by decide) (by decide)), f4.tbl (by decide) (by decide) (by decide) Tx, ?_⟩ k4 ?_ ?_
      · rw [f4.fld (by decide), sI_I, if_neg (by omega)]; exact z6
      · rw [f4.fld (by decide), sI_I, if_neg (by omega)]; exact z0
      · rw [f4.fld (by decide), sI_I, if_pos ⟨rfl, rfl⟩]
    · refine h2 w' hx c _ ⟨(fx.wk (by decide) (by decide)).tr (Fr.sB (by decide)), Tx.set (by decide) (by decide), ?_⟩ ?_ ?_ ?_
      · rw [sI_I, if_neg (by omega), sI_I, if_neg (by omega)]; exact z6
      · rw [sI_Ia (by omega)]; exact hwx
      · rw [sI_I, if_pos ⟨rfl, rfl⟩]
      · rw [sI_I, if_neg (by omega), sI_I, if_pos ⟨rfl, rfl⟩]
theorem pAll_ok {tb : Nat → Nat} {len : Nat} : ∀ (j : Nat) {c p n : Nat} {w w' : Nat → Int}, GW n w → p ≤ len → pAll tb len j c w p = .inr w' → (∃ n', GW n' w') ∧ w' 3 = w 3
  | 0, c, p, n, w, w', hg, hp, h => by unfold pAll at h; cases h
  | j + 1, c, p, n, w, w', hg, hp, h => by
    unfold pAll at h
    have en : (w 0).toNat = n := by rw [hg.1.2.2]; rfl
    rw [en] at h
    cases hn : pLine tb len c w n p with
    | inl f => rw [hn] at h; cases h
    | inr q =>
      obtain ⟨w1, q⟩ := q
      rw [hn] at h
      simp only at h
      obtain ⟨⟨n1, g1⟩, a1, a2, a3⟩ := pLine_ok hg hp hn
      by_cases c1 : skb tb len q = len
      · rw [if_pos c1] at h
        cases h
        exact ⟨⟨n1, g1⟩, a3⟩
      · rw [if_neg c1] at h
        have b := skb_le (tb := tb) a2
        by_cases c2 : tb (skb tb len q) = 59
        · rw [if_pos c2] at h
          obtain ⟨b1, b2⟩ := pAll_ok j g1 (by omega) h
          exact ⟨b1, b2.trans a3⟩
        · rw [if_neg c2] at h; cases h
theorem pText_ok {tb : Nat → Nat} {len n : Nat} {w w' : Nat → Int} (hg : GW n w) (h : pText tb len w = .inr w') : (∃ n', GW n' w') ∧ w' 3 = w 3 := by
  unfold pText at h
  by_cases c : skb tb len 0 = len
  · rw [if_pos c] at h
    cases h
    exact ⟨⟨n, hg⟩, rfl⟩
  · rw [if_neg c] at h
    exact pAll_ok 13 hg (skb_le (Nat.zero_le len)).2 h
