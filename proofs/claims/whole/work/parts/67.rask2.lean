/-! count -/
def coin (n : Nat) (w : Nat → Int) : Nat := smB (fun i => prc w (nS w i)) (nN w)
theorem f_c78 {d m n : Nat} {S : MS} {Q : Out → MS → Prop} (hd : 1 ≤ d) (hL : RLay S m) (hg : GW n (S.I (m+1))) (h : Q (.inl (some (vI (coin n (S.I (m+1)) : Nat)))) S) : ∀ (j : Nat) {i : Nat}, i + j = nN (S.I (m+1)) → VX11_count_78 d Q (j + 1) m (smB (fun i => prc (S.I (m+1)) (nS (S.I (m+1)) i)) i : Nat) (i : Nat) S := by
  have g1 := hg.2.1
  have g2 := hg.2.2.1
  intro j
  induction j with
  | zero =>
    intro i hi
    unfold VX11_count_78
    refine ⟨hL.1, c_notes (by omega) hL (oI_i ?_)⟩
    rw [g2.1, show i = nN (S.I (m+1)) by omega]
    exact ⟨⟨(by unfold R32; omega), (by unfold R32; omega)⟩, fun _ => h, fun c => by omega⟩
  | succ j ih =>
    intro i hi
    have a := hg.nt (i := i) (by omega)
    have b := hg.sc a.1.2
    unfold VX11_count_78
    refine ⟨hL.1, c_notes (by omega) hL (oI_i ?_)⟩
    rw [g2.1]
    refine ⟨⟨(by unfold R32; omega), (by unfold R32; omega)⟩, fun _ => by omega, fun c => ⟨hL.1, c_ofNote (i := i) (q := 0) (by omega) hL rfl rfl (by omega) (by decide) (oI_i ⟨hL.1, c_ofScale (i := nS (S.I (m+1)) i) (q := 1) (by omega) hL a.1.1 rfl (by omega) (by decide) (oI_i ?_)⟩)⟩⟩
    rw [show 11 + 3 * nS (S.I (m+1)) i + 1 = 12 + 3 * nS (S.I (m+1)) i by omega, b.2.1.1]
    exact ih (i := i + 1) (by omega)
noncomputable def mrC (n : Nat) (w : Nat → Int) (L : List Nat) : Nat := ct (fun r => fitR n w 0 (mir n r)) L
theorem f_c114 {d m n : Nat} {w : Nat → Int} {L : List Nat} {Q : Out → MS → Prop} (hd : 5 ≤ d) : ∀ (j : Nat) {S : MS} {k : Nat}, RD S m n w L → k + j = L.length → (∀ S', Fr m [7] [] S S' → Q (.inl (some (vI (mrC n w L : Nat)))) S') → VX11_count_114 d Q (j + 1) m (mrC n w (L.take k) : Nat) (k : Nat) S := by
  intro j
  induction j with
  | zero =>
    intro S k hD hk h
    obtain ⟨hL, hw, hg, hT, hK, hrow, hlen⟩ := hD
    have h3 := hg.1.1
    have h7 := hg.1.2.1
    have hf := fct_le h3 h7
    have hl := hL
    unfold RLay at hl
    unfold VX11_count_114
    simp only [hl, sI_K, sI_N, sI_R, sI_J, Option.some.injEq, exists_eq_left', true_and, and_true, Int.toNat_zero, Int.reduceToNat, Int.reduceLT, Int.reduceLE, Int.cast_ofNat_Int, forall_eq, ge_iff_le, Int.reduceNeg, Int.reduceAdd, Int.reduceSub, Int.reduceMul, Int.reduceEq, r32_0, r32_1, r32_m1, b01_0, b01_1, not_true_eq_false, not_false_eq_true, false_implies, true_implies, implies_true, forall_const]
    rw [hK.1]
    refine ⟨⟨(by unfold R32; omega), (by unfold R32; omega)⟩, fun _ => ?_, fun c => by omega⟩
    rw [show L.take k = L by rw [show k = L.length by omega]; exact List.take_length]
    exact h S Fr.rf
  | succ j ih =>
    intro S k hD hk h
    have hD' := hD
    obtain ⟨hL, hw, hg, hT, hK, hrow, hlen⟩ := hD
    have h3 := hg.1.1
    have h7 := hg.1.2.1
    have hf := fct_le h3 h7
    have hl := hL
    unfold RLay at hl
    have hkl : k < L.length := by omega
    have hrk := hrow _ (getD_mem hkl)
    have hm := mir_ok h3 h7 hrk
    unfold VX11_count_114 VX11_count_148
    simp only [hl, sI_K, sI_N, sI_R, sI_J, Option.some.injEq, exists_eq_left', true_and, and_true, Int.toNat_zero, Int.reduceToNat, Int.reduceLT, Int.reduceLE, Int.cast_ofNat_Int, forall_eq, ge_iff_le, Int.reduceNeg, Int.reduceAdd, Int.reduceSub, Int.reduceMul, Int.reduceEq, r32_0, r32_1, r32_m1, b01_0, b01_1, not_true_eq_false, not_false_eq_true, false_implies, true_implies, implies_true, forall_const]
    rw [hK.1]
    refine ⟨⟨(by unfold R32; omega), (by unfold R32; omega)⟩, fun _ => by omega, fun c => c_rowAt (r := 0) (p := k) (by omega) hL rfl rfl (by omega) (oI_i ⟨hL.1, ?_⟩)⟩
    rw [hK.2 k hkl]
    refine c_mirrorOf (n := n) (by omega) hL h3 h7 hT rfl hrk (oI_i ⟨hL.1, c_fitsAll (n := n) (wo := 0) (by omega) hL (by rw [hw]; exact hg) hT rfl rfl hm.1 (by decide) (fun S2 q f2 hq => oI_i ?_)⟩)
    rw [hw, ← fitR_iff] at hq
    have D2 := hD'.fr f2 (by decide) (by decide) (by decide) (by decide) (by decide) (by decide)
    have ih' := ih (S := S2) (k := k + 1) D2 (by omega) (fun S' f => h S' (f2.tr f))
    unfold mrC at ih' ⊢
    rw [ct_s hkl] at ih'
    refine ⟨hq.r, fun c2 => ?_, fun c2 => ?_⟩
    · rw [if_neg (by rcases hq with ⟨rfl, -⟩ | ⟨-, hq⟩; omega; exact hq)] at ih'
      exact ih'
    · rw [if_pos (by rcases hq with ⟨-, hq⟩ | ⟨rfl, -⟩; exact hq; omega)] at ih'
      exact ih'
noncomputable def fnC (n : Nat) (w : Nat → Int) : Nat := cntB (fun i => !(fitN n w (rW w n) i)) (nN w)
theorem f_c164 {d m n : Nat} {S : MS} {Q : Out → MS → Prop} (hd : 3 ≤ d) (hL : RLay S m) (hg : GW n (S.I (m+1))) (hT : Tb S m n) (h : Q (.inl (some (vI (fnC n (S.I (m+1)) : Nat)))) S) : ∀ (j : Nat) {i : Nat}, i + j = nN (S.I (m+1)) → VX11_count_164 d Q (j + 1) m (cntB (fun i => !(fitN n (S.I (m+1)) (rW (S.I (m+1)) n) i)) i : Nat) (i : Nat) S := by
  have g2 := hg.2.2.1
  have h3 := hg.1.1
  have h7 := hg.1.2.1
  intro j
  induction j with
  | zero =>
    intro i hi
    unfold VX11_count_164
    refine ⟨hL.1, c_notes (by omega) hL (oI_i ?_)⟩
    rw [g2.1, show i = nN (S.I (m+1)) by omega]
    exact ⟨⟨(by unfold R32; omega), (by unfold R32; omega)⟩, fun _ => h, fun c => by omega⟩
  | succ j ih =>
    intro i hi
    unfold VX11_count_164 VX11_count_190
    refine ⟨hL.1, c_notes (by omega) hL (oI_i ?_)⟩
    rw [g2.1]
    have ih' := ih (i := i + 1) (by omega)
    unfold cntB at ih'
    refine ⟨⟨(by unfold R32; omega), (by unfold R32; omega)⟩, fun _ => by omega, fun c => ⟨hL.1, c_trueRow (n := n) (by omega) hL hg hT (oI_i ⟨hL.1, c_fitsNote (n := n) (i := i) (by omega) hL hg hT rfl rfl (rW_lt h3 h7) (by omega) (fun q hq => oI_i ⟨hq.r, fun c2 => ?_, fun c2 => ?_⟩)⟩)⟩⟩
    · rw [if_pos (by rcases hq with ⟨rfl, -⟩ | ⟨-, hq⟩; omega; simpa using hq)] at ih'
      exact ih'
    · rw [if_neg (by rcases hq with ⟨-, hq⟩ | ⟨rfl, -⟩; simp [hq]; omega)] at ih'
      exact ih'
noncomputable def A_count (n : Nat) (w : Nat → Int) (x : Int) : Int := if x = 0 then w 0 else if x = 1 then w 1 else if x = 2 then w 2 else if x = 3 then w 3 else if x = 4 then (coin n w : Int) else if x = 5 then (mrC n w (rowsL n w 0) : Int) else if x = 6 then (fnC n w : Int) else -1
theorem c_count {d m n : Nat} {S : MS} {Q : Out → MS → Prop} {x : Int} (hd : 7 ≤ d) (hI : RI S m n) (hx : R32 x) (h : ∀ S', RQ m S S' → S'.I m 0 = 0 → Q (.inl (some (vI (A_count n (S.I (m+1)) x)))) S') : Mw hX11_count yX11_count d [vA m, vI x] S Q := by
  have hL := hI.1
  have hg := hI.2.1
  have e0 : (S.setI m 0 0).I (m+1) = S.I (m+1) := sI_Ia (by omega)
  have q0 : RQ m S (S.setI m 0 0) := RQ.s0 hI.2.2
  have t0 : (S.setI m 0 0).I m 0 = 0 := by rw [sI_I, if_pos ⟨rfl, rfl⟩]
  obtain ⟨dd, rfl⟩ : ∃ e, d = e + 1 := ⟨d - 1, by omega⟩
  refine MX11_count ?_
  have hl := hL
  unfold RLay at hl
  unfold VX11_count_0
  simp only [hl, sI_K, sI_N, sI_R, sI_J, Option.some.injEq, exists_eq_left', true_and, and_true, Int.toNat_zero, Int.reduceToNat, Int.reduceLT, Int.reduceLE, Int.cast_ofNat_Int, forall_eq, ge_iff_le, Int.reduceNeg, Int.reduceAdd, Int.reduceSub, Int.reduceMul, Int.reduceEq, r32_0, r32_1, r32_m1, b01_0, b01_1, not_true_eq_false, not_false_eq_true, false_implies, true_implies, implies_true, forall_const]
  refine ⟨hx, fun c => ?_, fun c => ?_, fun c => ?_, fun c => ?_, fun c => ?_, fun c => ?_, fun c => ?_, fun c => ?_⟩
  · refine c_things (by omega) (by exact hL) (oI_i ?_)
    rw [e0]
    have := h _ q0 t0
    unfold A_count at this
    rw [if_pos c] at this
    exact this
  · rw [e0]
    have := h _ q0 t0
    unfold A_count at this
    rw [if_neg (by omega), if_pos c] at this
    exact this
  · refine c_notes (by omega) (by exact hL) (oI_i ?_)
    rw [e0]
    have := h _ q0 t0
    unfold A_count at this
    rw [if_neg (by omega), if_neg (by omega), if_pos c] at this
    exact this
  · rw [e0]
    have := h _ q0 t0
    unfold A_count at this
    rw [if_neg (by omega), if_neg (by omega), if_neg (by omega), if_pos c] at this
    exact this
  · have := h _ q0 t0
    unfold A_count at this
    rw [if_neg (by omega), if_neg (by omega), if_neg (by omega), if_neg (by omega), if_pos c, ← e0] at this
    exact ⟨_, f_c78 (n := n) (by omega) (by exact hL) (by rw [e0]; exact hg) this _ (i := 0) (Nat.zero_add _)⟩
  · refine l_lv (n := n) (by omega) hI (fun S1 q1 t1 d1 => oV_i ⟨_, f_c114 (n := n) (w := S.I (m+1)) (L := rowsL n (S.I (m+1)) 0) (by omega) _ (k := 0) d1 (Nat.zero_add _) (fun S' f => ?_)⟩)
    have := h S' (q1.fr f (by decide) (by decide) (by decide) (by decide) (by decide)) (by rw [f.fld (by decide), t1])
    unfold A_count at this
    rw [if_neg (by omega), if_neg (by omega), if_neg (by omega), if_neg (by omega), if_neg (by omega), if_pos c] at this
    exact this
  · refine c_fills (n := n) (by omega) (by exact hL) q0.2 hg.1.1 hg.1.2.1 (by rw [e0]; exact hg.1.2.2) (fun S1 f1 T1 => oV_i ?_)
    have e1 : S1.I (m+1) = S.I (m+1) := by rw [f1.arr (by decide) (by decide), e0]
    have := h S1 ⟨(q0.1.tr (f1.wk (by decide) (by decide))), T1.l hg.1.2.1⟩ (by rw [f1.fld (by decide), t0])
    unfold A_count at this
    rw [if_neg (by omega), if_neg (by omega), if_neg (by omega), if_neg (by omega), if_neg (by omega), if_neg (by omega), if_pos c, ← e1] at this
    exact ⟨_, f_c164 (n := n) (by omega) (f1.lay (by exact hL)) (by rw [e1]; exact hg) T1 this _ (i := 0) (Nat.zero_add _)⟩
  · have := h _ q0 t0
    unfold A_count at this
    rw [if_neg (by omega), if_neg (by omega), if_neg (by omega), if_neg (by omega), if_neg (by omega), if_neg (by omega), if_neg (by omega)] at this
    exact this
/-! a tree: the way of the tape's bytes -/
/-- rows and the next set, or no way -/
noncomputable def treF (n kn : Nat) (tb : Nat → Nat) : Nat → Nat → List Nat → Option (List Nat)
  | 0, _, L => some L
  | j + 1, k, L => cD (0 ≤ lf n kn L ∧ (0 ≤ sB (tb k) - 48 ∧ sB (tb k) - 48 < (n : Int)) ∧ (lf n kn L).toNat.testBit (sB (tb k) - 48).toNat = true) (treF n kn tb j (k + 1) (prt n kn (lf n kn L).toNat (sB (tb k) - 48).toNat L)) none
theorem f_tree {d m n kn len : Nat} {tb : Nat → Nat} {w : Nat → Int} {Q : Out → MS → Prop} {bl : Int} (hd : 5 ≤ d) (hg : GW n w) (hk : kn < 3) (hb : B01 bl) (hlen : len ≤ 400) : ∀ (j : Nat) {S : MS} {k : Nat} {L : List Nat}, RD S m n w L → Tbl S m → S.I m 0 = 0 → S.I m 8 = (len : Int) → (∀ i, i < len → tb i < 256 ∧ S.I (m+4) i = sB (tb i)) → k + j = len →
    (∀ L' S', treF n kn tb j k L = some L' → RQ m S S' → S'.I m 0 = 0 → Q (.inl (some (vI (if bl = 0 then (L'.length : Int) else lf n kn L')))) S') → (treF n kn tb j k L = none → ∀ S', RQ m S S' → S'.I m 0 = 2 → Q (.inl (some (vI 0))) S') → VX11_tree_41 d Q (j + 1) m bl (kn : Nat) (lf n kn L) (k : Nat) S := by
  have h3 := hg.1.1
  have h7 := hg.1.2.1
  have p7 := p2_7 h7
  intro j
  induction j with
  | zero =>
    intro S k L hD hTl h0 h8 ht hk2 h1 h2
    have hlen2 := hD.2.2.2.2.2.2
    have hK := hD.2.2.2.2.1
    have hl := hD.1
    unfold RLay at hl
    unfold VX11_tree_41
    simp only [hl, sI_K, sI_N, sI_R, sI_J, Option.some.injEq, exists_eq_left', true_and, and_true, Int.toNat_zero, Int.reduceToNat, Int.reduceLT, Int.reduceLE, Int.cast_ofNat_Int, forall_eq, ge_iff_le, Int.reduceNeg, Int.reduceAdd, Int.reduceSub, Int.reduceMul, Int.reduceEq, r32_0, r32_1, r32_m1, b01_0, b01_1, not_true_eq_false, not_false_eq_true, false_implies, true_implies, implies_true, forall_const]
    rw [h8, hK.1]
    have := h1 L S rfl (RQ.rf hTl) h0
    refine ⟨⟨(by unfold R32; omega), (by unfold R32; omega)⟩, fun _ => ⟨b01_r hb, fun c => ?_, fun c => ?_⟩, fun c => by omega⟩
    · rw [if_pos c] at this; exact this
    · rw [if_neg c] at this; exact this
  | succ j ih =>
    intro S k L hD hTl h0 h8 ht hk2 h1 h2
    have hL := hD.1
    have hw := hD.2.1
    have hlen2 := hD.2.2.2.2.2.2
    have t1 := ht k (by omega)
    have t2 := sB_R t1.1
    have hr := lf_n (n := n) (kn := kn) (L := L) h7 hlen2
    have hl := hL
    unfold RLay at hl
    have bad : ¬ (0 ≤ lf n kn L ∧ (0 ≤ sB (tb k) - 48 ∧ sB (tb k) - 48 < (n : Int)) ∧ (lf n kn L).toNat.testBit (sB (tb k) - 48).toNat = true) → VX11_tree_87 d (VX11_tree_41 d Q (j + 1)) Q m bl (kn : Nat) (lf n kn L) (k : Nat) (sB (tb k) - 48) m S := by
      intro c
      unfold VX11_tree_87 VX11_tree_92
      refine ⟨hL.1, t_if (P := True) (by omega) hL (.y trivial) (fun k => absurd trivial k) (fun _ => oI_i ?_)⟩
      simp only [hl, sI_K, sI_N, sI_R, sI_J, Option.some.injEq, exists_eq_left', true_and, and_true, Int.toNat_zero, Int.reduceToNat, Int.reduceLT, Int.reduceLE, Int.cast_ofNat_Int, forall_eq, ge_iff_le, Int.reduceNeg, Int.reduceAdd, Int.reduceSub, Int.reduceMul, Int.reduceEq, r32_0, r32_1, r32_m1, b01_0, b01_1, not_true_eq_false, not_false_eq_true, false_implies, true_implies, implies_true, forall_const]
      exact h2 (by unfold treF; rw [cD_n c]) _ (RQ.s0 hTl) (by rw [sI_I, if_pos ⟨rfl, rfl⟩])
    unfold VX11_tree_41
    simp only [hl, sI_K, sI_N, sI_R, sI_J, Option.some.injEq, exists_eq_left', true_and, and_true, Int.toNat_zero, Int.reduceToNat, Int.reduceLT, Int.reduceLE, Int.cast_ofNat_Int, forall_eq, ge_iff_le, Int.reduceNeg, Int.reduceAdd, Int.reduceSub, Int.reduceMul, Int.reduceEq, r32_0, r32_1, r32_m1, b01_0, b01_1, not_true_eq_false, not_false_eq_true, false_implies, true_implies, implies_true, forall_const]
    rw [h8, Int.toNat_natCast, t1.2]
    refine ⟨⟨(by unfold R32; omega), (by unfold R32; omega)⟩, fun _ => by omega, fun c => ⟨by omega, (by unfold R32; omega), fun c2 => bad (by omega), fun c2 => c_noThing (by omega) hL (by unfold R32; omega) (by rw [hw, hg.1.2.2]; omega) (fun r hr2 => oI_i ⟨hr2.r, fun c3 => bad ?_, fun c3 => ?_⟩)⟩⟩
    · rw [hw, hg.1.2.2] at hr2
      rcases hr2 with ⟨-, hr2⟩ | ⟨rfl, -⟩ <;> omega
    · rw [hw, hg.1.2.2] at hr2
      have c4 : 0 ≤ sB (tb k) - 48 ∧ sB (tb k) - 48 < (n : Int) := by rcases hr2 with ⟨rfl, -⟩ | ⟨-, hr2⟩ <;> omega
      have eb : iAnd (iShr (lf n kn L) (sB (tb k) - 48)) 1 = if (lf n kn L).toNat.testBit (sB (tb k) - 48).toNat then 1 else 0 := by
        have := iBit_n (a := (lf n kn L).toNat) (k := (sB (tb k) - 48).toNat) (by omega) (by omega)
        rw [show ((lf n kn L).toNat : Int) = lf n kn L by omega, show ((sB (tb k) - 48).toNat : Int) = sB (tb k) - 48 by omega] at this
        exact this
      rw [eb]
      refine ⟨r32_ite, fun c5 => ?_, fun c5 => bad (fun k => ?_)⟩
      · have hbt : (lf n kn L).toNat.testBit (sB (tb k) - 48).toNat = true := by
          by_cases g : (lf n kn L).toNat.testBit (sB (tb k) - 48).toNat = true
          · exact g
          · rw [if_neg g] at c5; exact absurd rfl c5
        obtain ⟨-, e2, e3, e4⟩ := lf_ok h7 (show 0 ≤ lf n kn L by omega)
        have hx := (cmb_k (kn := kn) h7).2 _ e3
        have et : treF n kn tb (j + 1) k L = treF n kn tb j (k + 1) (prt n kn (lf n kn L).toNat (sB (tb k) - 48).toNat L) := by
          show cD _ _ _ = _
          rw [cD_y ⟨by omega, c4, hbt⟩]
        unfold VX11_tree_92
        refine ⟨hL.1, t_if (P := False) (by omega) hL (.n id) (fun _ => oI_i ?_) (fun k => k.elim)⟩
        simp only [hl, sI_K, sI_N, sI_R, sI_J, Option.some.injEq, exists_eq_left', true_and, and_true, Int.toNat_zero, Int.reduceToNat, Int.reduceLT, Int.reduceLE, Int.cast_ofNat_Int, forall_eq, ge_iff_le, Int.reduceNeg, Int.reduceAdd, Int.reduceSub, Int.reduceMul, Int.reduceEq, r32_0, r32_1, r32_m1, b01_0, b01_1, not_true_eq_false, not_false_eq_true, false_implies, true_implies, implies_true, forall_const]
        refine c_parts (n := n) (l := 0) (kn := kn) (x := (lf n kn L).toNat) (t := (sB (tb k) - 48).toNat) (by omega) hL h3 h7 hD.2.2.2.1 hD.lv rfl rfl e2 (by omega) hk hx.1 hx.2 (by decide) (by omega) (fun S2 f2 o2 v2 => oV_i ⟨(f2.lay hL).1, ?_⟩)
        refine c_takesNext (n := n) (by omega) (f2.lay hL) h3 h7 v2 (fun S3 f3 v3 => oV_i ⟨(f3.lay (f2.lay hL)).1, ?_⟩)
        have f23 : Fr m [8, 9] [] S S3 := f2.tr f3
        have hL3 := f23.lay hL
        have hw3 : S3.I (m+1) = w := by rw [f23.arr (by decide) (by decide), hw]
        refine c_laidFor (n := n) (l := 0) (kn := kn) (by omega) hL3 (by rw [hw3]; exact hg) (f23.tb (by decide) (by decide) (by decide) hD.2.2.2.1) v3 rfl rfl hk (fun S4 f4 => oI_i ?_)
        have f24 : Fr m [8, 9, 12, 13, 14] [23, 25, 26, 27] S S4 := (f23.wk (by decide) (by decide)).tr (f4.wk (by decide) (by decide))
        have v4 := f4.lv (by decide) (by decide) v3
        have D4 : RD S4 m n w (prt n kn (lf n kn L).toNat (sB (tb k) - 48).toNat L) := ⟨f24.lay hL, by rw [f24.arr (by decide) (by decide), hw], hg, f24.tb (by decide) (by decide) (by decide) hD.2.2.2.1, v4.1, v4.2.1, v4.2.2.1⟩
        have q4 : RQ m S S4 := ⟨f24.wk (by decide) (by decide), f24.tbl (by decide) (by decide) (by decide) hTl⟩
        refine ih (k := k + 1) D4 q4.2 (by rw [f24.fld (by decide)]; exact h0) (by rw [f24.fld (by decide)]; exact h8) (fun i hi => by rw [f24.arr (by decide) (by decide)]; exact ht i hi) (by omega) (fun L' S' a1 a2 a3 => h1 L' S' (by rw [et]; exact a1) (q4.tr a2) a3) (fun a1 S' a2 a3 => h2 (by rw [et]; exact a1) S' (q4.tr a2) a3)
      · rw [if_pos k.2.2] at c5
        omega
theorem l_leaves2 {d m n : Nat} {S : MS} {Q : Out → MS → Prop} (hd : 6 ≤ d) (hI : RI S m n) (h : ∀ S', Fr m [6, 7, 8, 9] [13, 14] S S' → RQ m S S' → RD S' m n (S.I (m+1)) (rowsL n (S.I (m+1)) 0) → Q (.inl none) S') : Mw hX11_leaves yX11_leaves d [vA m] S Q := by
  refine c_leaves (n := n) hd hI.1 hI.2.1 hI.2.2 (fun S' f t k => ?_)
  have hg := hI.2.1
  exact h S' f ⟨f.wk (by decide) (by decide), t.l hg.1.2.1⟩ ⟨f.lay hI.1, f.arr (by decide) (by decide), hg, t, k, rowsL_ok, rowsL_len hg.1.1 hg.1.2.1⟩
noncomputable def A_tree (n : Nat) (w : Nat → Int) (tb : Nat → Nat) (len : Nat) (s bl : Int) : Int × Int := if 0 ≤ s ∧ s < (sN w : Int) then (match treF n (kd w s.toNat) tb len 0 (rowsL n w 0) with | none => (2, 0) | some L => (0, if bl = 0 then (L.length : Int) else lf n (kd w s.toNat) L)) else (1, 0)
theorem c_tree {d m n len : Nat} {tb : Nat → Nat} {S : MS} {Q : Out → MS → Prop} {s bl : Int} (hd : 7 ≤ d) (hI : RI S m n) (hP : Tp S m tb len) (hs : R32 s) (hb : B01 bl) (h : ∀ S', RT m S S' → S'.I m 0 = (A_tree n (S.I (m+1)) tb len s bl).1 → Q (.inl (some (vI (A_tree n (S.I (m+1)) tb len s bl).2))) S') : Mw hX11_tree yX11_tree d [vA m, vI s, vI bl] S Q := by
  have hL := hI.1
  have hg := hI.2.1
  have g1 := hg.2.1
  obtain ⟨h6, hlen, ht⟩ := hP
  obtain ⟨dd, rfl⟩ : ∃ e, d = e + 1 := ⟨d - 1, by omega⟩
  refine MX11_tree ?_
  have hl := hL
  unfold RLay at hl
  unfold VX11_tree_0
  simp only [hl, sI_K, sI_N, sI_R, sI_J, Option.some.injEq, exists_eq_left', true_and, and_true, Int.toNat_zero, Int.reduceToNat, Int.reduceLT, Int.reduceLE, Int.cast_ofNat_Int, forall_eq, ge_iff_le, Int.reduceNeg, Int.reduceAdd, Int.reduceSub, Int.reduceMul, Int.reduceEq, r32_0, r32_1, r32_m1, b01_0, b01_1, not_true_eq_false, not_false_eq_true, false_implies, true_implies, implies_true, forall_const]
  refine c_uses (by omega) hL (fun S1 f1 a1 a2 a3 a4 => oV_i ⟨(f1.lay hL).1, ?_⟩)
  have hL1 := f1.lay hL
  have hw1 : S1.I (m+1) = S.I (m+1) := f1.arr (by decide) (by decide)
  have r1 : RT m S S1 := ⟨f1.wk (by decide) (by decide), f1.tbl (by decide) (by decide) (by decide) hI.2.2, a2⟩
  refine c_noScale (by omega) hL1 hs (by rw [hw1, g1.1]; omega) (fun r hr => oI_i ⟨hL1.1, t_if (by omega) hL1 hr (fun c => oI_i ?_) (fun c => oI_i ?_)⟩)
  · rw [hw1, g1.1] at c
    have c' : 0 ≤ s ∧ s < (sN (S.I (m+1)) : Int) := Classical.byContradiction c
    have b := hg.sc (s := s.toNat) (by omega)
    have hl := hL1
    unfold RLay at hl
    simp only [hl, sI_K, sI_N, sI_R, sI_J, Option.some.injEq, exists_eq_left', true_and, and_true, Int.toNat_zero, Int.reduceToNat, Int.reduceLT, Int.reduceLE, Int.cast_ofNat_Int, forall_eq, ge_iff_le, Int.reduceNeg, Int.reduceAdd, Int.reduceSub, Int.reduceMul, Int.reduceEq, r32_0, r32_1, r32_m1, b01_0, b01_1, not_true_eq_false, not_false_eq_true, false_implies, true_implies, implies_true, forall_const]
    refine c_ofScale (i := s.toNat) (q := 0) (by omega) hL1 (by omega) rfl (by omega) (by decide) (oI_i ⟨hL1.1, ?_⟩)
    rw [hw1]
    refine l_leaves2 (n := n) (by omega) (r1.ri hI) (fun S2 f2 q2 d2 => oV_i ⟨d2.1.1, ?_⟩)
    have t2 : S2.I m 0 = S1.I m 0 := f2.fld (by decide)
    rw [hw1] at d2
    refine c_laidFor (n := n) (l := 0) (kn := kd (S.I (m+1)) s.toNat) (by omega) d2.1 (by rw [d2.2.1]; exact hg) d2.2.2.2.1 d2.lv rfl b.1.1 b.1.2 (fun S3 f3 => oI_i ⟨len + 1, ?_⟩)
    have d3 := d2.fr f3 (by decide) (by decide) (by decide) (by decide) (by decide) (by decide)
    have q3 : RQ m S1 S3 := q2.fr f3 (by decide) (by decide) (by decide) (by decide) (by decide)
    rw [show S.I (m+1) (11 + 3 * s.toNat + 0) = ((kd (S.I (m+1)) s.toNat : Nat) : Int) from b.1.1]
    have e23 : S3.I m 8 = S1.I m 8 := by rw [f3.fld (by decide), f2.fld (by decide)]
    refine f_tree (n := n) (kn := kd (S.I (m+1)) s.toNat) (len := len) (tb := tb) (w := S.I (m+1)) (by omega) hg b.1.2 hb hlen len (k := 0) (L := rowsL n (S.I (m+1)) 0) d3 q3.2 (by rw [f3.fld (by decide), t2, a1]) (by rw [e23, a4, h6]) (fun i hi => ?_) (by omega) (fun L' S' e1 q4 t4 => ?_) (fun e1 S' q4 t4 => ?_)
    · rw [q3.1.arr (by decide) (by decide), f1.arr (by decide) (by decide)]
      exact ht i hi
    · exact fin3 h (by unfold A_tree; rw [if_pos c', e1]) (RQ.t (RQ.t r1 q3) q4) t4
    · exact fin3 h (by unfold A_tree; rw [if_pos c', e1]) (RQ.t (RQ.t r1 q3) q4) t4
  · rw [hw1, g1.1] at c
    have hl := hL1
    unfold RLay at hl
    simp only [hl, sI_K, sI_N, sI_R, sI_J, Option.some.injEq, exists_eq_left', true_and, and_true, Int.toNat_zero, Int.reduceToNat, Int.reduceLT, Int.reduceLE, Int.cast_ofNat_Int, forall_eq, ge_iff_le, Int.reduceNeg, Int.reduceAdd, Int.reduceSub, Int.reduceMul, Int.reduceEq, r32_0, r32_1, r32_m1, b01_0, b01_1, not_true_eq_false, not_false_eq_true, false_implies, true_implies, implies_true, forall_const]
    exact fin3 h (by unfold A_tree; rw [if_neg c]) (RQ.t r1 (RQ.s0 r1.2.1)) (by rw [sI_I, if_pos ⟨rfl, rfl⟩])
