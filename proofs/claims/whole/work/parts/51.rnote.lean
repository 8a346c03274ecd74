/-! questions on the notes -/
theorem len_cnt (p : Nat → Bool) : ∀ r, ((List.range r).filter p).length = cntB p r
  | 0 => rfl
  | r + 1 => by
    rw [rng_s, List.length_append, len_cnt p r]
    show _ = cntB p r + _
    congr 1
    split <;> rfl
theorem rows_ex {n : Nat} {w : Nat → Int} {wo : Nat} : 0 < (rowsL n w wo).length ↔ ∃ r, r < fct n ∧ FitA n w r wo := by
  unfold rowsL
  constructor
  · intro h
    obtain ⟨r, hr⟩ := List.exists_mem_of_length_pos h
    rw [List.mem_filter, List.mem_range] at hr
    exact ⟨r, hr.1, fitR_iff.mp hr.2⟩
  · rintro ⟨r, h1, h2⟩
    exact List.length_pos_of_mem (List.mem_filter.mpr ⟨List.mem_range.mpr h1, fitR_iff.mpr h2⟩)
theorem f_hasRows {d m n wo : Nat} {Q : Out → MS → Prop} {w : Nat → Int} (hd : 5 ≤ d) (hg : GW n w) (hwo : wo < 2147483648) : ∀ (j : Nat) {S : MS} {r : Nat} {q : Int}, RLay S m → S.I (m+1) = w → Tb S m n → r + j = fct n → BI q (∃ k, k < r ∧ FitA n w k wo) →
    (∀ S' q, Fr m [7] [] S S' → Tb S' m n → BI q (0 < (rowsL n w wo).length) → Q (.inl (some (vI q))) S') → VX11_hasRows_8 d Q (j + 1) m (wo : Nat) q (r : Nat) S := by
  have hg' := hg
  obtain ⟨⟨h3, h7, h0⟩, -⟩ := hg
  have hf := fct_le h3 h7
  intro j
  induction j with
  | zero =>
    intro S r q hL hw hT hr hq h
    have hl := hL
    unfold RLay at hl
    unfold VX11_hasRows_8 VX11_hasRows_33
    simp only [hl, sI_K, sI_N, sI_R, sI_J, Option.some.injEq, exists_eq_left', true_and, and_true, Int.toNat_zero, Int.reduceToNat, Int.reduceLT, Int.reduceLE, Int.cast_ofNat_Int, forall_eq, ge_iff_le, Int.reduceNeg, Int.reduceAdd, Int.reduceSub, Int.reduceMul, Int.reduceEq, r32_0, r32_1, r32_m1, b01_0, b01_1, not_true_eq_false, not_false_eq_true, false_implies, true_implies, implies_true, forall_const]
    rw [hT.2.1]
    refine ⟨⟨(by unfold R32; omega), (by unfold R32; omega)⟩, fun _ => ⟨hq.b, h S q Fr.rf hT ?_⟩, fun c => by omega⟩
    rw [show r = fct n by omega] at hq
    unfold BI at hq ⊢
    rw [rows_ex]
    exact hq
  | succ j ih =>
    intro S r q hL hw hT hr hq h
    have hl := hL
    unfold RLay at hl
    unfold VX11_hasRows_8 VX11_hasRows_33
    simp only [hl, sI_K, sI_N, sI_R, sI_J, Option.some.injEq, exists_eq_left', true_and, and_true, Int.toNat_zero, Int.reduceToNat, Int.reduceLT, Int.reduceLE, Int.cast_ofNat_Int, forall_eq, ge_iff_le, Int.reduceNeg, Int.reduceAdd, Int.reduceSub, Int.reduceMul, Int.reduceEq, r32_0, r32_1, r32_m1, b01_0, b01_1, not_true_eq_false, not_false_eq_true, false_implies, true_implies, implies_true, forall_const]
    rw [hT.2.1]
    refine ⟨⟨(by unfold R32; omega), (by unfold R32; omega)⟩, fun _ => by omega, fun c => ⟨hq.r, fun c2 => ⟨hq.b, h S q Fr.rf hT ?_⟩, fun c2 => c_fitsAll (n := n) (r := r) (wo := wo) (by omega) hL (by rw [hw]; exact hg') hT rfl rfl (by omega) hwo (fun S1 q1 f1 hq1 => oI_i ?_)⟩⟩
    · rcases hq with ⟨rfl, k, k1, k2⟩ | ⟨rfl, -⟩
      · exact .y (rows_ex.mpr ⟨k, by omega, k2⟩)
      · omega
    · rw [hw] at hq1
      refine ih (r := r + 1) (f1.lay hL) ((f1.arr (by decide) (by decide)).trans hw) (f1.tb (by decide) (by decide) (by decide) hT) (by omega) ?_ (fun S' q' k1 k2 k3 => h S' q' (f1.tr k1) k2 k3)
      have hn : ¬ ∃ k, k < r ∧ FitA n w k wo := by
        rcases hq with ⟨rfl, -⟩ | ⟨-, hq⟩
        · omega
        · exact hq
      rcases hq1 with ⟨rfl, k1⟩ | ⟨rfl, k1⟩
      · exact .y ⟨r, by omega, k1⟩
      · refine .n (fun ⟨k, a, b⟩ => ?_)
        rcases Nat.lt_or_ge k r with g | g
        · exact hn ⟨k, g, b⟩
        · rw [show k = r by omega] at b
          exact k1 b
theorem c_hasRows {d m n wo : Nat} {S : MS} {Q : Out → MS → Prop} {x : Int} (hd : 6 ≤ d) (hL : RLay S m) (hg : GW n (S.I (m+1))) (hT : Tbl S m) (e : x = (wo : Int)) (hwo : wo < 2147483648) (h : ∀ S' q, Fr m [6, 7] [13, 14] S S' → Tb S' m n → BI q (0 < (rowsL n (S.I (m+1)) wo).length) → Q (.inl (some (vI q))) S') : Mw hX11_hasRows yX11_hasRows d [vA m, vI x] S Q := by
  subst e
  have hg' := hg
  obtain ⟨⟨h3, h7, h0⟩, -⟩ := hg
  obtain ⟨dd, rfl⟩ : ∃ e, d = e + 1 := ⟨d - 1, by omega⟩
  refine MX11_hasRows ?_
  have hl := hL
  unfold RLay at hl
  unfold VX11_hasRows_0
  simp only [hl, sI_K, sI_N, sI_R, sI_J, Option.some.injEq, exists_eq_left', true_and, and_true, Int.toNat_zero, Int.reduceToNat, Int.reduceLT, Int.reduceLE, Int.cast_ofNat_Int, forall_eq, ge_iff_le, Int.reduceNeg, Int.reduceAdd, Int.reduceSub, Int.reduceMul, Int.reduceEq, r32_0, r32_1, r32_m1, b01_0, b01_1, not_true_eq_false, not_false_eq_true, false_implies, true_implies, implies_true, forall_const]
  refine c_fills (n := n) (by omega) hL hT h3 h7 h0 (fun S1 f1 t1 => oV_i ⟨_, f_hasRows (w := S.I (m+1)) (n := n) (by omega) hg' hwo (fct n) (r := 0) (f1.lay hL) (f1.arr (by decide) (by decide)) t1 (by omega) (.n (fun ⟨k, a, _⟩ => absurd a (Nat.not_lt_zero k))) (fun S' q' k1 k2 k3 => h S' q' (f1.wk (by decide) (by decide) |>.tr (k1.wk (by decide) (by decide))) k2 k3)⟩)
theorem or_msk {p : Nat → Bool} {k : Nat} (hk : k < 31) {v : Int} (hv : v = if p k then ((2 ^ k : Nat) : Int) else 0) : iOr (mskN p k : Nat) v = (mskN p (k + 1) : Nat) := by
  have h1 := mskN_lt p k
  have h2 : 2 ^ k ≤ 2 ^ 30 := Nat.pow_le_pow_right (by decide) (by omega)
  have e : v = ((if p k then 2 ^ k else 0 : Nat) : Int) := by rw [hv]; split <;> rfl
  have h3 : (if p k then 2 ^ k else 0 : Nat) ≤ 2 ^ 30 := by split <;> omega
  rw [e, iOr_n (by omega) (by omega)]
  rfl
noncomputable def dc (P : Prop) : Bool := @decide P (Classical.propDecidable P)
theorem dc_iff {P : Prop} : dc P = true ↔ P := by
  unfold dc
  exact @decide_eq_true_iff P (Classical.propDecidable P)
theorem dc_y {P : Prop} (h : P) : dc P = true := dc_iff.mpr h
theorem dc_n {P : Prop} (h : ¬ P) : dc P = false := by
  cases e : dc P
  · rfl
  · exact absurd (dc_iff.mp e) h
noncomputable def A_wrongly (n : Nat) (w : Nat → Int) : Nat := mskN (fun i => decide (0 < (rowsL n w (2 ^ i)).length)) (nN w)
theorem f_wrongly {d m n : Nat} {Q : Out → MS → Prop} {w : Nat → Int} (hd : 6 ≤ d) (hg : GW n w) : ∀ (j : Nat) {S : MS} {i : Nat}, RLay S m → S.I (m+1) = w → Tbl S m → i + j = nN w →
    (∀ S', Fr m [6, 7] [13, 14] S S' → Tbl S' m → Q (.inl (some (vI (A_wrongly n w : Nat)))) S') → VX11_wrongly_9 d Q (j + 1) m (mskN (fun i => decide (0 < (rowsL n w (2 ^ i)).length)) i : Nat) (i : Nat) S := by
  have hg' := hg
  obtain ⟨⟨h3, h7, h0⟩, g1, g2, -⟩ := hg
  intro j
  induction j with
  | zero =>
    intro S i hL hw hT hi h
    unfold VX11_wrongly_9
    refine ⟨hL.1, c_notes (by omega) hL (oI_i ?_)⟩
    rw [hw, g2.1]
    refine ⟨⟨(by unfold R32; omega), (by unfold R32; omega)⟩, fun _ => ?_, fun c => by omega⟩
    rw [show i = nN w by omega]
    exact h S Fr.rf hT
  | succ j ih =>
    intro S i hL hw hT hi h
    unfold VX11_wrongly_9 VX11_wrongly_35
    refine ⟨hL.1, c_notes (by omega) hL (oI_i ?_)⟩
    rw [hw, g2.1]
    have p1 : 2 ^ i ≤ 2 ^ 15 := Nat.pow_le_pow_right (by decide) (by omega)
    refine ⟨⟨(by unfold R32; omega), (by unfold R32; omega)⟩, fun _ => by omega, fun c => ⟨hL.1, c_hasRows (n := n) (wo := 2 ^ i) (by omega) hL (by rw [hw]; exact hg') hT (i1_shl (by omega)) (by omega) (fun S1 q f1 t1 hq => oI_i ?_)⟩⟩
    rw [hw] at hq
    have nx := ih (S := S1) (i := i + 1) (f1.lay hL) ((f1.arr (by decide) (by decide)).trans hw) (t1.l h7) (by omega) (fun S' k1 k2 => h S' (f1.tr k1) k2)
    refine ⟨hq.r, fun c2 => ?_, fun c2 => ?_⟩
    · have : ¬ 0 < (rowsL n w (2 ^ i)).length := by rcases hq with ⟨rfl, -⟩ | ⟨-, hq⟩ <;> omega
      rw [or_msk (p := fun i => decide (0 < (rowsL n w (2 ^ i)).length)) (by omega) (by simp only [this, decide_false]; rfl)]
      exact nx
    · have : 0 < (rowsL n w (2 ^ i)).length := by rcases hq with ⟨-, hq⟩ | ⟨rfl, -⟩ <;> omega
      rw [or_msk (p := fun i => decide (0 < (rowsL n w (2 ^ i)).length)) (by omega) (by simp only [this, decide_true, if_true]; exact i1_shl (by omega))]
      exact nx
theorem c_wrongly {d m n : Nat} {S : MS} {Q : Out → MS → Prop} (hd : 7 ≤ d) (hI : RI S m n) (h : ∀ S', RQ m S S' → S'.I m 0 = 0 → Q (.inl (some (vI (A_wrongly n (S.I (m+1)) : Nat)))) S') : Mw hX11_wrongly yX11_wrongly d [vA m] S Q := by
  have hL := hI.1
  obtain ⟨dd, rfl⟩ : ∃ e, d = e + 1 := ⟨d - 1, by omega⟩
  refine MX11_wrongly ?_
  have hl := hL
  unfold RLay at hl
  unfold VX11_wrongly_0
  simp only [hl, sI_K, sI_N, sI_R, sI_J, Option.some.injEq, exists_eq_left', true_and, and_true, Int.toNat_zero, Int.reduceToNat, Int.reduceLT, Int.reduceLE, Int.cast_ofNat_Int, forall_eq, ge_iff_le, Int.reduceNeg, Int.reduceAdd, Int.reduceSub, Int.reduceMul, Int.reduceEq, r32_0, r32_1, r32_m1, b01_0, b01_1, not_true_eq_false, not_false_eq_true, false_implies, true_implies, implies_true, forall_const]
  refine ⟨_, f_wrongly (w := S.I (m+1)) (n := n) (by omega) hI.2.1 (nN (S.I (m+1))) (i := 0) (by exact hL) (sI_Ia (by omega)) (hI.s0 0).2.2 (by omega) (fun S' k1 k2 => h S' ⟨(RQ.s0 hI.2.2).1.tr (k1.wk (by decide) (by decide)), k2⟩ (by rw [k1.fld (by decide), sI_I, if_pos ⟨rfl, rfl⟩]))⟩
/-! mends: what rose is changed for a while -/
def upW (w : Nat → Int) (k : Nat) (v : Int) : Nat → Int := fun q => if q = k then v else w q
theorem GW.up {n : Nat} {w : Nat → Int} {i t : Nat} (h : GW n w) (hi : i < nN w) (ht : t < n) (hb : (nX w i).testBit t = true) : GW n (upW w (25 + 3 * i) (t : Int)) := by
  obtain ⟨g0, g1, g2, g3, g4, g5, g6⟩ := h
  have hn : nN w ≤ 16 := g2.2
  have e : ∀ q, q ≠ 25 + 3 * i → upW w (25 + 3 * i) (t : Int) q = w q := fun q hq => if_neg hq
  have e2 : nN (upW w (25 + 3 * i) (t : Int)) = nN w := by unfold nN; rw [e 2 (by omega)]
  have e1 : sN (upW w (25 + 3 * i) (t : Int)) = sN w := by unfold sN; rw [e 1 (by omega)]
  have ek : ∀ s, s < 4 → kd (upW w (25 + 3 * i) (t : Int)) s = kd w s := fun s hs => by unfold kd; rw [e _ (by omega)]
  have ep : ∀ s, s < 4 → prc (upW w (25 + 3 * i) (t : Int)) s = prc w s := fun s hs => by unfold prc; rw [e _ (by omega)]
  have el : ∀ s, s < 4 → lie (upW w (25 + 3 * i) (t : Int)) s = lie w s := fun s hs => by unfold lie; rw [e _ (by omega)]
  have eS : ∀ j, nS (upW w (25 + 3 * i) (t : Int)) j = nS w j := fun j => by unfold nS; rw [e _ (by omega)]
  have eX : ∀ j, nX (upW w (25 + 3 * i) (t : Int)) j = nX w j := fun j => by unfold nX; rw [e _ (by omega)]
  refine ⟨⟨g0.1, g0.2.1, by rw [e 0 (by omega)]; exact g0.2.2⟩, ⟨by rw [e 1 (by omega), e1]; exact g1.1, by rw [e1]; exact g1.2⟩, ⟨by rw [e 2 (by omega), e2]; exact g2.1, by rw [e2]; exact g2.2⟩, by rw [e 3 (by omega)]; exact g3, fun t ht => by rw [e _ (by omega)]; exact g4 t ht, fun s hs => ?_, fun j hj => ?_⟩
  · rw [e1] at hs
    have h4 := g1.2
    rw [e _ (by omega), e _ (by omega), e _ (by omega), ek s (by omega), ep s (by omega), el s (by omega)]
    exact g5 s hs
  · rw [e2] at hj
    have q := g6 j hj
    have h4 := g1.2
    rw [e _ (by omega), e _ (by omega), eS, eX, e1, ek _ (by omega)]
    refine ⟨q.1, q.2.1, ?_⟩
    by_cases c : j = i
    · subst c
      have v : upW w (25 + 3 * j) (t : Int) (25 + 3 * j) = (t : Int) := if_pos rfl
      have v2 : nT (upW w (25 + 3 * j) (t : Int)) j = t := by unfold nT; rw [v]; rfl
      rw [v, v2]
      exact ⟨rfl, ht, hb⟩
    · have v2 : nT (upW w (25 + 3 * i) (t : Int)) j = nT w j := by unfold nT; rw [e _ (by omega)]
      rw [e _ (by omega), v2]
      exact q.2.2
noncomputable def mdB (n : Nat) (w : Nat → Int) (i t : Nat) : Bool := decide (t ≠ nT w i) && ((nX w i).testBit t && decide (0 < (rowsL n (upW w (25 + 3 * i) (t : Int)) 0).length))
noncomputable def A_mends (n : Nat) (w : Nat → Int) (x : Int) : Int × Int := if 0 ≤ x ∧ x < (nN w : Int) then (0, (mskN (mdB n w x.toNat) n : Nat)) else (1, 0)
theorem f_mends {d m n i : Nat} {Q : Out → MS → Prop} {w : Nat → Int} (hd : 6 ≤ d) (hg : GW n w) (hi : i < nN w) : ∀ (j : Nat) {S : MS} {t : Nat}, RLay S m → (∀ k, k ≠ 25 + 3 * i → S.I (m+1) k = w k) → Tbl S m → t + j = n →
    (∀ S', Fr m [1, 6, 7] [13, 14] S S' → S'.I (m+1) = w → Tbl S' m → Q (.inl (some (vI (mskN (mdB n w i) n : Nat)))) S') → VX11_mends_32 d Q (j + 1) m (i : Nat) (nT w i : Nat) (mskN (mdB n w i) t : Nat) (t : Nat) S := by
  have hg' := hg
  obtain ⟨⟨h3, h7, h0⟩, g1, g2, -, -, g5, g6⟩ := hg
  have a := g6 i hi
  have p7 := p2_7 h7
  have e0 : ((23 : Int) + 3 * (i : Int) + 2).toNat = 25 + 3 * i := by omega
  intro j
  induction j with
  | zero =>
    intro S t hL hw hT hi2 h
    have hl := hL
    unfold RLay at hl
    unfold VX11_mends_32
    refine ⟨hL.1, c_things (by omega) hL (oI_i ?_)⟩
    rw [hw 0 (by omega), h0]
    refine ⟨⟨(by unfold R32; omega), (by unfold R32; omega)⟩, fun _ => ?_, fun c => by omega⟩
    simp only [hl, sI_K, sI_N, sI_R, sI_J, Option.some.injEq, exists_eq_left', true_and, and_true, Int.toNat_zero, Int.reduceToNat, Int.reduceLT, Int.reduceLE, Int.cast_ofNat_Int, forall_eq, ge_iff_le, Int.reduceNeg, Int.reduceAdd, Int.reduceSub, Int.reduceMul, Int.reduceEq, r32_0, r32_1, r32_m1, b01_0, b01_1, not_true_eq_false, not_false_eq_true, false_implies, true_implies, implies_true, forall_const]
    rw [e0, show t = n by omega]
    refine ⟨by omega, h _ (Fr.sA (by decide) (by decide)) ?_ (Fr.tbl (A := [1]) (B := []) (Fr.sA (by decide) (by decide)) (by decide) (by decide) (by decide) hT)⟩
    funext k
    rw [sI_I]
    by_cases c : k = 25 + 3 * i
    · rw [if_pos ⟨rfl, c⟩, c, a.2.2.1]
    · rw [if_neg (by omega), hw k c]
  | succ j ih =>
    intro S t hL hw hT hi2 h
    have hl := hL
    unfold RLay at hl
    unfold VX11_mends_32 VX11_mends_98 VX11_mends_96
    refine ⟨hL.1, c_things (by omega) hL (oI_i ?_)⟩
    rw [hw 0 (by omega), h0]
    have skip : mdB n w i t = false → VX11_mends_32 d Q (j + 1) m (i : Nat) (nT w i : Nat) (mskN (mdB n w i) t : Nat) ((t : Int) + 1) S := by
      intro e
      have := ih (t := t + 1) hL hw hT (by omega) h
      rw [show mskN (mdB n w i) (t + 1) = mskN (mdB n w i) t by
        show mskN (mdB n w i) t ||| _ = _
        rw [if_neg (by rw [e]; decide), Nat.or_zero]] at this
      exact this
    refine ⟨⟨(by unfold R32; omega), (by unfold R32; omega)⟩, fun _ => by omega, fun c => ⟨⟨(by unfold R32; omega), (by unfold R32; omega)⟩, fun c2 => skip ?_, fun c2 => ⟨hL.1, c_ofNote (i := i) (q := 1) (by omega) hL rfl rfl (by omega) (by decide) (oI_i ?_)⟩⟩⟩
    · unfold mdB
      rw [show decide (t ≠ nT w i) = false by simp; omega]
      rfl
    · rw [hw _ (by omega), show 23 + 3 * i + 1 = 24 + 3 * i by omega, a.2.1.1, iBit_n (by omega) (by omega)]
      cases hb : (nX w i).testBit t
      · rw [if_neg (by decide)]
        refine ⟨r32_0, fun c => absurd rfl c, fun _ => skip ?_⟩
        unfold mdB
        rw [hb]
        simp
      · rw [if_pos rfl]
        refine ⟨r32_1, fun _ => ?_, fun c => absurd c (by decide)⟩
        simp only [hl, sI_K, sI_N, sI_R, sI_J, Option.some.injEq, exists_eq_left', true_and, and_true, Int.toNat_zero, Int.reduceToNat, Int.reduceLT, Int.reduceLE, Int.cast_ofNat_Int, forall_eq, ge_iff_le, Int.reduceNeg, Int.reduceAdd, Int.reduceSub, Int.reduceMul, Int.reduceEq, r32_0, r32_1, r32_m1, b01_0, b01_1, not_true_eq_false, not_false_eq_true, false_implies, true_implies, implies_true, forall_const]
        rw [e0]
        have hw2 : (S.setI (m+1) (25 + 3 * i) (t : Int)).I (m+1) = upW w (25 + 3 * i) (t : Int) := by
          funext k
          rw [sI_I]
          unfold upW
          by_cases c : k = 25 + 3 * i
          · rw [if_pos ⟨rfl, c⟩, if_pos c]
          · rw [if_neg (by omega), if_neg c, hw k c]
        have hgu := hg'.up hi (show t < n by omega) hb
        refine ⟨by omega, c_hasRows (n := n) (wo := 0) (by omega) (by exact hL) (by rw [hw2]; exact hgu) (Fr.tbl (A := [1]) (B := []) (Fr.sA (by decide) (by decide)) (by decide) (by decide) (by decide) hT) rfl (by decide) (fun S1 q f1 t1 hq => oI_i ?_)⟩
        rw [hw2] at hq
        have w1 : ∀ k, k ≠ 25 + 3 * i → S1.I (m+1) k = w k := by
          intro k hk
          rw [f1.arr (by decide) (by decide), hw2]
          exact if_neg hk
        have nx := ih (S := S1) (t := t + 1) (f1.lay hL) w1 (t1.l h7) (by omega) (fun S' k1 k2 k3 => h S' ((Fr.sA (by decide) (by decide)).tr ((f1.wk (by decide) (by decide)).tr k1)) k2 k3)
        refine ⟨hq.r, fun c3 => ?_, fun c3 => ?_⟩
        · have : ¬ 0 < (rowsL n (upW w (25 + 3 * i) (t : Int)) 0).length := by rcases hq with ⟨rfl, -⟩ | ⟨-, hq⟩ <;> omega
          have e : mdB n w i t = false := by unfold mdB; simp only [this, decide_false, Bool.and_false]
          rw [or_msk (p := mdB n w i) (by omega) (by rw [e]; rfl)]
          exact nx
        · have : 0 < (rowsL n (upW w (25 + 3 * i) (t : Int)) 0).length := by rcases hq with ⟨-, hq⟩ | ⟨rfl, -⟩ <;> omega
          have e : mdB n w i t = true := by
            unfold mdB
            have : t ≠ nT w i := by omega
            simp only [*, decide_true, Bool.and_true, ne_eq, not_false_eq_true]
          rw [or_msk (p := mdB n w i) (by omega) (by rw [e]; exact i1_shl (by omega))]
          exact nx
theorem Fr.drop1 {m o : Nat} {A B A' : List Nat} {S S' : MS} (h : Fr m A B S S') (e : S'.I (m+o) = S.I (m+o)) (hA : ∀ k ∈ A, k = o ∨ k ∈ A') : Fr m A' B S S' := by
  refine ⟨h.1, fun a h1 h2 => ?_, h.2.2⟩
  by_cases c : a = m + o
  · rw [c, e]
  · refine h.2.1 a h1 (fun k hk => ?_)
    rcases hA k hk with rfl | g
    · exact c
    · exact h2 k g
theorem l_noNote {d m n : Nat} {S : MS} {Q : Out → MS → Prop} {v : Int} (hd : 2 ≤ d) (hI : RI S m n) (hv : R32 v) (h : ∀ r, BI r (¬ (0 ≤ v ∧ v < (nN (S.I (m+1)) : Int))) → Q (.inl (some (vI r))) (S.setI m 0 0)) : Mw hX11_noNote yX11_noNote d [vA m, vI v] (S.setI m 0 0) Q := by
  have h0 := hI.2.1.2.2.1
  refine c_noNote hd (by exact hI.1) hv (by rw [sI_Ia (by omega)]; omega) (fun r hr => h r ?_)
  rw [sI_Ia (by omega), h0.1] at hr
  exact hr
theorem c_mends {d m n : Nat} {S : MS} {Q : Out → MS → Prop} {x : Int} (hd : 7 ≤ d) (hI : RI S m n) (hx : R32 x) (h : ∀ S', RQ m S S' → S'.I m 0 = (A_mends n (S.I (m+1)) x).1 → Q (.inl (some (vI (A_mends n (S.I (m+1)) x).2))) S') : Mw hX11_mends yX11_mends d [vA m, vI x] S Q := by
  have hL := hI.1
  have hn16 := hI.2.1.2.2.1.2
  obtain ⟨dd, rfl⟩ : ∃ e, d = e + 1 := ⟨d - 1, by omega⟩
  refine MX11_mends ?_
  have hl := hL
  unfold RLay at hl
  unfold VX11_mends_0
  simp only [hl, sI_K, sI_N, sI_R, sI_J, Option.some.injEq, exists_eq_left', true_and, and_true, Int.toNat_zero, Int.reduceToNat, Int.reduceLT, Int.reduceLE, Int.cast_ofNat_Int, forall_eq, ge_iff_le, Int.reduceNeg, Int.reduceAdd, Int.reduceSub, Int.reduceMul, Int.reduceEq, r32_0, r32_1, r32_m1, b01_0, b01_1, not_true_eq_false, not_false_eq_true, false_implies, true_implies, implies_true, forall_const]
  refine l_noNote (n := n) (by omega) hI hx (fun r hr => oI_i ⟨hL.1, t_if (by omega) (by exact hL) hr (fun c => oI_i ?_) (fun c => oI_i ?_)⟩)
  · simp only [hl, sI_K, sI_N, sI_R, sI_J, Option.some.injEq, exists_eq_left', true_and, and_true, Int.toNat_zero, Int.reduceToNat, Int.reduceLT, Int.reduceLE, Int.cast_ofNat_Int, forall_eq, ge_iff_le, Int.reduceNeg, Int.reduceAdd, Int.reduceSub, Int.reduceMul, Int.reduceEq, r32_0, r32_1, r32_m1, b01_0, b01_1, not_true_eq_false, not_false_eq_true, false_implies, true_implies, implies_true, forall_const]
    have c' : 0 ≤ x ∧ x < (nN (S.I (m+1)) : Int) := Classical.byContradiction c
    have a := hI.2.1.2.2.2.2.2.2 x.toNat (by omega)
    refine c_ofNote (i := x.toNat) (q := 2) (by omega) (by exact hL) (by omega) rfl (by omega) (by decide) (oI_i ⟨n + 1, ?_⟩)
    rw [sI_Ia (by omega), show 23 + 3 * x.toNat + 2 = 25 + 3 * x.toNat by omega, a.2.2.1]
    have := f_mends (Q := Q) (w := S.I (m+1)) (i := x.toNat) (d := dd) (by omega) hI.2.1 (by omega) n (t := 0) (S := S.setI m 0 0) (by exact hL) (fun k _ => by rw [sI_Ia (by omega)]) (hI.s0 0).2.2 (by omega) (fun S' k1 k2 k3 => fin h (by unfold A_mends; rw [if_pos c']) ⟨(RQ.s0 hI.2.2).1.tr (k1.drop1 (o := 1) (by rw [k2, sI_Ia (by omega)]) (by decide) |>.wk (A := [6, 7]) (by decide) (by decide)), k3⟩ (by rw [k1.fld (by decide), sI_I, if_pos ⟨rfl, rfl⟩]))
    rw [show (x.toNat : Int) = x by omega] at this
    exact this
  · simp only [hl, sI_K, sI_N, sI_R, sI_J, Option.some.injEq, exists_eq_left', true_and, and_true, Int.toNat_zero, Int.reduceToNat, Int.reduceLT, Int.reduceLE, Int.cast_ofNat_Int, forall_eq, ge_iff_le, Int.reduceNeg, Int.reduceAdd, Int.reduceSub, Int.reduceMul, Int.reduceEq, r32_0, r32_1, r32_m1, b01_0, b01_1, not_true_eq_false, not_false_eq_true, false_implies, true_implies, implies_true, forall_const]
    exact fin h (by unfold A_mends; rw [if_neg c]) (rq_x hI) rq_t
