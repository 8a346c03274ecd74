/-! needless, laid, votes -/
noncomputable def ndB (n : Nat) (w : Nat → Int) (i : Nat) : Bool := decide ((rowsL n w (2 ^ i)).length = (rowsL n w 0).length)
noncomputable def A_needless (n : Nat) (w : Nat → Int) : Nat := mskN (ndB n w) (nN w)
theorem f_nd26 {d m n i : Nat} {Q : Out → MS → Prop} {w : Nat → Int} {c13 : Nat → Int → Int → MS → Prop} (hd : 5 ≤ d) (hi : i < 16) : ∀ (j : Nat) {S : MS} {r : Nat}, RD S m n w (rowsL n w 0) → r + j = fct n → (∀ S', Fr m [7] [] S S' → RD S' m n w (rowsL n w 0) → c13 m (mskN (ndB n w) (i + 1) : Nat) ((i : Int) + 1) S') →
    VX11_needless_26 d c13 Q (j + 1) m (mskN (ndB n w) i : Nat) (i : Nat) (cntB (fitR n w (2 ^ i)) r : Nat) (r : Nat) S := by
  have p1 : 2 ^ i ≤ 2 ^ 15 := Nat.pow_le_pow_right (by decide) (by omega)
  intro j
  induction j with
  | zero =>
    intro S r hD hr h
    have hD' := hD
    obtain ⟨hL, hw, hg, hT, hK, hrow, hlen⟩ := hD
    have h3 := hg.1.1
    have h7 := hg.1.2.1
    have hf := fct_le h3 h7
    have hl := hL
    unfold RLay at hl
    unfold VX11_needless_26 VX11_needless_79
    simp only [hl, sI_K, sI_N, sI_R, sI_J, Option.some.injEq, exists_eq_left', true_and, and_true, Int.toNat_zero, Int.reduceToNat, Int.reduceLT, Int.reduceLE, Int.cast_ofNat_Int, forall_eq, ge_iff_le, Int.reduceNeg, Int.reduceAdd, Int.reduceSub, Int.reduceMul, Int.reduceEq, r32_0, r32_1, r32_m1, b01_0, b01_1, not_true_eq_false, not_false_eq_true, false_implies, true_implies, implies_true, forall_const]
    rw [hT.2.1, hK.1]
    have q1 := cntB_le (fitR n w (2 ^ i)) r
    have e : cntB (fitR n w (2 ^ i)) r = (rowsL n w (2 ^ i)).length := by rw [show r = fct n by omega]; exact (len_cnt _ _).symm
    rw [e]
    rw [e] at q1
    have nx := h S Fr.rf hD'
    refine ⟨⟨(by unfold R32; omega), (by unfold R32; omega)⟩, fun _ => ⟨⟨(by unfold R32; omega), (by unfold R32; omega)⟩, fun c => ?_, fun c => ?_⟩, fun c => by omega⟩
    · have g : ndB n w i = false := by unfold ndB; simp; omega
      rw [or_msk (p := ndB n w) (by omega) (by rw [g]; rfl)]
      exact nx
    · have g : ndB n w i = true := by unfold ndB; simp; omega
      rw [or_msk (p := ndB n w) (by omega) (by rw [g]; exact i1_shl (by omega))]
      exact nx
  | succ j ih =>
    intro S r hD hr h
    have hD' := hD
    obtain ⟨hL, hw, hg, hT, hK, hrow, hlen⟩ := hD
    have h3 := hg.1.1
    have h7 := hg.1.2.1
    have hf := fct_le h3 h7
    have hl := hL
    unfold RLay at hl
    unfold VX11_needless_26 VX11_needless_53
    simp only [hl, sI_K, sI_N, sI_R, sI_J, Option.some.injEq, exists_eq_left', true_and, and_true, Int.toNat_zero, Int.reduceToNat, Int.reduceLT, Int.reduceLE, Int.cast_ofNat_Int, forall_eq, ge_iff_le, Int.reduceNeg, Int.reduceAdd, Int.reduceSub, Int.reduceMul, Int.reduceEq, r32_0, r32_1, r32_m1, b01_0, b01_1, not_true_eq_false, not_false_eq_true, false_implies, true_implies, implies_true, forall_const]
    rw [hT.2.1]
    refine ⟨⟨(by unfold R32; omega), (by unfold R32; omega)⟩, fun _ => by omega, fun c => c_fitsAll (n := n) (r := r) (wo := 2 ^ i) (by omega) hL (by rw [hw]; exact hg) hT rfl (i1_shl (by omega)) (by omega) (by omega) (fun S1 q f1 hq => oI_i ?_)⟩
    rw [hw, ← fitR_iff] at hq
    have nx := ih (S := S1) (r := r + 1) (hD'.fr f1 (by decide) (by decide) (by decide) (by decide) (by decide) (by decide)) (by omega) (fun S' k1 k2 => h S' (f1.tr k1) k2)
    have e : cntB (fitR n w (2 ^ i)) (r + 1) = cntB (fitR n w (2 ^ i)) r + (if fitR n w (2 ^ i) r then 1 else 0) := rfl
    rw [e] at nx
    rcases hq with ⟨rfl, hq⟩ | ⟨rfl, hq⟩
    · rw [if_pos hq] at nx
      simp only [hl, sI_K, sI_N, sI_R, sI_J, Option.some.injEq, exists_eq_left', true_and, and_true, Int.toNat_zero, Int.reduceToNat, Int.reduceLT, Int.reduceLE, Int.cast_ofNat_Int, forall_eq, ge_iff_le, Int.reduceNeg, Int.reduceAdd, Int.reduceSub, Int.reduceMul, Int.reduceEq, r32_0, r32_1, r32_m1, b01_0, b01_1, not_true_eq_false, not_false_eq_true, false_implies, true_implies, implies_true, forall_const]
      exact nx
    · rw [if_neg hq] at nx
      simp only [hl, sI_K, sI_N, sI_R, sI_J, Option.some.injEq, exists_eq_left', true_and, and_true, Int.toNat_zero, Int.reduceToNat, Int.reduceLT, Int.reduceLE, Int.cast_ofNat_Int, forall_eq, ge_iff_le, Int.reduceNeg, Int.reduceAdd, Int.reduceSub, Int.reduceMul, Int.reduceEq, r32_0, r32_1, r32_m1, b01_0, b01_1, not_true_eq_false, not_false_eq_true, false_implies, true_implies, implies_true, forall_const]
      exact nx
theorem f_nd13 {d m n : Nat} {Q : Out → MS → Prop} {w : Nat → Int} (hd : 5 ≤ d) : ∀ (j : Nat) {S : MS} {i : Nat}, RD S m n w (rowsL n w 0) → i + j = nN w → (∀ S', Fr m [7] [] S S' → RD S' m n w (rowsL n w 0) → Q (.inl (some (vI (A_needless n w : Nat)))) S') →
    VX11_needless_13 d Q (j + 1) m (mskN (ndB n w) i : Nat) (i : Nat) S := by
  intro j
  induction j with
  | zero =>
    intro S i hD hi h
    have hD' := hD
    obtain ⟨hL, hw, hg, hT, hK, hrow, hlen⟩ := hD
    have h3 := hg.1.1
    have h7 := hg.1.2.1
    have hf := fct_le h3 h7
    have g2 := hg.2.2.1
    unfold VX11_needless_13
    refine ⟨hL.1, c_notes (by omega) hL (oI_i ?_)⟩
    rw [hw, g2.1]
    refine ⟨⟨(by unfold R32; omega), (by unfold R32; omega)⟩, fun _ => ?_, fun c => by omega⟩
    rw [show i = nN w by omega]
    exact h S Fr.rf hD'
  | succ j ih =>
    intro S i hD hi h
    have hD' := hD
    obtain ⟨hL, hw, hg, hT, hK, hrow, hlen⟩ := hD
    have h3 := hg.1.1
    have h7 := hg.1.2.1
    have hf := fct_le h3 h7
    have g2 := hg.2.2.1
    unfold VX11_needless_13
    refine ⟨hL.1, c_notes (by omega) hL (oI_i ?_)⟩
    rw [hw, g2.1]
    exact ⟨⟨(by unfold R32; omega), (by unfold R32; omega)⟩, fun _ => by omega, fun c => ⟨_, f_nd26 hd (by omega) (fct n) (r := 0) hD' (by omega) (fun S' k1 k2 => ih (i := i + 1) k2 (by omega) (fun S2 k3 k4 => h S2 (k1.tr k3) k4))⟩⟩
theorem c_needless {d m n : Nat} {S : MS} {Q : Out → MS → Prop} (hd : 7 ≤ d) (hI : RI S m n) (h : ∀ S', RQ m S S' → S'.I m 0 = 0 → Q (.inl (some (vI (A_needless n (S.I (m+1)) : Nat)))) S') : Mw hX11_needless yX11_needless d [vA m] S Q := by
  have hL := hI.1
  obtain ⟨dd, rfl⟩ : ∃ e, d = e + 1 := ⟨d - 1, by omega⟩
  refine MX11_needless ?_
  have hl := hL
  unfold RLay at hl
  unfold VX11_needless_0
  simp only [hl, sI_K, sI_N, sI_R, sI_J, Option.some.injEq, exists_eq_left', true_and, and_true, Int.toNat_zero, Int.reduceToNat, Int.reduceLT, Int.reduceLE, Int.cast_ofNat_Int, forall_eq, ge_iff_le, Int.reduceNeg, Int.reduceAdd, Int.reduceSub, Int.reduceMul, Int.reduceEq, r32_0, r32_1, r32_m1, b01_0, b01_1, not_true_eq_false, not_false_eq_true, false_implies, true_implies, implies_true, forall_const]
  exact l_lv (n := n) (by omega) hI (fun S1 q1 t1 d1 => oV_i ⟨_, f_nd13 (by omega) (nN (S.I (m+1))) (i := 0) d1 (by omega) (fun S2 k1 k2 => h S2 (q1.fr k1 (by decide) (by decide) (by decide) (by decide) (by decide)) (by rw [k1.fld (by decide), t1]))⟩)
def ldB (w : Nat → Int) (t : Nat) (rose : Int) (i : Nat) : Bool := if rose = 0 then (nX w i).testBit t else decide (nT w i = t)
def A_laid (n : Nat) (w : Nat → Int) (x rose : Int) : Int × Int := if 0 ≤ x ∧ x < (n : Int) then (0, (cntB (ldB w x.toNat rose) (nN w) : Nat)) else (1, 0)
theorem f_laid {d m n t : Nat} {S : MS} {Q : Out → MS → Prop} {rose : Int} (hd : 1 ≤ d) (hI : RI S m n) (hb : B01 rose) (ht : t < n) (h : Q (.inl (some (vI (cntB (ldB (S.I (m+1)) t rose) (nN (S.I (m+1))) : Nat)))) S) : ∀ (j : Nat) {i : Nat}, i + j = nN (S.I (m+1)) → VX11_laid_25 d Q (j + 1) m (t : Nat) rose (cntB (ldB (S.I (m+1)) t rose) i : Nat) (i : Nat) S := by
  have hL := hI.1
  have hg := hI.2.1
  obtain ⟨⟨h3, h7, h0⟩, g1, g2, -, -, g5, g6⟩ := hg
  have p7 := p2_7 h7
  intro j
  induction j with
  | zero =>
    intro i hi
    unfold VX11_laid_25
    refine ⟨hL.1, c_notes (by omega) hL (oI_i ?_)⟩
    rw [g2.1]
    refine ⟨⟨(by unfold R32; omega), (by unfold R32; omega)⟩, fun _ => ?_, fun c => by omega⟩
    rw [show i = nN (S.I (m+1)) by omega]
    exact h
  | succ j ih =>
    intro i hi
    have a := g6 i (by omega)
    unfold VX11_laid_25 VX11_laid_69
    refine ⟨hL.1, c_notes (by omega) hL (oI_i ?_)⟩
    rw [g2.1]
    have nx := ih (i := i + 1) (by omega)
    have e : cntB (ldB (S.I (m+1)) t rose) (i + 1) = cntB (ldB (S.I (m+1)) t rose) i + (if ldB (S.I (m+1)) t rose i then 1 else 0) := rfl
    rw [e] at nx
    refine ⟨⟨(by unfold R32; omega), (by unfold R32; omega)⟩, fun _ => by omega, fun c => ⟨b01_r hb, fun c2 => ⟨hL.1, c_ofNote (i := i) (q := 1) (by omega) hL rfl rfl (by omega) (by decide) (oI_i ?_)⟩, fun c2 => ⟨hL.1, c_ofNote (i := i) (q := 2) (by omega) hL rfl rfl (by omega) (by decide) (oI_i ?_)⟩⟩⟩
    · rw [show 23 + 3 * i + 1 = 24 + 3 * i by omega, a.2.1.1, iBit_n (by omega) (by omega)]
      have e2 : ldB (S.I (m+1)) t rose i = (nX (S.I (m+1)) i).testBit t := if_pos c2
      rw [e2] at nx
      cases hb2 : (nX (S.I (m+1)) i).testBit t
      · rw [hb2] at nx
        exact nx
      · rw [hb2] at nx
        exact nx
    · rw [show 23 + 3 * i + 2 = 25 + 3 * i by omega, a.2.2.1]
      have e2 : ldB (S.I (m+1)) t rose i = decide (nT (S.I (m+1)) i = t) := if_neg c2
      rw [e2] at nx
      refine ⟨⟨(by unfold R32; omega), (by unfold R32; omega)⟩, fun c3 => ?_, fun c3 => ?_⟩
      · rw [show decide (nT (S.I (m+1)) i = t) = false by simp; omega] at nx
        exact nx
      · rw [show decide (nT (S.I (m+1)) i = t) = true by simp; omega] at nx
        exact nx
theorem c_laid {d m n : Nat} {S : MS} {Q : Out → MS → Prop} {x rose : Int} (hd : 3 ≤ d) (hI : RI S m n) (hx : R32 x) (hb : B01 rose) (h : ∀ S', RQ m S S' → S'.I m 0 = (A_laid n (S.I (m+1)) x rose).1 → Q (.inl (some (vI (A_laid n (S.I (m+1)) x rose).2))) S') : Mw hX11_laid yX11_laid d [vA m, vI x, vI rose] S Q := by
  have hL := hI.1
  obtain ⟨dd, rfl⟩ : ∃ e, d = e + 1 := ⟨d - 1, by omega⟩
  refine MX11_laid ?_
  have hl := hL
  unfold RLay at hl
  unfold VX11_laid_0
  simp only [hl, sI_K, sI_N, sI_R, sI_J, Option.some.injEq, exists_eq_left', true_and, and_true, Int.toNat_zero, Int.reduceToNat, Int.reduceLT, Int.reduceLE, Int.cast_ofNat_Int, forall_eq, ge_iff_le, Int.reduceNeg, Int.reduceAdd, Int.reduceSub, Int.reduceMul, Int.reduceEq, r32_0, r32_1, r32_m1, b01_0, b01_1, not_true_eq_false, not_false_eq_true, false_implies, true_implies, implies_true, forall_const]
  refine l_no (n := n) (by omega) hI hx (fun r hr => oI_i ⟨hL.1, t_if (by omega) (by exact hL) hr (fun c => oI_i ?_) (fun c => oI_i ?_)⟩)
  · simp only [hl, sI_K, sI_N, sI_R, sI_J, Option.some.injEq, exists_eq_left', true_and, and_true, Int.toNat_zero, Int.reduceToNat, Int.reduceLT, Int.reduceLE, Int.cast_ofNat_Int, forall_eq, ge_iff_le, Int.reduceNeg, Int.reduceAdd, Int.reduceSub, Int.reduceMul, Int.reduceEq, r32_0, r32_1, r32_m1, b01_0, b01_1, not_true_eq_false, not_false_eq_true, false_implies, true_implies, implies_true, forall_const]
    have c' : 0 ≤ x ∧ x < (n : Int) := Classical.byContradiction c
    have e := f_laid (Q := Q) (t := x.toNat) (d := dd) (S := S.setI m 0 0) (rose := rose) (by omega) (hI.s0 0) hb (by omega)
    rw [sI_Ia (by omega)] at e
    have := e (fin h (by unfold A_laid; rw [if_pos c']) (RQ.s0 hI.2.2) (by rw [sI_I, if_pos ⟨rfl, rfl⟩])) _ (i := 0) (Nat.zero_add _)
    rw [show (x.toNat : Int) = x by omega] at this
    exact ⟨_, this⟩
  · simp only [hl, sI_K, sI_N, sI_R, sI_J, Option.some.injEq, exists_eq_left', true_and, and_true, Int.toNat_zero, Int.reduceToNat, Int.reduceLT, Int.reduceLE, Int.cast_ofNat_Int, forall_eq, ge_iff_le, Int.reduceNeg, Int.reduceAdd, Int.reduceSub, Int.reduceMul, Int.reduceEq, r32_0, r32_1, r32_m1, b01_0, b01_1, not_true_eq_false, not_false_eq_true, false_implies, true_implies, implies_true, forall_const]
    exact fin h (by unfold A_laid; rw [if_neg c]) (rq_x hI) rq_t
/-- how often a thing has risen on plain notes of three -/
def vtB (w : Nat → Int) (x t i : Nat) : Bool := decide (kd w (nS w i) = 0) && (decide (nX w i = x) && decide (nT w i = t))
def vtC (w : Nat → Int) (x t : Nat) : Nat := cntB (vtB w x t) (nN w)
def vtF (w : Nat → Int) (x : Nat) : Nat → Int × Nat
  | 0 => (-1, 0)
  | t + 1 => if (vtF w x t).2 < vtC w x t then ((t : Int), vtC w x t) else if vtC w x t = (vtF w x t).2 then (-1, (vtF w x t).2) else vtF w x t
theorem vtF_0 (w : Nat → Int) (x : Nat) : ∀ t, (vtF w x t).2 = 0 → (vtF w x t).1 = -1
  | 0, _ => rfl
  | t + 1, h => by
    unfold vtF at h ⊢
    split
    · rename_i c
      rw [if_pos c] at h
      have h' : vtC w x t = 0 := h
      omega
    · rename_i c
      rw [if_neg c] at h
      split
      · rfl
      · rename_i c2
        rw [if_neg c2] at h
        exact vtF_0 w x t h
theorem vtF_r {w : Nat → Int} {x : Nat} : ∀ {t : Nat}, -1 ≤ (vtF w x t).1 ∧ (vtF w x t).1 < (t : Int) ∧ (vtF w x t).2 ≤ nN w
  | 0 => ⟨by show (-1 : Int) ≤ -1; decide, by show (-1 : Int) < 0; decide, Nat.zero_le _⟩
  | t + 1 => by
    have ih := vtF_r (w := w) (x := x) (t := t)
    have h1 : vtC w x t ≤ nN w := cntB_le _ _
    unfold vtF
    split
    · exact ⟨by show -1 ≤ (t : Int); omega, by show (t : Int) < _; omega, h1⟩
    · split
      · exact ⟨by show (-1 : Int) ≤ -1; decide, by show (-1 : Int) < _; omega, ih.2.2⟩
      · exact ⟨ih.1, by omega, ih.2.2⟩
theorem f_vt42 {d m n x t : Nat} {S : MS} {Q : Out → MS → Prop} {c27 : Nat → Int → Int → Int → Int → MS → Prop} (hd : 1 ≤ d) (hI : RI S m n) (ht : t < n) (hx : x < 2 ^ n) (h : c27 m (x : Nat) (vtF (S.I (m+1)) x (t + 1)).1 ((vtF (S.I (m+1)) x (t + 1)).2 : Nat) ((t : Int) + 1) S) : ∀ (j : Nat) {i : Nat}, i + j = nN (S.I (m+1)) → VX11_votes_42 d c27 Q (j + 1) m (x : Nat) (vtF (S.I (m+1)) x t).1 ((vtF (S.I (m+1)) x t).2 : Nat) (t : Nat) (cntB (vtB (S.I (m+1)) x t) i : Nat) (i : Nat) S := by
  have hL := hI.1
  have hg := hI.2.1
  obtain ⟨⟨h3, h7, h0⟩, g1, g2, -, -, g5, g6⟩ := hg
  have p7 := p2_7 h7
  have fr := vtF_r (w := S.I (m+1)) (x := x) (t := t)
  intro j
  induction j with
  | zero =>
    intro i hi
    unfold VX11_votes_42 VX11_votes_135 VX11_votes_131 VX11_votes_135
    refine ⟨hL.1, c_notes (by omega) hL (oI_i ?_)⟩
    rw [g2.1]
    have hc : cntB (vtB (S.I (m+1)) x t) i = vtC (S.I (m+1)) x t := by unfold vtC; rw [show i = nN (S.I (m+1)) by omega]
    have hcl : vtC (S.I (m+1)) x t ≤ nN (S.I (m+1)) := cntB_le _ _
    rw [hc]
    unfold vtF at h
    refine ⟨⟨(by unfold R32; omega), (by unfold R32; omega)⟩, fun _ => ⟨⟨(by unfold R32; omega), (by unfold R32; omega)⟩, fun c => ?_, fun c => ⟨(by unfold R32; omega), fun c2 => ⟨⟨(by unfold R32; omega), (by unfold R32; omega)⟩, fun c3 => ?_, fun c3 => ?_⟩, fun c2 => ?_⟩⟩, fun c => by omega⟩
    · rw [if_neg (by omega), if_neg (by omega)] at h
      exact h
    · rw [if_pos (by omega)] at h
      exact h
    · rw [if_neg (by omega), if_pos (by omega)] at h
      rw [c3]
      exact h
    · rw [if_neg (by omega), if_pos (by omega)] at h
      have := vtF_0 (S.I (m+1)) x t (by omega)
      rw [this]
      exact h
  | succ j ih =>
    intro i hi
    have a := g6 i (by omega)
    have b := g5 _ a.1.2
    unfold VX11_votes_42 VX11_votes_95 VX11_votes_96
    refine ⟨hL.1, c_notes (by omega) hL (oI_i ?_)⟩
    rw [g2.1]
    have nx := ih (i := i + 1) (by omega)
    have e : cntB (vtB (S.I (m+1)) x t) (i + 1) = cntB (vtB (S.I (m+1)) x t) i + (if vtB (S.I (m+1)) x t i then 1 else 0) := rfl
    rw [e] at nx
    have no : vtB (S.I (m+1)) x t i = false → VX11_votes_42 d c27 Q (j + 1) m (x : Nat) (vtF (S.I (m+1)) x t).1 ((vtF (S.I (m+1)) x t).2 : Nat) (t : Nat) ((cntB (vtB (S.I (m+1)) x t) i : Nat) + 0) ((i : Int) + 1) S := by
      intro g
      rw [g] at nx
      exact nx
    refine ⟨⟨(by unfold R32; omega), (by unfold R32; omega)⟩, fun _ => by omega, fun c => ⟨hL.1, c_ofNote (i := i) (q := 0) (by omega) hL rfl rfl (by omega) (by decide) (oI_i ⟨hL.1, c_ofScale (i := nS (S.I (m+1)) i) (q := 0) (by omega) hL a.1.1 rfl (by omega) (by decide) (oI_i ?_)⟩)⟩⟩
    rw [show 11 + 3 * nS (S.I (m+1)) i + 0 = 11 + 3 * nS (S.I (m+1)) i from rfl, b.1.1]
    refine ⟨(by unfold R32; omega), fun c2 => no ?_, fun c2 => ⟨hL.1, c_ofNote (i := i) (q := 1) (by omega) hL rfl rfl (by omega) (by decide) (oI_i ?_)⟩⟩
    · unfold vtB
      rw [show decide (kd (S.I (m+1)) (nS (S.I (m+1)) i) = 0) = false by simp; omega]
      rfl
    · rw [show 23 + 3 * i + 1 = 24 + 3 * i by omega, a.2.1.1]
      refine ⟨⟨(by unfold R32; omega), (by unfold R32; omega)⟩, fun c3 => no ?_, fun c3 => ⟨hL.1, c_ofNote (i := i) (q := 2) (by omega) hL rfl rfl (by omega) (by decide) (oI_i ?_)⟩⟩
      · unfold vtB
        rw [show decide (nX (S.I (m+1)) i = x) = false by simp; omega]
        simp
      · rw [show 23 + 3 * i + 2 = 25 + 3 * i by omega, a.2.2.1]
        refine ⟨⟨(by unfold R32; omega), (by unfold R32; omega)⟩, fun c4 => no ?_, fun c4 => ?_⟩
        · unfold vtB
          rw [show decide (nT (S.I (m+1)) i = t) = false by simp; omega]
          simp
        · have g : vtB (S.I (m+1)) x t i = true := by
            unfold vtB
            rw [show kd (S.I (m+1)) (nS (S.I (m+1)) i) = 0 by omega, show nX (S.I (m+1)) i = x by omega, show nT (S.I (m+1)) i = t by omega]
            simp
          rw [g] at nx
          exact nx
theorem f_vt27 {d m n x : Nat} {S : MS} {Q : Out → MS → Prop} (hd : 1 ≤ d) (hI : RI S m n) (hx : x < 2 ^ n) (h : Q (.inl (some (vI (vtF (S.I (m+1)) x n).1))) S) : ∀ (j : Nat) {t : Nat}, t + j = n → VX11_votes_27 d Q (j + 1) m (x : Nat) (vtF (S.I (m+1)) x t).1 ((vtF (S.I (m+1)) x t).2 : Nat) (t : Nat) S := by
  have hL := hI.1
  have h0 := hI.2.1.1
  intro j
  induction j with
  | zero =>
    intro t ht
    unfold VX11_votes_27
    refine ⟨hL.1, c_things (by omega) hL (oI_i ?_)⟩
    rw [h0.2.2]
    refine ⟨⟨(by unfold R32; omega), (by unfold R32; omega)⟩, fun _ => ?_, fun c => by omega⟩
    rw [show t = n by omega]
    exact h
  | succ j ih =>
    intro t ht
    unfold VX11_votes_27
    refine ⟨hL.1, c_things (by omega) hL (oI_i ?_)⟩
    rw [h0.2.2]
    exact ⟨⟨(by unfold R32; omega), (by unfold R32; omega)⟩, fun _ => by omega, fun c => ⟨_, f_vt42 hd hI (by omega) hx (ih (t := t + 1) (by omega)) _ (i := 0) (Nat.zero_add _)⟩⟩
noncomputable def A_votes (n : Nat) (w : Nat → Int) (x : Int) : Int × Int := if 0 ≤ x ∧ x < ((2 ^ n : Nat) : Int) ∧ pc x.toNat = 3 then (0, (vtF w x.toNat n).1) else (1, 0)
theorem c_votes {d m n : Nat} {S : MS} {Q : Out → MS → Prop} {x : Int} (hd : 4 ≤ d) (hI : RI S m n) (hx : R32 x) (h : ∀ S', RQ m S S' → S'.I m 0 = (A_votes n (S.I (m+1)) x).1 → Q (.inl (some (vI (A_votes n (S.I (m+1)) x).2))) S') : Mw hX11_votes yX11_votes d [vA m, vI x] S Q := by
  have hL := hI.1
  obtain ⟨dd, rfl⟩ : ∃ e, d = e + 1 := ⟨d - 1, by omega⟩
  refine MX11_votes ?_
  have hl := hL
  unfold RLay at hl
  unfold VX11_votes_0
  simp only [hl, sI_K, sI_N, sI_R, sI_J, Option.some.injEq, exists_eq_left', true_and, and_true, Int.toNat_zero, Int.reduceToNat, Int.reduceLT, Int.reduceLE, Int.cast_ofNat_Int, forall_eq, ge_iff_le, Int.reduceNeg, Int.reduceAdd, Int.reduceSub, Int.reduceMul, Int.reduceEq, r32_0, r32_1, r32_m1, b01_0, b01_1, not_true_eq_false, not_false_eq_true, false_implies, true_implies, implies_true, forall_const]
  refine c_isNoThree (n := n) (by omega) (by exact hL) (by rw [sI_Ia (by omega)]; exact hI.2.1) hx (fun r hr => oI_i ⟨hL.1, t_if (by omega) (by exact hL) hr (fun c => oI_i ?_) (fun c => oI_i ?_)⟩)
  · simp only [hl, sI_K, sI_N, sI_R, sI_J, Option.some.injEq, exists_eq_left', true_and, and_true, Int.toNat_zero, Int.reduceToNat, Int.reduceLT, Int.reduceLE, Int.cast_ofNat_Int, forall_eq, ge_iff_le, Int.reduceNeg, Int.reduceAdd, Int.reduceSub, Int.reduceMul, Int.reduceEq, r32_0, r32_1, r32_m1, b01_0, b01_1, not_true_eq_false, not_false_eq_true, false_implies, true_implies, implies_true, forall_const]
    have c' : IsSet n 3 x := Classical.byContradiction c
    obtain ⟨x1, x2, x3⟩ := c'.n
    have e := f_vt27 (Q := Q) (x := x.toNat) (d := dd) (S := S.setI m 0 0) (by omega) (hI.s0 0) x2
    rw [sI_Ia (by omega)] at e
    have := e (fin h (by unfold A_votes; rw [if_pos (show 0 ≤ x ∧ x < ((2 ^ n : Nat) : Int) ∧ pc x.toNat = 3 from c')]) (RQ.s0 hI.2.2) (by rw [sI_I, if_pos ⟨rfl, rfl⟩])) n (t := 0) (Nat.zero_add _)
    rw [← x1] at this
    exact ⟨_, this⟩
  · simp only [hl, sI_K, sI_N, sI_R, sI_J, Option.some.injEq, exists_eq_left', true_and, and_true, Int.toNat_zero, Int.reduceToNat, Int.reduceLT, Int.reduceLE, Int.cast_ofNat_Int, forall_eq, ge_iff_le, Int.reduceNeg, Int.reduceAdd, Int.reduceSub, Int.reduceMul, Int.reduceEq, r32_0, r32_1, r32_m1, b01_0, b01_1, not_true_eq_false, not_false_eq_true, false_implies, true_implies, implies_true, forall_const]
    exact fin h (by unfold A_votes; rw [if_neg (show ¬ (0 ≤ x ∧ x < ((2 ^ n : Nat) : Int) ∧ pc x.toNat = 3) from c)]) (rq_x hI) rq_t
