/-! THE SHED as numbers (as the reference keeps it): what is good -/
def cntB (p : Nat → Bool) : Nat → Nat
  | 0 => 0
  | n + 1 => cntB p n + (if p n then 1 else 0)
def pc (s : Nat) : Nat := cntB (fun t => s.testBit t) 7
def kd (w : Nat → Int) (s : Nat) : Nat := (w (11 + 3 * s)).toNat
def prc (w : Nat → Int) (s : Nat) : Nat := (w (12 + 3 * s)).toNat
def lie (w : Nat → Int) (s : Nat) : Nat := (w (13 + 3 * s)).toNat
def nS (w : Nat → Int) (i : Nat) : Nat := (w (23 + 3 * i)).toNat
def nX (w : Nat → Int) (i : Nat) : Nat := (w (24 + 3 * i)).toNat
def nT (w : Nat → Int) (i : Nat) : Nat := (w (25 + 3 * i)).toNat
def nN (w : Nat → Int) : Nat := (w 2).toNat
def sN (w : Nat → Int) : Nat := (w 1).toNat
def GW (n : Nat) (w : Nat → Int) : Prop := (3 ≤ n ∧ n ≤ 7 ∧ w 0 = (n : Int)) ∧ (w 1 = (sN w : Int) ∧ sN w ≤ 4) ∧ (w 2 = (nN w : Int) ∧ nN w ≤ 16) ∧ (0 ≤ w 3 ∧ w 3 ≤ 8) ∧ (∀ t, t < 7 → 0 ≤ w (4 + t) ∧ w (4 + t) ≤ 999) ∧
  (∀ s, s < sN w → (w (11 + 3 * s) = (kd w s : Int) ∧ kd w s < 3) ∧ (w (12 + 3 * s) = (prc w s : Int) ∧ prc w s ≤ 99) ∧ (w (13 + 3 * s) = (lie w s : Int) ∧ lie w s ≤ 3)) ∧
  (∀ i, i < nN w → (w (23 + 3 * i) = (nS w i : Int) ∧ nS w i < sN w) ∧ (w (24 + 3 * i) = (nX w i : Int) ∧ nX w i < 2 ^ n ∧ pc (nX w i) = pansK (kd w (nS w i))) ∧ (w (25 + 3 * i) = (nT w i : Int) ∧ nT w i < n ∧ (nX w i).testBit (nT w i) = true))
theorem p2_7 {n : Nat} (h : n ≤ 7) : 2 ^ n ≤ 128 := Nat.pow_le_pow_right (by decide) h
/-- who rises, read off a row -/
def scn (f : Nat → Nat) (s : Nat) : Nat → Nat → Nat → Int
  | 0, _, _ => -1
  | j + 1, k, l => if s.testBit (f k) then (if l = 0 then (f k : Int) else scn f s j (k + 1) (l - 1)) else scn f s j (k + 1) l
def rs (n kn x r : Nat) : Int := scn (rat n r) x n 0 (belK kn)
theorem scn_lt {f : Nat → Nat} {s b : Nat} : ∀ {j k l : Nat}, (∀ p, k ≤ p → p < k + j → f p < b) → -1 ≤ scn f s j k l ∧ scn f s j k l < (b : Int) ∨ scn f s j k l = -1
  | 0, _, _, _ => Or.inr rfl
  | j + 1, k, l, h => by
    unfold scn
    have h0 := h k (by omega) (by omega)
    have ih : ∀ l, _ := fun l => scn_lt (s := s) (j := j) (k := k + 1) (l := l) (fun p h1 h2 => h p (by omega) (by omega))
    split
    · split
      · left; omega
      · exact ih _
    · exact ih _
theorem f_riser9 {d m n x r : Nat} {S : MS} {Q : Out → MS → Prop} (hd : 1 ≤ d) (hL : RLay S m) (h3 : 3 ≤ n) (h7 : n ≤ 7) (hT : Tb S m n) (hr : r < fct n) (hx : x < 2147483648) : ∀ (j : Nat) {k l : Nat}, k + j = n → l < 100 → Q (.inl (some (vI (scn (rat n r) x j k l)))) S → VX11_riser_9 d Q (j + 1) m (x : Nat) (r : Nat) (l : Nat) (k : Nat) S := by
  intro j
  induction j with
  | zero =>
    intro k l hk hlt h
    have hl := hL
    unfold RLay at hl
    unfold VX11_riser_9
    simp only [hl, sI_K, sI_N, sI_R, sI_J, Option.some.injEq, exists_eq_left', true_and, and_true, Int.toNat_zero, Int.reduceToNat, Int.reduceLT, Int.reduceLE, Int.cast_ofNat_Int, forall_eq, ge_iff_le, Int.reduceNeg, Int.reduceAdd, Int.reduceSub, Int.reduceMul, Int.reduceEq, r32_0, r32_1, r32_m1, b01_0, b01_1, not_true_eq_false, not_false_eq_true, false_implies, true_implies, implies_true, forall_const]
    rw [hT.1]
    exact ⟨⟨(by unfold R32; omega), (by unfold R32; omega)⟩, fun _ => h, fun c => by omega⟩
  | succ j ih =>
    intro k l hk hlt h
    have hl := hL
    unfold RLay at hl
    unfold VX11_riser_9
    simp only [hl, sI_K, sI_N, sI_R, sI_J, Option.some.injEq, exists_eq_left', true_and, and_true, Int.toNat_zero, Int.reduceToNat, Int.reduceLT, Int.reduceLE, Int.cast_ofNat_Int, forall_eq, ge_iff_le, Int.reduceNeg, Int.reduceAdd, Int.reduceSub, Int.reduceMul, Int.reduceEq, r32_0, r32_1, r32_m1, b01_0, b01_1, not_true_eq_false, not_false_eq_true, false_implies, true_implies, implies_true, forall_const]
    rw [hT.1]
    have hf := fct_le h3 h7
    have e1 : S.I (m+6) (7 * r + k) = (rat n r k : Nat) := hT.2.2 r hr k (by omega)
    have e2 := rat_lt h3 h7 hr (show k < n by omega)
    refine ⟨⟨(by unfold R32; omega), (by unfold R32; omega)⟩, fun _ => by omega, fun c => c_at (r := r) (p := k) hd hL rfl rfl (by omega) (oI_i ?_)⟩
    rw [e1, iBit_n hx (by omega)]
    unfold VX11_riser_51
    unfold scn at h
    cases hb : x.testBit (rat n r k)
    · rw [if_neg (by rw [hb]; decide)] at h
      rw [if_neg (by decide)]
      simp only [hl, sI_K, sI_N, sI_R, sI_J, Option.some.injEq, exists_eq_left', true_and, and_true, Int.toNat_zero, Int.reduceToNat, Int.reduceLT, Int.reduceLE, Int.cast_ofNat_Int, forall_eq, ge_iff_le, Int.reduceNeg, Int.reduceAdd, Int.reduceSub, Int.reduceMul, Int.reduceEq, r32_0, r32_1, r32_m1, b01_0, b01_1, not_true_eq_false, not_false_eq_true, false_implies, true_implies, implies_true, forall_const]
      exact ih (k := k + 1) (by omega) hlt h
    · rw [if_pos hb] at h
      rw [if_pos rfl]
      simp only [hl, sI_K, sI_N, sI_R, sI_J, Option.some.injEq, exists_eq_left', true_and, and_true, Int.toNat_zero, Int.reduceToNat, Int.reduceLT, Int.reduceLE, Int.cast_ofNat_Int, forall_eq, ge_iff_le, Int.reduceNeg, Int.reduceAdd, Int.reduceSub, Int.reduceMul, Int.reduceEq, r32_0, r32_1, r32_m1, b01_0, b01_1, not_true_eq_false, not_false_eq_true, false_implies, true_implies, implies_true, forall_const]
      refine ⟨(by unfold R32; omega), fun c => ?_, fun c => ?_⟩
      · rw [if_neg (by omega)] at h
        rw [show (l : Int) + -1 = ((l - 1 : Nat) : Int) by omega]
        exact ih (k := k + 1) (by omega) (by omega) h
      · rw [if_pos (by omega)] at h
        refine c_at (r := r) (p := k) hd hL rfl rfl (by omega) (oI_i ?_)
        rw [e1]
        exact h
theorem belK_lt (k : Nat) : belK k < 100 := by unfold belK; split <;> omega
theorem c_riser {d m n kn x r : Nat} {S : MS} {Q : Out → MS → Prop} {x1 x2 x3 : Int} (hd : 2 ≤ d) (hL : RLay S m) (h3 : 3 ≤ n) (h7 : n ≤ 7) (hT : Tb S m n) (e1 : x1 = kn) (e2 : x2 = x) (e3 : x3 = r) (hk : kn < 3) (hx : x < 2147483648) (hr : r < fct n) (h : Q (.inl (some (vI (rs n kn x r)))) S) : Mw hX11_riser yX11_riser d [vA m, vI x1, vI x2, vI x3] S Q := by
  subst e2 e3
  obtain ⟨e, rfl⟩ : ∃ e, d = e + 1 := ⟨d - 1, by omega⟩
  refine MX11_riser ?_
  unfold VX11_riser_0
  exact c_below (by omega) e1 hk (oI_i ⟨_, f_riser9 (by omega) hL h3 h7 hT hr hx n (k := 0) (by omega) (belK_lt _) h⟩)
theorem rs_r {n kn x r : Nat} (h3 : 3 ≤ n) (h7 : n ≤ 7) (hr : r < fct n) : -1 ≤ rs n kn x r ∧ rs n kn x r < (n : Int) := by
  have := scn_lt (f := rat n r) (s := x) (b := n) (j := n) (k := 0) (l := belK kn) (fun p _ hp => rat_lt h3 h7 hr (by omega))
  unfold rs
  omega
def fitN (n : Nat) (w : Nat → Int) (r i : Nat) : Bool := decide (rs n (kd w (nS w i)) (nX w i) r = (nT w i : Int))
theorem c_fitsNote {d m n r i : Nat} {S : MS} {Q : Out → MS → Prop} {x1 x2 : Int} (hd : 3 ≤ d) (hL : RLay S m) (hg : GW n (S.I (m+1))) (hT : Tb S m n) (e1 : x1 = r) (e2 : x2 = i) (hr : r < fct n) (hi : i < nN (S.I (m+1))) (h : ∀ q, BI q (fitN n (S.I (m+1)) r i = true) → Q (.inl (some (vI q))) S) : Mw hX11_fitsNote yX11_fitsNote d [vA m, vI x1, vI x2] S Q := by
  obtain ⟨⟨h3, h7, h0⟩, g1, g2, -, -, g5, g6⟩ := hg
  have a := g6 i hi
  have b := g5 _ a.1.2
  have p7 := p2_7 h7
  obtain ⟨e, rfl⟩ : ∃ e, d = e + 1 := ⟨d - 1, by omega⟩
  refine MX11_fitsNote ?_
  have hl := hL
  unfold RLay at hl
  unfold VX11_fitsNote_0
  simp only [hl, sI_K, sI_N, sI_R, sI_J, Option.some.injEq, exists_eq_left', true_and, and_true, Int.toNat_zero, Int.reduceToNat, Int.reduceLT, Int.reduceLE, Int.cast_ofNat_Int, forall_eq, ge_iff_le, Int.reduceNeg, Int.reduceAdd, Int.reduceSub, Int.reduceMul, Int.reduceEq, r32_0, r32_1, r32_m1, b01_0, b01_1, not_true_eq_false, not_false_eq_true, false_implies, true_implies, implies_true, forall_const]
  refine c_ofNote (i := i) (q := 0) (by omega) hL e2 rfl (by omega) (by decide) (oI_i ⟨hL.1, c_ofScale (i := nS (S.I (m+1)) i) (q := 0) (by omega) hL a.1.1 rfl (by omega) (by decide) (oI_i ⟨hL.1, ?_⟩)⟩)
  refine c_ofNote (i := i) (q := 1) (by omega) hL e2 rfl (by omega) (by decide) (oI_i ⟨hL.1, c_riser (n := n) (kn := kd (S.I (m+1)) (nS (S.I (m+1)) i)) (x := nX (S.I (m+1)) i) (r := r) (by omega) hL h3 h7 hT b.1.1 (by rw [← a.2.1.1]; congr 1; omega) e1 b.1.2 (by omega) hr (oI_i ⟨hL.1, ?_⟩)⟩)
  refine c_ofNote (i := i) (q := 2) (by omega) hL e2 rfl (by omega) (by decide) (oI_i ?_)
  have e3 : S.I (m+1) (23 + 3 * i + 2) = (nT (S.I (m+1)) i : Int) := by
    rw [← a.2.2.1]
    congr 1
    omega
  rw [e3]
  have hq := rs_r (kn := kd (S.I (m+1)) (nS (S.I (m+1)) i)) (x := nX (S.I (m+1)) i) h3 h7 hr
  refine ⟨⟨(by unfold R32; omega), (by unfold R32; omega)⟩, fun c => h _ (.n ?_), fun c => h _ (.y ?_)⟩
  · unfold fitN
    simpa using c
  · unfold fitN
    simpa using c
/-! how many notes of a scale a row misses, but for some -/
def misC (n : Nat) (w : Nat → Int) (r wo s : Nat) : Nat → Nat
  | 0 => 0
  | i + 1 => misC n w r wo s i + (if wo.testBit i = false ∧ nS w i = s ∧ fitN n w r i = false then 1 else 0)
theorem misC_le (n : Nat) (w : Nat → Int) (r wo s : Nat) : ∀ i, misC n w r wo s i ≤ i
  | 0 => Nat.le_refl _
  | i + 1 => by
    have := misC_le n w r wo s i
    unfold misC
    split <;> omega
theorem misC_mono (n : Nat) (w : Nat → Int) (r wo s i : Nat) : ∀ j, misC n w r wo s i ≤ misC n w r wo s (i + j)
  | 0 => Nat.le_refl _
  | j + 1 => Nat.le_trans (misC_mono n w r wo s i j) (Nat.le_add_right _ _)
def FitA (n : Nat) (w : Nat → Int) (r wo : Nat) : Prop := ∀ s, s < 4 → misC n w r wo s (nN w) ≤ lie w s
theorem f_fa25 {d m n r wo : Nat} {Q : Out → MS → Prop} {w : Nat → Int} (hd : 4 ≤ d) (hg : GW n w) (hr : r < fct n) (hwo : wo < 2147483648) : ∀ (j : Nat) {S : MS} {i : Nat} {q : Int}, RLay S m → S.I (m+1) = w → Tb S m n → i + j = nN w →
    (∀ s, s < 4 → S.I (m+7) s = (misC n w r wo s i : Nat)) → BI q (∀ s, s < 4 → misC n w r wo s i ≤ lie w s) →
    (∀ S' q, Fr m [7] [] S S' → BI q (FitA n w r wo) → Q (.inl (some (vI q))) S') → VX11_fitsAll_25 d Q (j + 1) m (r : Nat) (wo : Nat) q (i : Nat) S := by
  have hg' := hg
  obtain ⟨⟨h3, h7, h0⟩, g1, g2, -, -, g5, g6⟩ := hg
  intro j
  induction j with
  | zero =>
    intro S i q hL hw hT hi h1 hq h
    have hl := hL
    unfold RLay at hl
    unfold VX11_fitsAll_25 VX11_fitsAll_116
    refine ⟨hL.1, c_notes (by omega) hL (oI_i ?_)⟩
    rw [hw, g2.1]
    refine ⟨⟨(by unfold R32; omega), (by unfold R32; omega)⟩, fun _ => ⟨hq.b, h S q Fr.rf ?_⟩, fun c => by omega⟩
    rw [show i = nN w by omega] at hq
    exact hq
  | succ j ih =>
    intro S i q hL hw hT hi h1 hq h
    have hl := hL
    unfold RLay at hl
    unfold VX11_fitsAll_25 VX11_fitsAll_116 VX11_fitsAll_110
    refine ⟨hL.1, c_notes (by omega) hL (oI_i ?_)⟩
    rw [hw, g2.1]
    refine ⟨⟨(by unfold R32; omega), (by unfold R32; omega)⟩, fun _ => by omega, fun c => ⟨hq.r, fun q0 => ⟨hq.b, h S q Fr.rf ?_⟩, fun q0 => ?_⟩⟩
    · rcases hq with ⟨rfl, -⟩ | ⟨rfl, hq⟩
      · omega
      · refine .n (fun k => hq (fun s hs => ?_))
        have := k s hs
        have := misC_mono n w r wo s i (j + 1)
        rw [hi] at this
        omega
    · have hq1 : q = 1 := by rcases hq with ⟨rfl, -⟩ | ⟨rfl, -⟩ <;> omega
      subst hq1
      have hqa : ∀ s, s < 4 → misC n w r wo s i ≤ lie w s := by
        rcases hq with ⟨-, hq⟩ | ⟨k, -⟩
        · exact hq
        · omega
      have a := g6 i (by omega)
      have b := g5 _ a.1.2
      rw [iBit_n hwo (by omega)]
      have keep : (∀ s, misC n w r wo s (i + 1) = misC n w r wo s i) → VX11_fitsAll_25 d Q (j + 1) m (r : Nat) (wo : Nat) 1 ((i : Int) + 1) S := by
        intro e
        refine ih (i := i + 1) hL hw hT (by omega) (fun s hs => by rw [h1 s hs, e s]) (.y (fun s hs => by rw [e s]; exact hqa s hs)) h
      cases hb : wo.testBit i
      · rw [if_neg (by decide)]
        simp only [hl, sI_K, sI_N, sI_R, sI_J, Option.some.injEq, exists_eq_left', true_and, and_true, Int.toNat_zero, Int.reduceToNat, Int.reduceLT, Int.reduceLE, Int.cast_ofNat_Int, forall_eq, ge_iff_le, Int.reduceNeg, Int.reduceAdd, Int.reduceSub, Int.reduceMul, Int.reduceEq, r32_0, r32_1, r32_m1, b01_0, b01_1, not_true_eq_false, not_false_eq_true, false_implies, true_implies, implies_true, forall_const]
        refine c_fitsNote (n := n) (i := i) (by omega) hL (by rw [hw]; exact hg') hT rfl rfl hr (by rw [hw]; omega) (fun q2 hq2 => oI_i ?_)
        rw [hw] at hq2
        rcases hq2 with ⟨rfl, hq2⟩ | ⟨rfl, hq2⟩
        · simp only [hl, sI_K, sI_N, sI_R, sI_J, Option.some.injEq, exists_eq_left', true_and, and_true, Int.toNat_zero, Int.reduceToNat, Int.reduceLT, Int.reduceLE, Int.cast_ofNat_Int, forall_eq, ge_iff_le, Int.reduceNeg, Int.reduceAdd, Int.reduceSub, Int.reduceMul, Int.reduceEq, r32_0, r32_1, r32_m1, b01_0, b01_1, not_true_eq_false, not_false_eq_true, false_implies, true_implies, implies_true, forall_const]
          refine keep (fun s => ?_)
          show misC n w r wo s i + _ = _
          rw [if_neg (by rw [hq2]; simp)]
          rfl
        · simp only [hl, sI_K, sI_N, sI_R, sI_J, Option.some.injEq, exists_eq_left', true_and, and_true, Int.toNat_zero, Int.reduceToNat, Int.reduceLT, Int.reduceLE, Int.cast_ofNat_Int, forall_eq, ge_iff_le, Int.reduceNeg, Int.reduceAdd, Int.reduceSub, Int.reduceMul, Int.reduceEq, r32_0, r32_1, r32_m1, b01_0, b01_1, not_true_eq_false, not_false_eq_true, false_implies, true_implies, implies_true, forall_const]
          have a11 := a.1.1
          rw [← hw] at a11
          refine c_ofNote (i := i) (q := 0) (by omega) hL rfl rfl (by omega) (by decide) (oI_i ?_)
          rw [show 23 + 3 * i + 0 = 23 + 3 * i from rfl, a11, hw]
          simp only [hl, sI_K, sI_N, sI_R, sI_J, Option.some.injEq, exists_eq_left', true_and, and_true, Int.toNat_zero, Int.reduceToNat, Int.reduceLT, Int.reduceLE, Int.cast_ofNat_Int, forall_eq, ge_iff_le, Int.reduceNeg, Int.reduceAdd, Int.reduceSub, Int.reduceMul, Int.reduceEq, r32_0, r32_1, r32_m1, b01_0, b01_1, not_true_eq_false, not_false_eq_true, false_implies, true_implies, implies_true, forall_const]
          have hs4 : nS w i < 4 := by omega
          refine ⟨by omega, by omega, ?_⟩
          rw [Int.toNat_natCast, h1 _ hs4]
          have hm16 := misC_le n w r wo (nS w i) i
          have ev : ∀ s, s < 4 → misC n w r wo s (i + 1) = misC n w r wo s i + (if nS w i = s then 1 else 0) := by
            intro s hs
            show misC n w r wo s i + _ = _
            congr 1
            by_cases e : nS w i = s
            · rw [if_pos ⟨hb, e, by simpa using hq2⟩, if_pos e]
            · rw [if_neg (fun k => e k.2.1), if_neg e]
          refine c_ofNote (i := i) (q := 0) (by omega) (by exact hL) rfl rfl (by omega) (by decide) (oI_i ?_)
          rw [sI_Ia (by omega), show 23 + 3 * i + 0 = 23 + 3 * i from rfl, a11, hw]
          simp only [hl, sI_K, sI_N, sI_R, sI_J, Option.some.injEq, exists_eq_left', true_and, and_true, Int.toNat_zero, Int.reduceToNat, Int.reduceLT, Int.reduceLE, Int.cast_ofNat_Int, forall_eq, ge_iff_le, Int.reduceNeg, Int.reduceAdd, Int.reduceSub, Int.reduceMul, Int.reduceEq, r32_0, r32_1, r32_m1, b01_0, b01_1, not_true_eq_false, not_false_eq_true, false_implies, true_implies, implies_true, forall_const]
          rw [Int.toNat_natCast]
          refine ⟨by omega, c_ofNote (i := i) (q := 0) (by omega) (by exact hL) rfl rfl (by omega) (by decide) (oI_i ⟨hL.1, ?_⟩)⟩
          rw [sI_Ia (by omega), show 23 + 3 * i + 0 = 23 + 3 * i from rfl, a11, hw]
          refine c_ofScale (i := nS w i) (q := 2) (by omega) (by exact hL) rfl rfl (by omega) (by decide) (oI_i ?_)
          rw [sI_Ia (b := m+1) (by omega), hw, sI_I, if_pos ⟨rfl, rfl⟩, show 11 + 3 * nS w i + 2 = 13 + 3 * nS w i by omega, b.2.2.1]
          unfold VX11_fitsAll_109 VX11_fitsAll_110
          have fin : ∀ q3, BI q3 (∀ s, s < 4 → misC n w r wo s (i + 1) ≤ lie w s) → VX11_fitsAll_25 d Q (j + 1) m (r : Nat) (wo : Nat) q3 ((i : Int) + 1) (S.setI (m+7) (nS w i) ((misC n w r wo (nS w i) i : Nat) + 1)) := by
            intro q3 hq3
            refine ih (i := i + 1) (by exact hL) (by rw [sI_Ia (by omega)]; exact hw) (Fr.tb (A := [7]) (B := []) (Fr.sA (by decide) (by decide)) (by decide) (by decide) (by decide) hT) (by omega) (fun s hs => ?_) hq3 (fun S' q' f1 f2 => h S' q' ((Fr.sA (by decide) (by decide)).tr f1) f2)
            rw [sI_I, ev s hs]
            by_cases e : s = nS w i
            · rw [if_pos ⟨rfl, e⟩, if_pos e.symm, e]
              omega
            · rw [if_neg (by omega), if_neg (fun k => e k.symm), h1 s hs]
              omega
          refine ⟨⟨(by unfold R32; omega), (by unfold R32; omega)⟩, fun c2 => fin 0 (.n (fun k => ?_)), fun c2 => fin 1 (.y (fun s hs => ?_))⟩
          · have := k _ hs4
            rw [ev _ hs4, if_pos rfl] at this
            omega
          · rw [ev s hs]
            have := hqa s hs
            split
            · rename_i e
              subst e
              omega
            · omega
      · rw [if_pos rfl]
        simp only [hl, sI_K, sI_N, sI_R, sI_J, Option.some.injEq, exists_eq_left', true_and, and_true, Int.toNat_zero, Int.reduceToNat, Int.reduceLT, Int.reduceLE, Int.cast_ofNat_Int, forall_eq, ge_iff_le, Int.reduceNeg, Int.reduceAdd, Int.reduceSub, Int.reduceMul, Int.reduceEq, r32_0, r32_1, r32_m1, b01_0, b01_1, not_true_eq_false, not_false_eq_true, false_implies, true_implies, implies_true, forall_const]
        refine keep (fun s => ?_)
        show misC n w r wo s i + _ = _
        rw [if_neg (by rw [hb]; simp)]
        rfl
theorem f_fa2 {d m n r wo : Nat} {Q : Out → MS → Prop} {w : Nat → Int} (hd : 4 ≤ d) (hg : GW n w) (hr : r < fct n) (hwo : wo < 2147483648) : ∀ (j : Nat) {S : MS} {i : Nat}, RLay S m → S.I (m+1) = w → Tb S m n → i + j = 4 →
    (∀ s, s < i → S.I (m+7) s = 0) →
    (∀ S' q, Fr m [7] [] S S' → BI q (FitA n w r wo) → Q (.inl (some (vI q))) S') → VX11_fitsAll_2 d Q (j + 1) m (r : Nat) (wo : Nat) (i : Nat) S := by
  intro j
  induction j with
  | zero =>
    intro S i hL hw hT hi h1 h
    unfold VX11_fitsAll_2
    refine ⟨⟨(by unfold R32; omega), (by unfold R32; omega)⟩, fun _ => ⟨_, f_fa25 hd hg hr hwo (nN w) (i := 0) hL hw hT (by omega) (fun s hs => h1 s (by omega)) (.y (fun s hs => Nat.zero_le _)) h⟩, fun c => by omega⟩
  | succ j ih =>
    intro S i hL hw hT hi h1 h
    have hl := hL
    unfold RLay at hl
    unfold VX11_fitsAll_2
    refine ⟨⟨(by unfold R32; omega), (by unfold R32; omega)⟩, fun _ => by omega, fun c => ?_⟩
    simp only [hl, sI_K, sI_N, sI_R, sI_J, Option.some.injEq, exists_eq_left', true_and, and_true, Int.toNat_zero, Int.reduceToNat, Int.reduceLT, Int.reduceLE, Int.cast_ofNat_Int, forall_eq, ge_iff_le, Int.reduceNeg, Int.reduceAdd, Int.reduceSub, Int.reduceMul, Int.reduceEq, r32_0, r32_1, r32_m1, b01_0, b01_1, not_true_eq_false, not_false_eq_true, false_implies, true_implies, implies_true, forall_const]
    rw [Int.toNat_natCast]
    refine ⟨by omega, ih (i := i + 1) (by exact hL) (by rw [sI_Ia (by omega)]; exact hw) (Fr.tb (A := [7]) (B := []) (Fr.sA (by decide) (by decide)) (by decide) (by decide) (by decide) hT) (by omega) (fun s hs => ?_) (fun S' q' f1 f2 => h S' q' ((Fr.sA (by decide) (by decide)).tr f1) f2)⟩
    rw [sI_I]
    split
    · rfl
    · exact h1 s (by omega)
theorem c_fitsAll {d m n r wo : Nat} {S : MS} {Q : Out → MS → Prop} {x1 x2 : Int} (hd : 5 ≤ d) (hL : RLay S m) (hg : GW n (S.I (m+1))) (hT : Tb S m n) (e1 : x1 = r) (e2 : x2 = wo) (hr : r < fct n) (hwo : wo < 2147483648) (h : ∀ S' q, Fr m [7] [] S S' → BI q (FitA n (S.I (m+1)) r wo) → Q (.inl (some (vI q))) S') : Mw hX11_fitsAll yX11_fitsAll d [vA m, vI x1, vI x2] S Q := by
  subst e1 e2
  obtain ⟨e, rfl⟩ : ∃ e, d = e + 1 := ⟨d - 1, by omega⟩
  refine MX11_fitsAll ?_
  unfold VX11_fitsAll_0
  exact ⟨_, f_fa2 (by omega) hg hr hwo 4 (i := 0) hL rfl hT (by omega) (fun s hs => absurd hs (Nat.not_lt_zero s)) h⟩
/-! lists of rows that the reference keeps -/
def KL (S : MS) (m l : Nat) (L : List Nat) : Prop := S.I (m+9) l = (L.length : Int) ∧ ∀ k, k < L.length → S.I (m+8) (5040 * l + k) = (L.getD k 0 : Nat)
theorem Fr.kl {m l : Nat} {L : List Nat} {A B : List Nat} {S S1 : MS} (h : Fr m A B S S1) (h1 : 8 ∉ A) (h2 : 9 ∉ A) (k : KL S m l L) : KL S1 m l L := by
  unfold KL at k ⊢
  rw [h.arr (by decide) h1, h.arr (by decide) h2]
  exact k
noncomputable def fitR (n : Nat) (w : Nat → Int) (wo r : Nat) : Bool := allB (fun s => decide (misC n w r wo s (nN w) ≤ lie w s)) 4
theorem fitR_iff {n : Nat} {w : Nat → Int} {wo r : Nat} : fitR n w wo r = true ↔ FitA n w r wo := by
  constructor
  · intro h s hs
    exact of_decide_eq_true (allB_iff h s hs)
  · intro h
    unfold fitR
    simp only [allB, Bool.and_true, Bool.and_eq_true, decide_eq_true_eq]
    exact ⟨h 3 (by decide), h 2 (by decide), h 1 (by decide), h 0 (by decide)⟩
noncomputable def rowsL (n : Nat) (w : Nat → Int) (wo : Nat) : List Nat := (List.range (fct n)).filter (fitR n w wo)
theorem rng_s (p : Nat → Bool) (r : Nat) : (List.range (r + 1)).filter p = (List.range r).filter p ++ (if p r then [r] else []) := by
  rw [List.range_succ, List.filter_append]
  congr 1
  simp only [List.filter_cons, List.filter_nil]
theorem rng_le (p : Nat → Bool) (r : Nat) : ((List.range r).filter p).length ≤ r := by
  have := List.length_filter_le p (List.range r)
  rw [List.length_range] at this
  exact this
theorem KL.push {S : MS} {m l : Nat} {L : List Nat} {r : Nat} (h : KL S m l L) : KL ((S.setI (m+8) (5040 * l + L.length) (r : Int)).setI (m+9) l ((L.length : Int) + 1)) m l (L ++ [r]) := by
  refine ⟨?_, fun k hk => ?_⟩
  · rw [sI_I, if_pos ⟨rfl, rfl⟩, List.length_append]
    rfl
  · rw [List.length_append, List.length_singleton] at hk
    rw [sI_Ia (by omega), sI_I, List.getD_eq_getElem?_getD]
    by_cases c : k = L.length
    · rw [if_pos ⟨rfl, by omega⟩, c, List.getElem?_append_right (Nat.le_refl _), Nat.sub_self]
      rfl
    · rw [if_neg (by omega), List.getElem?_append_left (by omega), ← List.getD_eq_getElem?_getD]
      exact h.2 k (by omega)
theorem f_leaves13 {d m n : Nat} {Q : Out → MS → Prop} {w : Nat → Int} (hd : 5 ≤ d) (hg : GW n w) : ∀ (j : Nat) {S : MS} {r : Nat}, RLay S m → S.I (m+1) = w → Tb S m n → r + j = fct n → KL S m 0 ((List.range r).filter (fitR n w 0)) →
    (∀ S', Fr m [7, 8, 9] [] S S' → Tb S' m n → KL S' m 0 (rowsL n w 0) → Q (.inl none) S') → VX11_leaves_13 d Q (j + 1) m (r : Nat) S := by
  have hg' := hg
  obtain ⟨⟨h3, h7, h0⟩, -⟩ := hg
  have hf := fct_le h3 h7
  intro j
  induction j with
  | zero =>
    intro S r hL hw hT hr hk h
    have hl := hL
    unfold RLay at hl
    unfold VX11_leaves_13
    simp only [hl, sI_K, sI_N, sI_R, sI_J, Option.some.injEq, exists_eq_left', true_and, and_true, Int.toNat_zero, Int.reduceToNat, Int.reduceLT, Int.reduceLE, Int.cast_ofNat_Int, forall_eq, ge_iff_le, Int.reduceNeg, Int.reduceAdd, Int.reduceSub, Int.reduceMul, Int.reduceEq, r32_0, r32_1, r32_m1, b01_0, b01_1, not_true_eq_false, not_false_eq_true, false_implies, true_implies, implies_true, forall_const]
    rw [hT.2.1]
    refine ⟨⟨(by unfold R32; omega), (by unfold R32; omega)⟩, fun _ => h S Fr.rf hT ?_, fun c => by omega⟩
    rw [show r = fct n by omega] at hk
    exact hk
  | succ j ih =>
    intro S r hL hw hT hr hk h
    have hl := hL
    unfold RLay at hl
    unfold VX11_leaves_13
    simp only [hl, sI_K, sI_N, sI_R, sI_J, Option.some.injEq, exists_eq_left', true_and, and_true, Int.toNat_zero, Int.reduceToNat, Int.reduceLT, Int.reduceLE, Int.cast_ofNat_Int, forall_eq, ge_iff_le, Int.reduceNeg, Int.reduceAdd, Int.reduceSub, Int.reduceMul, Int.reduceEq, r32_0, r32_1, r32_m1, b01_0, b01_1, not_true_eq_false, not_false_eq_true, false_implies, true_implies, implies_true, forall_const]
    rw [hT.2.1]
    refine ⟨⟨(by unfold R32; omega), (by unfold R32; omega)⟩, fun _ => by omega, fun c => c_fitsAll (n := n) (r := r) (wo := 0) (by omega) hL (by rw [hw]; exact hg') hT rfl rfl (by omega) (by decide) (fun S1 q f1 hq => oI_i ?_)⟩
    rw [hw, ← fitR_iff] at hq
    have hL1 := f1.lay hL
    have hw1 : S1.I (m+1) = w := by rw [f1.arr (by decide) (by decide), hw]
    have hT1 := f1.tb (by decide) (by decide) (by decide) hT
    have hk1 := f1.kl (by decide) (by decide) hk
    have hl := hL1
    unfold RLay at hl
    have e := rng_s (fitR n w 0) r
    have hle := rng_le (fitR n w 0) r
    unfold VX11_leaves_56
    rcases hq with ⟨rfl, hq⟩ | ⟨rfl, hq⟩
    · simp only [hl, sI_K, sI_N, sI_R, sI_J, Option.some.injEq, exists_eq_left', true_and, and_true, Int.toNat_zero, Int.reduceToNat, Int.reduceLT, Int.reduceLE, Int.cast_ofNat_Int, forall_eq, ge_iff_le, Int.reduceNeg, Int.reduceAdd, Int.reduceSub, Int.reduceMul, Int.reduceEq, r32_0, r32_1, r32_m1, b01_0, b01_1, not_true_eq_false, not_false_eq_true, false_implies, true_implies, implies_true, forall_const]
      rw [hk1.1, Int.toNat_natCast, i2S_n (by omega), i2S_n (by omega)]
      rw [if_pos hq] at e
      have p := KL.push (r := r) hk1
      rw [← e] at p
      rw [sI_Ia (by omega), hk1.1]
      rw [show 5040 * 0 + ((List.range r).filter (fitR n w 0)).length = ((List.range r).filter (fitR n w 0)).length by omega] at p
      refine ⟨by omega, ?_⟩
      exact ih (r := r + 1) (by exact hL1) (by rw [sI_Ia (by omega), sI_Ia (by omega)]; exact hw1) (Fr.tb (A := [8, 9]) (B := []) ((Fr.sA (by decide) (by decide)).tr (Fr.sA (by decide) (by decide))) (by decide) (by decide) (by decide) hT1) (by omega) p (fun S' k1 k2 k3 => h S' ((f1.wk (by decide) (by decide)).tr ((Fr.sA (by decide) (by decide)).tr ((Fr.sA (by decide) (by decide)).tr k1))) k2 k3)
    · simp only [hl, sI_K, sI_N, sI_R, sI_J, Option.some.injEq, exists_eq_left', true_and, and_true, Int.toNat_zero, Int.reduceToNat, Int.reduceLT, Int.reduceLE, Int.cast_ofNat_Int, forall_eq, ge_iff_le, Int.reduceNeg, Int.reduceAdd, Int.reduceSub, Int.reduceMul, Int.reduceEq, r32_0, r32_1, r32_m1, b01_0, b01_1, not_true_eq_false, not_false_eq_true, false_implies, true_implies, implies_true, forall_const]
      rw [if_neg hq, List.append_nil] at e
      exact ih (r := r + 1) hL1 hw1 hT1 (by omega) (by rw [e]; exact hk1) (fun S' k1 k2 k3 => h S' ((f1.wk (by decide) (by decide)).tr k1) k2 k3)
theorem c_leaves {d m n : Nat} {S : MS} {Q : Out → MS → Prop} (hd : 6 ≤ d) (hL : RLay S m) (hg : GW n (S.I (m+1))) (hT : Tbl S m) (h : ∀ S', Fr m [6, 7, 8, 9] [13, 14] S S' → Tb S' m n → KL S' m 0 (rowsL n (S.I (m+1)) 0) → Q (.inl none) S') : Mw hX11_leaves yX11_leaves d [vA m] S Q := by
  have hg' := hg
  obtain ⟨⟨h3, h7, h0⟩, -⟩ := hg
  obtain ⟨e, rfl⟩ : ∃ e, d = e + 1 := ⟨d - 1, by omega⟩
  refine MX11_leaves ?_
  have hl := hL
  unfold RLay at hl
  unfold VX11_leaves_0
  simp only [hl, sI_K, sI_N, sI_R, sI_J, Option.some.injEq, exists_eq_left', true_and, and_true, Int.toNat_zero, Int.reduceToNat, Int.reduceLT, Int.reduceLE, Int.cast_ofNat_Int, forall_eq, ge_iff_le, Int.reduceNeg, Int.reduceAdd, Int.reduceSub, Int.reduceMul, Int.reduceEq, r32_0, r32_1, r32_m1, b01_0, b01_1, not_true_eq_false, not_false_eq_true, false_implies, true_implies, implies_true, forall_const]
  refine c_fills (n := n) (by omega) hL hT h3 h7 h0 (fun S1 f1 t1 => oV_i ?_)
  have hL1 := f1.lay hL
  have hw1 : S1.I (m+1) = S.I (m+1) := f1.arr (by decide) (by decide)
  have hl := hL1
  unfold RLay at hl
  simp only [hl, sI_K, sI_N, sI_R, sI_J, Option.some.injEq, exists_eq_left', true_and, and_true, Int.toNat_zero, Int.reduceToNat, Int.reduceLT, Int.reduceLE, Int.cast_ofNat_Int, forall_eq, ge_iff_le, Int.reduceNeg, Int.reduceAdd, Int.reduceSub, Int.reduceMul, Int.reduceEq, r32_0, r32_1, r32_m1, b01_0, b01_1, not_true_eq_false, not_false_eq_true, false_implies, true_implies, implies_true, forall_const]
  refine ⟨_, f_leaves13 (w := S.I (m+1)) (n := n) (by omega) hg' (fct n) (r := 0) (by exact hL1) (by rw [sI_Ia (by omega)]; exact hw1) (Fr.tb (A := [9]) (B := []) (Fr.sA (by decide) (by decide)) (by decide) (by decide) (by decide) t1) (by omega) ⟨?_, fun k hk => absurd hk (Nat.not_lt_zero k)⟩ (fun S' k1 k2 k3 => h S' ((f1.wk (by decide) (by decide)).tr ((Fr.sA (by decide) (by decide)).tr (k1.wk (by decide) (by decide)))) k2 k3)⟩
  rw [sI_I, if_pos ⟨rfl, rfl⟩]
  rfl
