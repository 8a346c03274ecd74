theorem r32_ite {P : Prop} [Decidable P] : R32 (if P then 1 else 0) := by split <;> (unfold R32; decide)
/-! weights, notes, the image -/
theorem GW.wt {n : Nat} {w : Nat → Int} (h : GW n w) {t : Nat} (ht : t < 7) : 0 ≤ w (4 + t) ∧ w (4 + t) ≤ 999 := h.2.2.2.2.1 t ht
noncomputable def A_weight (n : Nat) (w : Nat → Int) (t v : Int) : Int × Int := if 0 ≤ t ∧ t < (n : Int) then (if 0 ≤ v ∧ v ≤ 999 then (0, w (4 + t.toNat)) else (2, 0)) else (1, 0)
noncomputable def U_weight (n : Nat) (w : Nat → Int) (t v : Int) : Nat → Int := if (A_weight n w t v).1 = 0 then upW w (4 + t.toNat) v else w
theorem c_weight {d m n : Nat} {S : MS} {Q : Out → MS → Prop} {t v : Int} (hd : 3 ≤ d) (hI : RI S m n) (ht : R32 t) (hv : R32 v) (h : ∀ S', RU m S S' (U_weight n (S.I (m+1)) t v) → S'.I m 0 = (A_weight n (S.I (m+1)) t v).1 → Q (.inl (some (vI (A_weight n (S.I (m+1)) t v).2))) S') : Mw hX11_weight yX11_weight d [vA m, vI t, vI v] S Q := by
  have hL := hI.1
  have h37 := hI.2.1.1
  obtain ⟨dd, rfl⟩ : ∃ e, d = e + 1 := ⟨d - 1, by omega⟩
  refine MX11_weight ?_
  have hl := hL
  unfold RLay at hl
  unfold VX11_weight_0
  simp only [hl, sI_K, sI_N, sI_R, sI_J, Option.some.injEq, exists_eq_left', true_and, and_true, Int.toNat_zero, Int.reduceToNat, Int.reduceLT, Int.reduceLE, Int.cast_ofNat_Int, forall_eq, ge_iff_le, Int.reduceNeg, Int.reduceAdd, Int.reduceSub, Int.reduceMul, Int.reduceEq, r32_0, r32_1, r32_m1, b01_0, b01_1, not_true_eq_false, not_false_eq_true, false_implies, true_implies, implies_true, forall_const]
  refine l_no (n := n) (by omega) hI ht (fun r hr => oI_i ⟨hL.1, t_if (by omega) (by exact hL) hr (fun c => oI_i ?_) (fun c => oI_i ?_)⟩)
  · have c' : 0 ≤ t ∧ t < (n : Int) := Classical.byContradiction c
    simp only [hl, sI_K, sI_N, sI_R, sI_J, Option.some.injEq, exists_eq_left', true_and, and_true, Int.toNat_zero, Int.reduceToNat, Int.reduceLT, Int.reduceLE, Int.cast_ofNat_Int, forall_eq, ge_iff_le, Int.reduceNeg, Int.reduceAdd, Int.reduceSub, Int.reduceMul, Int.reduceEq, r32_0, r32_1, r32_m1, b01_0, b01_1, not_true_eq_false, not_false_eq_true, false_implies, true_implies, implies_true, forall_const]
    unfold VX11_weight_35
    refine c_in (by omega) hv r32_0 (by unfold R32; omega) (fun r hr => oI_i ⟨hr.r, fun c2 => ⟨hL.1, t_if (P := False) (by omega) (by exact hL) (.n id) (fun _ => oI_i ?_) (fun k => k.elim)⟩, fun c2 => ⟨hL.1, t_if (P := True) (by omega) (by exact hL) (.y trivial) (fun k => absurd trivial k) (fun _ => oI_i ?_)⟩⟩)
    · simp only [hl, sI_K, sI_N, sI_R, sI_J, Option.some.injEq, exists_eq_left', true_and, and_true, Int.toNat_zero, Int.reduceToNat, Int.reduceLT, Int.reduceLE, Int.cast_ofNat_Int, forall_eq, ge_iff_le, Int.reduceNeg, Int.reduceAdd, Int.reduceSub, Int.reduceMul, Int.reduceEq, r32_0, r32_1, r32_m1, b01_0, b01_1, not_true_eq_false, not_false_eq_true, false_implies, true_implies, implies_true, forall_const]
      have cv : 0 ≤ v ∧ v ≤ 999 := by rcases hr with ⟨-, hr⟩ | ⟨rfl, -⟩ <;> omega
      have e : A_weight n (S.I (m+1)) t v = (0, S.I (m+1) (4 + t.toNat)) := by unfold A_weight; rw [if_pos c', if_pos cv]
      rw [show (4 + t).toNat = 4 + t.toNat by omega, sI_Ia (by omega)]
      refine ⟨by omega, by omega, fin2 h e (ru_of (A := [1]) (B := []) (RQ.s0 hI.2.2) (Fr.sA (o := 1) (by decide) (by decide)) (by decide) (by decide) (by decide) (by decide) (by decide) ?_) ?_⟩
      · unfold U_weight
        rw [e, if_pos rfl]
        exact set_up (sI_Ia (by omega))
      · rw [sI_Ia (by omega), sI_I, if_pos ⟨rfl, rfl⟩]
    · simp only [hl, sI_K, sI_N, sI_R, sI_J, Option.some.injEq, exists_eq_left', true_and, and_true, Int.toNat_zero, Int.reduceToNat, Int.reduceLT, Int.reduceLE, Int.cast_ofNat_Int, forall_eq, ge_iff_le, Int.reduceNeg, Int.reduceAdd, Int.reduceSub, Int.reduceMul, Int.reduceEq, r32_0, r32_1, r32_m1, b01_0, b01_1, not_true_eq_false, not_false_eq_true, false_implies, true_implies, implies_true, forall_const]
      have cv : ¬ (0 ≤ v ∧ v ≤ 999) := by rcases hr with ⟨rfl, -⟩ | ⟨-, hr⟩ <;> omega
      have e : A_weight n (S.I (m+1)) t v = (2, 0) := by unfold A_weight; rw [if_pos c', if_neg cv]
      refine fin2 h e ?_ rq_t
      unfold U_weight
      rw [e, if_neg (by decide)]
      exact (rq_x hI).u
  · simp only [hl, sI_K, sI_N, sI_R, sI_J, Option.some.injEq, exists_eq_left', true_and, and_true, Int.toNat_zero, Int.reduceToNat, Int.reduceLT, Int.reduceLE, Int.cast_ofNat_Int, forall_eq, ge_iff_le, Int.reduceNeg, Int.reduceAdd, Int.reduceSub, Int.reduceMul, Int.reduceEq, r32_0, r32_1, r32_m1, b01_0, b01_1, not_true_eq_false, not_false_eq_true, false_implies, true_implies, implies_true, forall_const]
    have e : A_weight n (S.I (m+1)) t v = (1, 0) := by unfold A_weight; rw [if_neg c]
    refine fin2 h e ?_ rq_t
    unfold U_weight
    rw [e, if_neg (by decide)]
    exact (rq_x hI).u
/-- one outweighs another -/
def ow (w : Nat → Int) (a b : Nat) : Prop := w (4 + b) < w (4 + a) ∨ (w (4 + a) = w (4 + b) ∧ b < a)
theorem c_outweighs {d m n a b : Nat} {S : MS} {Q : Out → MS → Prop} {x y : Int} (hd : 1 ≤ d) (hL : RLay S m) (hg : GW n (S.I (m+1))) (e1 : x = (a : Int)) (e2 : y = (b : Int)) (ha : a < n) (hb : b < n) (h : ∀ q, BI q (ow (S.I (m+1)) a b) → Q (.inl (some (vI q))) S) : Mw hX11_outweighs yX11_outweighs d [vA m, vI x, vI y] S Q := by
  subst e1 e2
  have h37 := hg.1
  have w1 := hg.wt (show a < 7 by omega)
  have w2 := hg.wt (show b < 7 by omega)
  obtain ⟨dd, rfl⟩ : ∃ e, d = e + 1 := ⟨d - 1, by omega⟩
  refine MX11_outweighs ?_
  have hl := hL
  unfold RLay at hl
  unfold VX11_outweighs_0
  simp only [hl, sI_K, sI_N, sI_R, sI_J, Option.some.injEq, exists_eq_left', true_and, and_true, Int.toNat_zero, Int.reduceToNat, Int.reduceLT, Int.reduceLE, Int.cast_ofNat_Int, forall_eq, ge_iff_le, Int.reduceNeg, Int.reduceAdd, Int.reduceSub, Int.reduceMul, Int.reduceEq, r32_0, r32_1, r32_m1, b01_0, b01_1, not_true_eq_false, not_false_eq_true, false_implies, true_implies, implies_true, forall_const]
  rw [show (4 + (a : Int)).toNat = 4 + a by omega, show (4 + (b : Int)).toNat = 4 + b by omega]
  refine ⟨by omega, by omega, ⟨(by unfold R32; omega), (by unfold R32; omega)⟩, fun c => ⟨⟨(by unfold R32; omega), (by unfold R32; omega)⟩, fun c2 => h _ (.n ?_), fun c2 => h _ (.y ?_)⟩, fun c => ⟨by omega, by omega, ⟨(by unfold R32; omega), (by unfold R32; omega)⟩, fun c2 => h _ (.n ?_), fun c2 => h _ (.y ?_)⟩⟩
  · unfold ow; omega
  · unfold ow; omega
  · unfold ow; omega
  · unfold ow; omega
/-- how many of a set a thing outweighs -/
noncomputable def owC (w : Nat → Int) (n x t : Nat) : Nat := cntB (fun u => dc (u ≠ t ∧ x.testBit u = true ∧ ow w t u)) n
noncomputable def trB (w : Nat → Int) (n kn x t : Nat) : Bool := x.testBit t && decide (owC w n x t = belK kn)
/-- the first from t on -/
def ff (p : Nat → Bool) : Nat → Nat → Int
  | 0, _ => -1
  | j + 1, t => if p t then (t : Int) else ff p j (t + 1)
theorem f_tr27 {d m n x t kn : Nat} {S : MS} {Q : Out → MS → Prop} {c2 : Nat → Int → Int → Int → MS → Prop} (hd : 1 ≤ d) (hL : RLay S m) (hg : GW n (S.I (m+1))) (hk : kn < 3) (hx : x < 2147483648) (ht : t < n) (h1 : owC (S.I (m+1)) n x t = belK kn → Q (.inl (some (vI (t : Nat)))) S) (h2 : owC (S.I (m+1)) n x t ≠ belK kn → c2 m (kn : Nat) (x : Nat) ((t : Int) + 1) S) : ∀ (j : Nat) {u : Nat}, u + j = n → VX11_truly_27 d c2 Q (j + 1) m (kn : Nat) (x : Nat) (t : Nat) (cntB (fun u => dc (u ≠ t ∧ x.testBit u = true ∧ ow (S.I (m+1)) t u)) u : Nat) (u : Nat) S := by
  have h37 := hg.1
  intro j
  induction j with
  | zero =>
    intro u hu
    unfold VX11_truly_27 VX11_truly_89
    have e : cntB (fun u => dc (u ≠ t ∧ x.testBit u = true ∧ ow (S.I (m+1)) t u)) u = owC (S.I (m+1)) n x t := by rw [show u = n by omega]; rfl
    rw [e]
    have hb := belK_lt kn
    have hc : owC (S.I (m+1)) n x t ≤ n := cntB_le _ _
    refine ⟨hL.1, c_things (by omega) hL (oI_i ?_)⟩
    rw [h37.2.2]
    refine ⟨⟨(by unfold R32; omega), (by unfold R32; omega)⟩, fun _ => c_below (by omega) rfl hk (oI_i ⟨⟨(by unfold R32; omega), (by unfold R32; omega)⟩, fun c => h2 (by omega), fun c => h1 (by omega)⟩), fun c => by omega⟩
  | succ j ih =>
    intro u hu
    unfold VX11_truly_27 VX11_truly_68 VX11_truly_69
    refine ⟨hL.1, c_things (by omega) hL (oI_i ?_)⟩
    rw [h37.2.2]
    have ih' := ih (u := u + 1) (by omega)
    have no : ¬ (u ≠ t ∧ x.testBit u = true ∧ ow (S.I (m+1)) t u) → VX11_truly_27 d c2 Q (j + 1) m (kn : Nat) (x : Nat) (t : Nat) ((cntB (fun u => dc (u ≠ t ∧ x.testBit u = true ∧ ow (S.I (m+1)) t u)) u : Nat) + 0) ((u : Int) + 1) S := by
      intro c
      unfold cntB at ih'
      rw [dc_n c, if_neg (by decide)] at ih'
      exact ih'
    have ys : (u ≠ t ∧ x.testBit u = true ∧ ow (S.I (m+1)) t u) → VX11_truly_27 d c2 Q (j + 1) m (kn : Nat) (x : Nat) (t : Nat) ((cntB (fun u => dc (u ≠ t ∧ x.testBit u = true ∧ ow (S.I (m+1)) t u)) u : Nat) + 1) ((u : Int) + 1) S := by
      intro c
      unfold cntB at ih'
      rw [dc_y c, if_pos rfl] at ih'
      exact ih'
    rw [iBit_n hx (by omega)]
    refine ⟨⟨(by unfold R32; omega), (by unfold R32; omega)⟩, fun _ => by omega, fun c => ⟨⟨(by unfold R32; omega), (by unfold R32; omega)⟩, fun c2 => no (fun k => k.1 (by omega)), fun c2 => ⟨⟨r32_ite, r32_1⟩, fun c3 => no (fun k => ?_), fun c3 => ⟨hL.1, c_outweighs (a := t) (b := u) (n := n) (by omega) hL hg rfl rfl ht (by omega) (fun q hq => oI_i ⟨hq.r, fun c4 => no (fun k => ?_), fun c4 => ys ⟨by omega, ?_, ?_⟩⟩)⟩⟩⟩⟩
    · rw [if_pos k.2.1] at c3
      exact c3 rfl
    · rcases hq with ⟨rfl, -⟩ | ⟨-, hq⟩
      · omega
      · exact hq k.2.2
    · by_cases g : x.testBit u = true
      · exact g
      · rw [if_neg g] at c3
        omega
    · rcases hq with ⟨-, hq⟩ | ⟨rfl, -⟩
      · exact hq
      · omega
theorem f_tr2 {d m n x kn : Nat} {S : MS} {Q : Out → MS → Prop} (hd : 1 ≤ d) (hL : RLay S m) (hg : GW n (S.I (m+1))) (hk : kn < 3) (hx : x < 2147483648) : ∀ (j : Nat) {t : Nat}, t + j = n → Q (.inl (some (vI (ff (trB (S.I (m+1)) n kn x) j t)))) S → VX11_truly_2 d Q (j + 1) m (kn : Nat) (x : Nat) (t : Nat) S := by
  have h37 := hg.1
  intro j
  induction j with
  | zero =>
    intro t ht h
    unfold VX11_truly_2
    refine ⟨hL.1, c_things (by omega) hL (oI_i ?_)⟩
    rw [h37.2.2]
    exact ⟨⟨(by unfold R32; omega), (by unfold R32; omega)⟩, fun _ => h, fun c => by omega⟩
  | succ j ih =>
    intro t ht h
    unfold VX11_truly_2 VX11_truly_89
    refine ⟨hL.1, c_things (by omega) hL (oI_i ?_)⟩
    rw [h37.2.2, iBit_n hx (by omega)]
    unfold ff at h
    refine ⟨⟨(by unfold R32; omega), (by unfold R32; omega)⟩, fun _ => by omega, fun c => ⟨r32_ite, fun c2 => ?_, fun c2 => ?_⟩⟩
    · have hb : x.testBit t = true := by
        by_cases g : x.testBit t = true
        · exact g
        · rw [if_neg g] at c2; exact absurd rfl c2
      refine ⟨n + 1, f_tr27 hd hL hg hk hx (by omega) (fun e => ?_) (fun e => ?_) n (u := 0) (by omega)⟩
      · rw [if_pos (by unfold trB; rw [hb, e]; simp)] at h
        exact h
      · rw [if_neg (by unfold trB; rw [hb]; simpa using e)] at h
        exact ih (t := t + 1) (by omega) h
    · have hb : ¬ x.testBit t = true := by
        intro g
        rw [if_pos g] at c2
        omega
      rw [if_neg (by unfold trB; simp [hb])] at h
      exact ih (t := t + 1) (by omega) h
noncomputable def trF (w : Nat → Int) (n kn x : Nat) : Int := ff (trB w n kn x) n 0
theorem c_truly {d m n kn x : Nat} {S : MS} {Q : Out → MS → Prop} {x1 x2 : Int} (hd : 2 ≤ d) (hL : RLay S m) (hg : GW n (S.I (m+1))) (e1 : x1 = (kn : Int)) (e2 : x2 = (x : Int)) (hk : kn < 3) (hx : x < 2147483648) (h : Q (.inl (some (vI (trF (S.I (m+1)) n kn x)))) S) : Mw hX11_truly yX11_truly d [vA m, vI x1, vI x2] S Q := by
  subst e1 e2
  obtain ⟨dd, rfl⟩ : ∃ e, d = e + 1 := ⟨d - 1, by omega⟩
  refine MX11_truly ?_
  unfold VX11_truly_0
  exact ⟨_, f_tr2 (by omega) hL hg hk hx n (t := 0) (by omega) h⟩
theorem l_noS {d m n : Nat} {S : MS} {Q : Out → MS → Prop} {v : Int} (hd : 2 ≤ d) (hI : RI S m n) (hv : R32 v) (h : ∀ r, BI r (¬ (0 ≤ v ∧ v < (sN (S.I (m+1)) : Int))) → Q (.inl (some (vI r))) (S.setI m 0 0)) : Mw hX11_noScale yX11_noScale d [vA m, vI v] (S.setI m 0 0) Q := by
  have h0 := hI.2.1.2.1
  refine c_noScale hd (by exact hI.1) hv (by rw [sI_Ia (by omega)]; omega) (fun r hr => h r ?_)
  rw [sI_Ia (by omega), h0.1] at hr
  exact hr
theorem l_noSet {d m n i : Nat} {S : MS} {Q : Out → MS → Prop} {x y : Int} (hd : 3 ≤ d) (hI : RI S m n) (e : y = (i : Int)) (hi : i < sN (S.I (m+1))) (hx : R32 x) (h : ∀ q, BI q (¬ IsSet n (pansK (kd (S.I (m+1)) i)) x) → Q (.inl (some (vI q))) (S.setI m 0 0)) : Mw hX11_isNoSet yX11_isNoSet d [vA m, vI y, vI x] (S.setI m 0 0) Q := by
  have h0 := hI.2.1
  have e0 : (S.setI m 0 0).I (m+1) = S.I (m+1) := sI_Ia (by omega)
  refine c_isNoSet (n := n) hd (by exact hI.1) (by rw [e0]; exact h0) e (by rw [e0]; exact hi) hx (fun r hr => h r ?_)
  rw [e0] at hr
  exact hr
theorem GW.sc {n : Nat} {w : Nat → Int} (h : GW n w) {s : Nat} (hs : s < sN w) : (w (11 + 3 * s) = (kd w s : Int) ∧ kd w s < 3) ∧ (w (12 + 3 * s) = (prc w s : Int) ∧ prc w s ≤ 99) ∧ (w (13 + 3 * s) = (lie w s : Int) ∧ lie w s ≤ 3) := h.2.2.2.2.2.1 s hs
theorem GW.nt {n : Nat} {w : Nat → Int} (h : GW n w) {i : Nat} (hi : i < nN w) : (w (23 + 3 * i) = (nS w i : Int) ∧ nS w i < sN w) ∧ (w (24 + 3 * i) = (nX w i : Int) ∧ nX w i < 2 ^ n ∧ pc (nX w i) = pansK (kd w (nS w i))) ∧ (w (25 + 3 * i) = (nT w i : Int) ∧ nT w i < n ∧ (nX w i).testBit (nT w i) = true) := h.2.2.2.2.2.2 i hi
noncomputable def A_rises (n : Nat) (w : Nat → Int) (s x : Int) : Int × Int := if 0 ≤ s ∧ s < (sN w : Int) then (@ite _ (IsSet n (pansK (kd w s.toNat)) x) (Classical.propDecidable _) (0, trF w n (kd w s.toNat) x.toNat) (2, 0)) else (1, 0)
theorem c_rises {d m n : Nat} {S : MS} {Q : Out → MS → Prop} {s x : Int} (hd : 4 ≤ d) (hI : RI S m n) (hs : R32 s) (hx : R32 x) (h : ∀ S', RQ m S S' → S'.I m 0 = (A_rises n (S.I (m+1)) s x).1 → Q (.inl (some (vI (A_rises n (S.I (m+1)) s x).2))) S') : Mw hX11_rises yX11_rises d [vA m, vI s, vI x] S Q := by
  have hL := hI.1
  have hg := hI.2.1
  have p7 := p2_7 hg.1.2.1
  obtain ⟨dd, rfl⟩ : ∃ e, d = e + 1 := ⟨d - 1, by omega⟩
  refine MX11_rises ?_
  have hl := hL
  unfold RLay at hl
  unfold VX11_rises_0
  simp only [hl, sI_K, sI_N, sI_R, sI_J, Option.some.injEq, exists_eq_left', true_and, and_true, Int.toNat_zero, Int.reduceToNat, Int.reduceLT, Int.reduceLE, Int.cast_ofNat_Int, forall_eq, ge_iff_le, Int.reduceNeg, Int.reduceAdd, Int.reduceSub, Int.reduceMul, Int.reduceEq, r32_0, r32_1, r32_m1, b01_0, b01_1, not_true_eq_false, not_false_eq_true, false_implies, true_implies, implies_true, forall_const]
  refine l_noS (n := n) (by omega) hI hs (fun r hr => oI_i ⟨hL.1, t_if (by omega) (by exact hL) hr (fun c => oI_i ?_) (fun c => oI_i ?_)⟩)
  · have c' : 0 ≤ s ∧ s < (sN (S.I (m+1)) : Int) := Classical.byContradiction c
    have g1 := hg.2.1
    have b := hg.sc (s := s.toNat) (by omega)
    simp only [hl, sI_K, sI_N, sI_R, sI_J, Option.some.injEq, exists_eq_left', true_and, and_true, Int.toNat_zero, Int.reduceToNat, Int.reduceLT, Int.reduceLE, Int.cast_ofNat_Int, forall_eq, ge_iff_le, Int.reduceNeg, Int.reduceAdd, Int.reduceSub, Int.reduceMul, Int.reduceEq, r32_0, r32_1, r32_m1, b01_0, b01_1, not_true_eq_false, not_false_eq_true, false_implies, true_implies, implies_true, forall_const]
    refine l_noSet (n := n) (i := s.toNat) (by omega) hI (by omega) (by omega) hx (fun r hr => oI_i ⟨hL.1, t_if (by omega) (by exact hL) hr (fun c => oI_i ?_) (fun c => oI_i ?_)⟩)
    · have c2 : IsSet n (pansK (kd (S.I (m+1)) s.toNat)) x := Classical.byContradiction c
      simp only [hl, sI_K, sI_N, sI_R, sI_J, Option.some.injEq, exists_eq_left', true_and, and_true, Int.toNat_zero, Int.reduceToNat, Int.reduceLT, Int.reduceLE, Int.cast_ofNat_Int, forall_eq, ge_iff_le, Int.reduceNeg, Int.reduceAdd, Int.reduceSub, Int.reduceMul, Int.reduceEq, r32_0, r32_1, r32_m1, b01_0, b01_1, not_true_eq_false, not_false_eq_true, false_implies, true_implies, implies_true, forall_const]
      have e0 : (S.setI m 0 0).I (m+1) = S.I (m+1) := sI_Ia (by omega)
      refine c_ofScale (i := s.toNat) (q := 0) (by omega) (by exact hL) (by omega) rfl (by omega) (by decide) (oI_i ⟨hL.1, c_truly (n := n) (kn := kd (S.I (m+1)) s.toNat) (x := x.toNat) (by omega) (by exact hL) (by rw [e0]; exact hg) (by rw [e0]; exact b.1.1) c2.n.1 b.1.2 (by have := c2.n.2.1; omega) (oI_i ?_)⟩)
      rw [e0]
      exact fin h (by unfold A_rises; rw [if_pos c', if_pos c2]) (RQ.s0 hI.2.2) (by rw [sI_I, if_pos ⟨rfl, rfl⟩])
    · simp only [hl, sI_K, sI_N, sI_R, sI_J, Option.some.injEq, exists_eq_left', true_and, and_true, Int.toNat_zero, Int.reduceToNat, Int.reduceLT, Int.reduceLE, Int.cast_ofNat_Int, forall_eq, ge_iff_le, Int.reduceNeg, Int.reduceAdd, Int.reduceSub, Int.reduceMul, Int.reduceEq, r32_0, r32_1, r32_m1, b01_0, b01_1, not_true_eq_false, not_false_eq_true, false_implies, true_implies, implies_true, forall_const]
      exact fin h (by unfold A_rises; rw [if_pos c', if_neg c]) (rq_x hI) rq_t
  · simp only [hl, sI_K, sI_N, sI_R, sI_J, Option.some.injEq, exists_eq_left', true_and, and_true, Int.toNat_zero, Int.reduceToNat, Int.reduceLT, Int.reduceLE, Int.cast_ofNat_Int, forall_eq, ge_iff_le, Int.reduceNeg, Int.reduceAdd, Int.reduceSub, Int.reduceMul, Int.reduceEq, r32_0, r32_1, r32_m1, b01_0, b01_1, not_true_eq_false, not_false_eq_true, false_implies, true_implies, implies_true, forall_const]
    exact fin h (by unfold A_rises; rw [if_neg c]) (rq_x hI) rq_t
