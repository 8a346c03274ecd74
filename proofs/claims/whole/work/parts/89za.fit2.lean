/-! the fit of notes of which one is told otherwise -/
def UW (w u : Nat → Int) : Prop := (∀ i, nS u i = nS w i) ∧ nN u = nN w ∧ (∀ s, s < 4 → lie u s = lie w s) ∧ sN u = sN w
theorem kf_borne2 {d ft sr n lo hi s v : Nat} {w u : Nat → Int} {wo : Int} {S : MS} {Q : Out → MS → Prop} (h3 : 3 ≤ n) (h7 : n ≤ 7) (hu : UW w u) (hF : FT S ft) (hS : SS S sr n w) (hM : AM S ft n u lo hi (nN w)) (hs : s < sN w) (hv : v < Wn n) (hwo : R32 wo) (h : Q (.inl (some (vL (wdv (fun r => decide (mC n u wo s r (nN w) ≤ lie w s)) v)))) S) : ∀ (j : Nat) {i : Nat}, i + j = nN w → VX1_borne_15 d Q (j + 1) ft sr (s : Nat) wo (v : Nat) (wdv (mW n u wo s i 1) v) (wdv (mW n u wo s i 2) v) (wdv (mW n u wo s i 3) v) (wdv (mW n u wo s i 4) v) (i : Nat) S := by
  have hW := Wn_le h3 h7
  obtain ⟨hY, ⟨⟨w0, w1, w2, w3⟩, wt, wk, wn⟩, hg⟩ := hS
  have g0 := hg.1
  have g1 := hg.2.1
  have g2 := hg.2.2.1
  have g3 := hg.2.2.2.1
  have hl := hY
  unfold SY at hl
  have k1 := (hg.sc hs).2.2
  intro j
  induction j with
  | zero =>
    intro i hi
    unfold VX1_borne_15
    simp only [hl, sI_K, sI_N, sI_R, sI_J, sJ_K, sJ_N, sJ_R, sJ_I, sR_K, sR_N, sR_I, sR_J, Option.some.injEq, exists_eq_left', true_and, and_true, and_self_left, Int.toNat_natCast, Int.toNat_zero, Int.reduceToNat, Int.reduceLT, Int.reduceLE, Nat.reduceLeDiff, Nat.reduceLT, Int.cast_ofNat_Int, forall_eq, ge_iff_le, Int.reduceNeg, Int.reduceAdd, Int.reduceSub, Int.reduceMul, Int.reduceEq, r32_0, r32_1, r32_m1, b01_0, b01_1, not_true_eq_false, not_false_eq_true, false_implies, true_implies, implies_true, forall_const]
    rw [w2, g2.1, (wk s hs).2.2, k1.1, show i = nN w by omega, mW_end, mW_end, mW_end, mW_end]
    refine ⟨⟨(by unfold R32; omega), (by unfold R32; omega)⟩, fun _ => ⟨by omega, (by unfold R32; omega), fun c => ?_, fun c => ?_, fun c => ?_, fun c => ?_⟩, fun c => by omega⟩
    · rw [show lie w s = 0 by omega] at h; exact h
    · rw [show lie w s = 1 by omega] at h; exact h
    · rw [show lie w s = 2 by omega] at h; exact h
    · rw [show lie w s = 3 by omega] at h; exact h
  | succ j ih =>
    intro i hi
    have hi' : i < nN w := by omega
    obtain ⟨n1, n2, n3⟩ := hg.nt hi'
    have ih' := ih (i := i + 1) (by omega)
    obtain ⟨e, e1, e2, e3⟩ := hM i hi'
    have no : ¬ (nS w i = s ∧ (i : Int) ≠ wo) → VX1_borne_15 d Q (j + 1) ft sr (s : Nat) wo (v : Nat) (wdv (mW n u wo s i 1) v) (wdv (mW n u wo s i 2) v) (wdv (mW n u wo s i 3) v) (wdv (mW n u wo s i 4) v) ((i : Int) + 1) S := by
      intro z
      have z' : ¬ (nS u i = s ∧ (i : Int) ≠ wo) := by rw [hu.1]; exact z
      rw [mW_no z', mW_no z', mW_no z', mW_no z'] at ih'
      exact ih'
    unfold VX1_borne_15 VX1_borne_107
    simp only [hl, sI_K, sI_N, sI_R, sI_J, sJ_K, sJ_N, sJ_R, sJ_I, sR_K, sR_N, sR_I, sR_J, Option.some.injEq, exists_eq_left', true_and, and_true, and_self_left, Int.toNat_natCast, Int.toNat_zero, Int.reduceToNat, Int.reduceLT, Int.reduceLE, Nat.reduceLeDiff, Nat.reduceLT, Int.cast_ofNat_Int, forall_eq, ge_iff_le, Int.reduceNeg, Int.reduceAdd, Int.reduceSub, Int.reduceMul, Int.reduceEq, r32_0, r32_1, r32_m1, b01_0, b01_1, not_true_eq_false, not_false_eq_true, false_implies, true_implies, implies_true, forall_const]
    rw [w2, g2.1, (wn i hi').1, n1.1]
    refine ⟨⟨(by unfold R32; omega), (by unfold R32; omega)⟩, fun c => by omega, fun _ => ⟨by omega, ⟨(by unfold R32; omega), (by unfold R32; omega)⟩, fun c => no (by omega), fun c => ⟨⟨(by unfold R32; omega), hwo⟩, fun c2 => no (by omega), fun c2 => ⟨hF.1, ft+1, hF.2.1, ⟨hF.2.2.1, by omega, by rw [hF.2.2.2]; omega⟩, e, e1, by rw [e3.1]; omega, ⟨(by unfold R32; omega), by rw [e3.2.1]; exact (by unfold R32; omega)⟩, fun c3 => absurd c3 (by rw [e3.2.1]; omega), fun _ => ⟨hF.1, ft+1, hF.2.1, ⟨hF.2.2.1, by omega, by rw [hF.2.2.2]; omega⟩, e, e1, ⟨e3.1, by omega, by rw [e3.2.1]; omega⟩, ?_⟩⟩⟩⟩⟩
    have q1 : nS u i = s := by rw [hu.1]; omega
    rw [e3.2.2 v hv, mW_yes1 q1 c2, mW_yes q1 c2, mW_yes q1 c2, mW_yes q1 c2]
    exact ih'
theorem k_borne2 {d ft sr n lo hi s v : Nat} {w u : Nat → Int} {wo x y : Int} {S : MS} {Q : Out → MS → Prop} (hd : 1 ≤ d) (h3 : 3 ≤ n) (h7 : n ≤ 7) (hu : UW w u) (hF : FT S ft) (hS : SS S sr n w) (hM : AM S ft n u lo hi (nN w)) (hx : x = (s : Int)) (hy : y = (v : Int)) (hs : s < sN w) (hv : v < Wn n) (hwo : R32 wo) (h : Q (.inl (some (vL (wdv (fun r => decide (mC n u wo s r (nN w) ≤ lie w s)) v)))) S) : Mw hX1_borne yX1_borne d [vA ft, vA sr, vI x, vI wo, vI y] S Q := by
  subst hx hy
  obtain ⟨dd, rfl⟩ : ∃ e, d = e + 1 := ⟨d - 1, by omega⟩
  refine MX1_borne ?_
  unfold VX1_borne_0
  have := kf_borne2 (d := dd) h3 h7 hu hF hS hM hs hv hwo h (nN w) (i := 0) (by omega)
  have z : ∀ t, wdv (mW n u wo s 0 (t + 1)) v = 0#64 := fun t => by
    rw [← wdv_no v]
    refine wdv_eq (fun b _ => ?_)
    unfold mW
    rw [decide_eq_false]
    show ¬ t + 1 ≤ 0
    omega
  rw [z 0, z 1, z 2, z 3] at this
  exact ⟨_, this⟩
theorem kf_fit292 {d ft sr b n lo hi li a v : Nat} {w u : Nat → Int} {wo : Int} {S : MS} {Q : Out → MS → Prop} {c8 : Nat → Nat → Nat → Int → Nat → Int → MS → Prop} (hd : 2 ≤ d) (h3 : 3 ≤ n) (h7 : n ≤ 7) (hu : UW w u) (hF : FT S ft) (hS : SS S sr n w) (hM : AM S ft n u lo hi (nN w)) (hv : v < Wn n) (hwo : R32 wo) (hR : RS_ S a (cut (inR n (allS n u wo (sN w))) v)) (h : ∀ S', Fi a (a+3) S S' → RS_ S' a (cut (inR n (allS n u wo (sN w))) (v + 1)) → c8 ft sr b wo a ((v : Int) + 1) S') : ∀ (j : Nat) {m : Nat}, m + j = sN w → VX1_fit_29 d c8 Q (j + 1) ft sr b wo a (v : Nat) (wdv (inR n (allS n u wo m)) v) (m : Nat) S := by
  have hW := Wn_le h3 h7
  have hS' := hS
  obtain ⟨hY, ⟨⟨w0, w1, w2, w3⟩, wt, wk, wn⟩, hg⟩ := hS
  have g0 := hg.1
  have g1 := hg.2.1
  have g2 := hg.2.2.1
  have g3 := hg.2.2.2.1
  have hl := hY
  unfold SY at hl
  intro j
  induction j with
  | zero =>
    intro m hm
    unfold VX1_fit_29
    rw [w1, g1.1]
    rw [show m = sN w by omega]
    exact ⟨hl.1, ⟨(by unfold R32; omega), (by unfold R32; omega)⟩, fun _ => ⟨hR.1.1, c_rAdd hd hR rfl (by omega) rfl (fun S' f r => oV_i (h S' f r))⟩, fun c => by omega⟩
  | succ j ih =>
    intro m hm
    unfold VX1_fit_29
    rw [w1, g1.1]
    refine ⟨hl.1, ⟨(by unfold R32; omega), (by unfold R32; omega)⟩, fun c => by omega, fun _ => ⟨hF.1, k_borne2 (by omega) h3 h7 hu hF hS' hM rfl rfl (by omega) hv hwo (oL_i ?_)⟩⟩
    rw [wdv_and]
    have := ih (m := m + 1) (by omega)
    rw [wdv_eq (p := inR n (allS n u wo (m + 1))) (q := fun r => inR n (allS n u wo m) r && decide (mC n u wo m r (nN w) ≤ lie w m)) (w := v) (fun b _ => ?_)] at this
    · exact this
    · unfold inR allS
      show (_ && (_ && _)) = ((_ && _) && _)
      rw [hu.2.1]
      dsimp only
      rw [hu.2.2.1 m (by omega)]
      rw [Bool.and_assoc]
      congr 1
      exact Bool.and_comm _ _
theorem kf_fit82 {d ft sr b n lo hi li a : Nat} {w u : Nat → Int} {wo : Int} {Q : Out → MS → Prop} (hu : UW w u) (hd : 2 ≤ d) (h3 : 3 ≤ n) (h7 : n ≤ 7) (hwo : R32 wo) (hal : a + 3 ≤ lo) (has : sr + 8 ≤ a ∨ a + 3 ≤ sr) : ∀ (j : Nat) {S : MS} {v : Nat}, v + j = Wn n → FT S ft → SS S sr n w → AM S ft n u lo hi (nN w) → AR S b n lo hi li → RS_ S a (cut (inR n (allS n u wo (sN w))) v) → (∀ S', Fi a (a+3) S S' → RS_ S' a (inR n (allS n u wo (sN w))) → Q (.inl none) S') → VX1_fit_8 d Q (j + 1) ft sr b wo a (v : Nat) S := by
  have hW := Wn_le h3 h7
  intro j
  induction j with
  | zero =>
    intro S v hv hF hS hM hA hR h
    have e : cut (inR n (allS n u wo (sN w))) v = inR n (allS n u wo (sN w)) := by
      funext r
      unfold cut
      rcases Nat.lt_or_ge r (64 * v) with c | c
      · rw [decide_eq_true c, Bool.true_and]
      · rw [decide_eq_false (by omega)]
        unfold inR
        rw [decide_eq_false (show ¬ r < fct n by rw [show v = Wn n by omega] at c; omega)]
        rfl
    rw [e] at hR
    unfold VX1_fit_8
    rw [hA.1.2.2.2.2]
    exact ⟨hA.1.1, ⟨(by unfold R32; omega), (by unfold R32; omega)⟩, fun _ => h S Fi.rf hR, fun c => by omega⟩
  | succ j ih =>
    intro S v hv hF hS hM hA hR h
    obtain ⟨c, c1, c2, c3⟩ := hA.2.1
    unfold VX1_fit_8
    rw [hA.1.2.2.2.2]
    refine ⟨hA.1.1, ⟨(by unfold R32; omega), (by unfold R32; omega)⟩, fun c => by omega, fun _ => ⟨hA.1.1, c, c1, ⟨c3.1, by omega, by rw [c3.2.1]; omega⟩, sN w + 1, ?_⟩⟩
    rw [Int.toNat_natCast, c3.2.2 v (by omega)]
    exact kf_fit292 (li := li) (m := 0) hd h3 h7 hu hF hS hM (by omega) hwo hR (fun S' f r => ih (v := v + 1) (by omega) (f.ft hF) (f.ss (by omega) hS) (f.am (by omega) hM) ((f.fz (by omega)).ar hA) r (fun S'' f2 => h S'' (f.tr f2))) (sN w) (by omega)
theorem k_fit2 {d ft sr b n lo hi li a : Nat} {w u : Nat → Int} {wo : Int} {q : Nat → Bool} {S : MS} {Q : Out → MS → Prop} (hd : 3 ≤ d) (h3 : 3 ≤ n) (h7 : n ≤ 7) (hwo : R32 wo) (hal : a + 3 ≤ lo) (has : sr + 8 ≤ a ∨ a + 3 ≤ sr) (hu : UW w u) (hF : FT S ft) (hS : SS S sr n w) (hM : AM S ft n u lo hi (nN w)) (hA : AR S b n lo hi li) (hR : RS_ S a q) (h : ∀ S', Fi a (a+3) S S' → RS_ S' a (inR n (allS n u wo (sN w))) → Q (.inl none) S') : Mw hX1_fit yX1_fit d [vA ft, vA sr, vA b, vI wo, vA a] S Q := by
  obtain ⟨dd, rfl⟩ : ∃ e, d = e + 1 := ⟨d - 1, by omega⟩
  refine MX1_fit ?_
  unfold VX1_fit_0
  refine ⟨hR.1.1, c_rClear (by omega) hR (fun S1 f1 r1 => oV_i ⟨Wn n + 1, ?_⟩)⟩
  have e : (fun _ : Nat => false) = cut (inR n (allS n u wo (sN w))) 0 := by
    funext r
    unfold cut
    rw [decide_eq_false (by omega)]
    rfl
  rw [e] at r1
  exact kf_fit82 hu (by omega) h3 h7 hwo hal has (Wn n) (v := 0) (by omega) (f1.ft hF) (f1.ss (by omega) hS) (f1.am (by omega) hM) ((f1.fz (by omega)).ar hA) r1 (fun S' f' => h S' (f1.tr f'))
