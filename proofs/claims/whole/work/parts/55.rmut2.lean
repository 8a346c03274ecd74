noncomputable def cD {α : Type} (P : Prop) (a b : α) : α := @ite α P (Classical.propDecidable P) a b
theorem cD_y {α : Type} {P : Prop} {a b : α} (h : P) : cD P a b = a := if_pos h
theorem cD_n {α : Type} {P : Prop} {a b : α} (h : ¬ P) : cD P a b = b := if_neg h
def okN (n : Nat) (w : Nat → Int) (s x t : Int) : Prop := IsSet n (pansK (kd w s.toNat)) x ∧ (0 ≤ t ∧ t < (n : Int)) ∧ x.toNat.testBit t.toNat = true
noncomputable def A_note (n : Nat) (w : Nat → Int) (s x t : Int) : Int × Int := if 0 ≤ s ∧ s < (sN w : Int) then cD (okN n w s x t) (if nN w = 16 then (3, 0) else (0, (nN w : Int))) (2, 0) else (1, 0)
def W_note (w : Nat → Int) (s x t : Int) : Nat → Int := upW (upW (upW (upW w (23 + 3 * nN w) s) (24 + 3 * nN w) x) (25 + 3 * nN w) t) 2 ((nN w : Int) + 1)
noncomputable def U_note (n : Nat) (w : Nat → Int) (s x t : Int) : Nat → Int := if (A_note n w s x t).1 = 0 then W_note w s x t else w
theorem c_note {d m n : Nat} {S : MS} {Q : Out → MS → Prop} {s x t : Int} (hd : 4 ≤ d) (hI : RI S m n) (hs : R32 s) (hx : R32 x) (ht : R32 t) (h : ∀ S', RU m S S' (U_note n (S.I (m+1)) s x t) → S'.I m 0 = (A_note n (S.I (m+1)) s x t).1 → Q (.inl (some (vI (A_note n (S.I (m+1)) s x t).2))) S') : Mw hX11_note yX11_note d [vA m, vI s, vI x, vI t] S Q := by
  have hL := hI.1
  have hg := hI.2.1
  have p7 := p2_7 hg.1.2.1
  have g1 := hg.2.1
  have g2 := hg.2.2.1
  have h37 := hg.1
  have e0 : (S.setI m 0 0).I (m+1) = S.I (m+1) := sI_Ia (by omega)
  obtain ⟨dd, rfl⟩ : ∃ e, d = e + 1 := ⟨d - 1, by omega⟩
  refine MX11_note ?_
  have hl := hL
  unfold RLay at hl
  unfold VX11_note_0
  simp only [hl, sI_K, sI_N, sI_R, sI_J, Option.some.injEq, exists_eq_left', true_and, and_true, Int.toNat_zero, Int.reduceToNat, Int.reduceLT, Int.reduceLE, Int.cast_ofNat_Int, forall_eq, ge_iff_le, Int.reduceNeg, Int.reduceAdd, Int.reduceSub, Int.reduceMul, Int.reduceEq, r32_0, r32_1, r32_m1, b01_0, b01_1, not_true_eq_false, not_false_eq_true, false_implies, true_implies, implies_true, forall_const]
  refine l_noS (n := n) (by omega) hI hs (fun r hr => oI_i ⟨hL.1, t_if (by omega) (by exact hL) hr (fun c => oI_i ?_) (fun c => oI_i ?_)⟩)
  · have c' : 0 ≤ s ∧ s < (sN (S.I (m+1)) : Int) := Classical.byContradiction c
    have bad : ¬ okN n (S.I (m+1)) s x t → VX11_note_44 dd Q m s x t m (S.setI m 0 0) := by
      intro cb
      unfold VX11_note_44 VX11_note_49
      refine ⟨hL.1, t_if (P := True) (by omega) (by exact hL) (.y trivial) (fun k => absurd trivial k) (fun _ => oI_i ?_)⟩
      simp only [hl, sI_K, sI_N, sI_R, sI_J, Option.some.injEq, exists_eq_left', true_and, and_true, Int.toNat_zero, Int.reduceToNat, Int.reduceLT, Int.reduceLE, Int.cast_ofNat_Int, forall_eq, ge_iff_le, Int.reduceNeg, Int.reduceAdd, Int.reduceSub, Int.reduceMul, Int.reduceEq, r32_0, r32_1, r32_m1, b01_0, b01_1, not_true_eq_false, not_false_eq_true, false_implies, true_implies, implies_true, forall_const]
      have e : A_note n (S.I (m+1)) s x t = (2, 0) := by unfold A_note; rw [if_pos c', cD_n cb]
      refine fin2 h e ?_ rq_t
      unfold U_note
      rw [e, if_neg (by decide)]
      exact (rq_x hI).u
    have b := hg.sc (s := s.toNat) (by omega)
    simp only [hl, sI_K, sI_N, sI_R, sI_J, Option.some.injEq, exists_eq_left', true_and, and_true, Int.toNat_zero, Int.reduceToNat, Int.reduceLT, Int.reduceLE, Int.cast_ofNat_Int, forall_eq, ge_iff_le, Int.reduceNeg, Int.reduceAdd, Int.reduceSub, Int.reduceMul, Int.reduceEq, r32_0, r32_1, r32_m1, b01_0, b01_1, not_true_eq_false, not_false_eq_true, false_implies, true_implies, implies_true, forall_const]
    refine l_noSet (n := n) (i := s.toNat) (by omega) hI (by omega) (by omega) hx (fun r hr => oI_i ⟨hr.r, fun c => bad (fun k => ?_), fun c => ⟨hL.1, l_no (n := n) (by omega) hI ht (fun r2 hr2 => oI_i ⟨hr2.r, fun c2 => bad (fun k => ?_), fun c2 => ?_⟩)⟩⟩)
    · rcases hr with ⟨-, hr⟩ | ⟨rfl, -⟩
      · exact hr k.1
      · omega
    · rcases hr2 with ⟨-, hr2⟩ | ⟨rfl, -⟩
      · exact hr2 k.2.1
      · omega
    · have q1 : IsSet n (pansK (kd (S.I (m+1)) s.toNat)) x := by
        rcases hr with ⟨rfl, -⟩ | ⟨-, hr⟩
        · omega
        · exact Classical.byContradiction hr
      have q2 : 0 ≤ t ∧ t < (n : Int) := by rcases hr2 with ⟨rfl, -⟩ | ⟨-, hr2⟩ <;> omega
      obtain ⟨x1, x2, x3⟩ := q1.n
      have eb : iAnd (iShr x t) 1 = if x.toNat.testBit t.toNat then 1 else 0 := by
        rw [x1, show t = (t.toNat : Int) by omega, iBit_n (by omega) (by omega)]
        rfl
      rw [eb]
      refine ⟨r32_ite, fun c3 => ?_, fun c3 => bad (fun k => ?_)⟩
      · have hb : x.toNat.testBit t.toNat = true := by
          by_cases g : x.toNat.testBit t.toNat = true
          · exact g
          · rw [if_neg g] at c3; exact absurd rfl c3
        have ok : okN n (S.I (m+1)) s x t := ⟨q1, q2, hb⟩
        unfold VX11_note_49
        refine ⟨hL.1, t_if (P := False) (by omega) (by exact hL) (.n id) (fun _ => oI_i ?_) (fun k => k.elim)⟩
        simp only [hl, sI_K, sI_N, sI_R, sI_J, Option.some.injEq, exists_eq_left', true_and, and_true, Int.toNat_zero, Int.reduceToNat, Int.reduceLT, Int.reduceLE, Int.cast_ofNat_Int, forall_eq, ge_iff_le, Int.reduceNeg, Int.reduceAdd, Int.reduceSub, Int.reduceMul, Int.reduceEq, r32_0, r32_1, r32_m1, b01_0, b01_1, not_true_eq_false, not_false_eq_true, false_implies, true_implies, implies_true, forall_const]
        refine c_notes (by omega) (by exact hL) (oI_i ?_)
        rw [e0, g2.1]
        unfold VX11_note_71
        refine ⟨⟨(by unfold R32; omega), (by unfold R32; omega)⟩, fun c4 => ⟨hL.1, t_if (P := False) (by omega) (by exact hL) (.n id) (fun _ => oI_i ?_) (fun k => k.elim)⟩, fun c4 => ⟨hL.1, t_if (P := True) (by omega) (by exact hL) (.y trivial) (fun k => absurd trivial k) (fun _ => oI_i ?_)⟩⟩
        · simp only [hl, sI_K, sI_N, sI_R, sI_J, Option.some.injEq, exists_eq_left', true_and, and_true, Int.toNat_zero, Int.reduceToNat, Int.reduceLT, Int.reduceLE, Int.cast_ofNat_Int, forall_eq, ge_iff_le, Int.reduceNeg, Int.reduceAdd, Int.reduceSub, Int.reduceMul, Int.reduceEq, r32_0, r32_1, r32_m1, b01_0, b01_1, not_true_eq_false, not_false_eq_true, false_implies, true_implies, implies_true, forall_const]
          refine c_notes (by omega) (by exact hL) (oI_i ?_)
          rw [e0, g2.1]
          simp only [hl, sI_K, sI_N, sI_R, sI_J, Option.some.injEq, exists_eq_left', true_and, and_true, Int.toNat_zero, Int.reduceToNat, Int.reduceLT, Int.reduceLE, Int.cast_ofNat_Int, forall_eq, ge_iff_le, Int.reduceNeg, Int.reduceAdd, Int.reduceSub, Int.reduceMul, Int.reduceEq, r32_0, r32_1, r32_m1, b01_0, b01_1, not_true_eq_false, not_false_eq_true, false_implies, true_implies, implies_true, forall_const]
          rw [show ((23 : Int) + 3 * (nN (S.I (m+1)) : Int)).toNat = 23 + 3 * nN (S.I (m+1)) by omega, show ((23 : Int) + 3 * (nN (S.I (m+1)) : Int) + 1).toNat = 24 + 3 * nN (S.I (m+1)) by omega, show ((23 : Int) + 3 * (nN (S.I (m+1)) : Int) + 2).toNat = 25 + 3 * nN (S.I (m+1)) by omega]
          have e3 := set_up (k := 25 + 3 * nN (S.I (m+1))) (v := t) (set_up (k := 24 + 3 * nN (S.I (m+1))) (v := x) (set_up (k := 23 + 3 * nN (S.I (m+1))) (v := s) e0))
          rw [e3]
          have v1 : upW (upW (upW (S.I (m+1)) (23 + 3 * nN (S.I (m+1))) s) (24 + 3 * nN (S.I (m+1))) x) (25 + 3 * nN (S.I (m+1))) t 2 = (nN (S.I (m+1)) : Int) := by
            unfold upW
            rw [if_neg (by omega), if_neg (by omega), if_neg (by omega)]
            exact g2.1
          rw [v1]
          have e4 := set_up (k := 2) (v := (nN (S.I (m+1)) : Int) + 1) e3
          have e : A_note n (S.I (m+1)) s x t = (0, (nN (S.I (m+1)) : Int)) := by unfold A_note; rw [if_pos c', cD_y ok, if_neg (by omega)]
          have f : Fr m [1] [] (S.setI m 0 0) (((((S.setI m 0 0).setI (m+1) (23 + 3 * nN (S.I (m+1))) s).setI (m+1) (24 + 3 * nN (S.I (m+1))) x).setI (m+1) (25 + 3 * nN (S.I (m+1))) t).setI (m+1) 2 ((nN (S.I (m+1)) : Int) + 1)) := (Fr.sA (by decide) (by decide)).tr ((Fr.sA (by decide) (by decide)).tr ((Fr.sA (by decide) (by decide)).tr (Fr.sA (by decide) (by decide))))
          refine ⟨by omega, by omega, by omega, c_notes (by omega) (f.lay (by exact hL)) (oI_i ?_)⟩
          rw [e4]
          have v2 : upW (upW (upW (upW (S.I (m+1)) (23 + 3 * nN (S.I (m+1))) s) (24 + 3 * nN (S.I (m+1))) x) (25 + 3 * nN (S.I (m+1))) t) 2 ((nN (S.I (m+1)) : Int) + 1) 2 - 1 = (nN (S.I (m+1)) : Int) := by
            show (if (2 : Nat) = 2 then _ else _) - 1 = _
            rw [if_pos rfl]
            omega
          rw [v2]
          refine fin2 h e (ru_of (RQ.s0 hI.2.2) f (by decide) (by decide) (by decide) (by decide) (by decide) ?_) ?_
          · unfold U_note
            rw [e, if_pos rfl, e4]
            rfl
          · rw [f.fld (by decide), sI_I, if_pos ⟨rfl, rfl⟩]
        · simp only [hl, sI_K, sI_N, sI_R, sI_J, Option.some.injEq, exists_eq_left', true_and, and_true, Int.toNat_zero, Int.reduceToNat, Int.reduceLT, Int.reduceLE, Int.cast_ofNat_Int, forall_eq, ge_iff_le, Int.reduceNeg, Int.reduceAdd, Int.reduceSub, Int.reduceMul, Int.reduceEq, r32_0, r32_1, r32_m1, b01_0, b01_1, not_true_eq_false, not_false_eq_true, false_implies, true_implies, implies_true, forall_const]
          have e : A_note n (S.I (m+1)) s x t = (3, 0) := by unfold A_note; rw [if_pos c', cD_y ok, if_pos (by omega)]
          refine fin2 h e ?_ rq_t
          unfold U_note
          rw [e, if_neg (by decide)]
          exact (rq_x hI).u
      · rw [if_pos k.2.2] at c3
        omega
  · simp only [hl, sI_K, sI_N, sI_R, sI_J, Option.some.injEq, exists_eq_left', true_and, and_true, Int.toNat_zero, Int.reduceToNat, Int.reduceLT, Int.reduceLE, Int.cast_ofNat_Int, forall_eq, ge_iff_le, Int.reduceNeg, Int.reduceAdd, Int.reduceSub, Int.reduceMul, Int.reduceEq, r32_0, r32_1, r32_m1, b01_0, b01_1, not_true_eq_false, not_false_eq_true, false_implies, true_implies, implies_true, forall_const]
    have e : A_note n (S.I (m+1)) s x t = (1, 0) := by unfold A_note; rw [if_neg c]
    refine fin2 h e ?_ rq_t
    unfold U_note
    rw [e, if_neg (by decide)]
    exact (rq_x hI).u
noncomputable def A_look (w : Nat → Int) (i q : Int) : Int × Int := if 0 ≤ i ∧ i < (nN w : Int) then (if 0 ≤ q ∧ q ≤ 2 then (0, w (23 + 3 * i.toNat + q.toNat)) else (2, 0)) else (1, 0)
theorem c_look {d m n : Nat} {S : MS} {Q : Out → MS → Prop} {i q : Int} (hd : 3 ≤ d) (hI : RI S m n) (hi : R32 i) (hq : R32 q) (h : ∀ S', RQ m S S' → S'.I m 0 = (A_look (S.I (m+1)) i q).1 → Q (.inl (some (vI (A_look (S.I (m+1)) i q).2))) S') : Mw hX11_look yX11_look d [vA m, vI i, vI q] S Q := by
  have hL := hI.1
  have g2 := hI.2.1.2.2.1
  have e0 : (S.setI m 0 0).I (m+1) = S.I (m+1) := sI_Ia (by omega)
  obtain ⟨dd, rfl⟩ : ∃ e, d = e + 1 := ⟨d - 1, by omega⟩
  refine MX11_look ?_
  have hl := hL
  unfold RLay at hl
  unfold VX11_look_0
  simp only [hl, sI_K, sI_N, sI_R, sI_J, Option.some.injEq, exists_eq_left', true_and, and_true, Int.toNat_zero, Int.reduceToNat, Int.reduceLT, Int.reduceLE, Int.cast_ofNat_Int, forall_eq, ge_iff_le, Int.reduceNeg, Int.reduceAdd, Int.reduceSub, Int.reduceMul, Int.reduceEq, r32_0, r32_1, r32_m1, b01_0, b01_1, not_true_eq_false, not_false_eq_true, false_implies, true_implies, implies_true, forall_const]
  refine l_noNote (n := n) (by omega) hI hi (fun r hr => oI_i ⟨hL.1, t_if (by omega) (by exact hL) hr (fun c => oI_i ?_) (fun c => oI_i ?_)⟩)
  · have c' : 0 ≤ i ∧ i < (nN (S.I (m+1)) : Int) := Classical.byContradiction c
    simp only [hl, sI_K, sI_N, sI_R, sI_J, Option.some.injEq, exists_eq_left', true_and, and_true, Int.toNat_zero, Int.reduceToNat, Int.reduceLT, Int.reduceLE, Int.cast_ofNat_Int, forall_eq, ge_iff_le, Int.reduceNeg, Int.reduceAdd, Int.reduceSub, Int.reduceMul, Int.reduceEq, r32_0, r32_1, r32_m1, b01_0, b01_1, not_true_eq_false, not_false_eq_true, false_implies, true_implies, implies_true, forall_const]
    unfold VX11_look_33 VX11_look_40
    refine c_in (by omega) hq r32_0 (by unfold R32; omega) (fun r hr => oI_i ⟨hr.r, fun c2 => ⟨hL.1, t_if (P := False) (by omega) (by exact hL) (.n id) (fun _ => oI_i ?_) (fun k => k.elim)⟩, fun c2 => ⟨hL.1, t_if (P := True) (by omega) (by exact hL) (.y trivial) (fun k => absurd trivial k) (fun _ => oI_i ?_)⟩⟩)
    · have cq : 0 ≤ q ∧ q ≤ 2 := by rcases hr with ⟨-, hr⟩ | ⟨rfl, -⟩ <;> omega
      simp only [hl, sI_K, sI_N, sI_R, sI_J, Option.some.injEq, exists_eq_left', true_and, and_true, Int.toNat_zero, Int.reduceToNat, Int.reduceLT, Int.reduceLE, Int.cast_ofNat_Int, forall_eq, ge_iff_le, Int.reduceNeg, Int.reduceAdd, Int.reduceSub, Int.reduceMul, Int.reduceEq, r32_0, r32_1, r32_m1, b01_0, b01_1, not_true_eq_false, not_false_eq_true, false_implies, true_implies, implies_true, forall_const]
      refine c_ofNote (i := i.toNat) (q := q.toNat) (by omega) (by exact hL) (by omega) (by omega) (by omega) (by omega) (oI_i ?_)
      rw [e0]
      exact fin h (by unfold A_look; rw [if_pos c', if_pos cq]) (RQ.s0 hI.2.2) (by rw [sI_I, if_pos ⟨rfl, rfl⟩])
    · have cq : ¬ (0 ≤ q ∧ q ≤ 2) := by rcases hr with ⟨rfl, -⟩ | ⟨-, hr⟩ <;> omega
      simp only [hl, sI_K, sI_N, sI_R, sI_J, Option.some.injEq, exists_eq_left', true_and, and_true, Int.toNat_zero, Int.reduceToNat, Int.reduceLT, Int.reduceLE, Int.cast_ofNat_Int, forall_eq, ge_iff_le, Int.reduceNeg, Int.reduceAdd, Int.reduceSub, Int.reduceMul, Int.reduceEq, r32_0, r32_1, r32_m1, b01_0, b01_1, not_true_eq_false, not_false_eq_true, false_implies, true_implies, implies_true, forall_const]
      exact fin h (by unfold A_look; rw [if_pos c', if_neg cq]) (rq_x hI) rq_t
  · unfold VX11_look_40
    simp only [hl, sI_K, sI_N, sI_R, sI_J, Option.some.injEq, exists_eq_left', true_and, and_true, Int.toNat_zero, Int.reduceToNat, Int.reduceLT, Int.reduceLE, Int.cast_ofNat_Int, forall_eq, ge_iff_le, Int.reduceNeg, Int.reduceAdd, Int.reduceSub, Int.reduceMul, Int.reduceEq, r32_0, r32_1, r32_m1, b01_0, b01_1, not_true_eq_false, not_false_eq_true, false_implies, true_implies, implies_true, forall_const]
    exact fin h (by unfold A_look; rw [if_neg c]) (rq_x hI) rq_t
/-! notes as a list -/
def W_drop (w : Nat → Int) (i : Nat) : Nat → Int := fun q => if q = 2 then w 2 - 1 else if 23 + 3 * i ≤ q ∧ q < 68 then w (q + 3) else w q
theorem f_drops {d m i : Nat} {Q : Out → MS → Prop} {w : Nat → Int} (hi : i < 16) (hn : R32 (w 2 - 1)) : ∀ (j : Nat) {S : MS} {k : Nat}, RLay S m → k + j = 68 → 23 + 3 * i ≤ k → (∀ q, S.I (m+1) q = if 23 + 3 * i ≤ q ∧ q < k then w (q + 3) else w q) →
    (∀ S', Fr m [1] [] S S' → S'.I (m+1) = W_drop w i → Q (.inl none) S') → VX11_drops_7 d Q (j + 1) m (k : Nat) S := by
  intro j
  induction j with
  | zero =>
    intro S k hL hk hik h1 h
    have hl := hL
    unfold RLay at hl
    unfold VX11_drops_7
    refine ⟨⟨(by unfold R32; omega), (by unfold R32; omega)⟩, fun _ => ?_, fun c => by omega⟩
    simp only [hl, sI_K, sI_N, sI_R, sI_J, Option.some.injEq, exists_eq_left', true_and, and_true, Int.toNat_zero, Int.reduceToNat, Int.reduceLT, Int.reduceLE, Int.cast_ofNat_Int, forall_eq, ge_iff_le, Int.reduceNeg, Int.reduceAdd, Int.reduceSub, Int.reduceMul, Int.reduceEq, r32_0, r32_1, r32_m1, b01_0, b01_1, not_true_eq_false, not_false_eq_true, false_implies, true_implies, implies_true, forall_const]
    refine h _ (Fr.sA (by decide) (by decide)) ?_
    funext q
    have e2 : S.I (m+1) 2 = w 2 := by rw [h1 2, if_neg (by omega)]
    unfold W_drop
    by_cases c : q = 2
    · rw [sI_I, if_pos ⟨rfl, c⟩, if_pos c, e2]
    · rw [sI_I, if_neg (fun k => c k.2), if_neg c, h1 q, show k = 68 by omega]
  | succ j ih =>
    intro S k hL hk hik h1 h
    have hl := hL
    unfold RLay at hl
    unfold VX11_drops_7
    refine ⟨⟨(by unfold R32; omega), (by unfold R32; omega)⟩, fun _ => by omega, fun c => ?_⟩
    simp only [hl, sI_K, sI_N, sI_R, sI_J, Option.some.injEq, exists_eq_left', true_and, and_true, Int.toNat_zero, Int.reduceToNat, Int.reduceLT, Int.reduceLE, Int.cast_ofNat_Int, forall_eq, ge_iff_le, Int.reduceNeg, Int.reduceAdd, Int.reduceSub, Int.reduceMul, Int.reduceEq, r32_0, r32_1, r32_m1, b01_0, b01_1, not_true_eq_false, not_false_eq_true, false_implies, true_implies, implies_true, forall_const]
    rw [Int.toNat_natCast, show ((k : Int) + 3).toNat = k + 3 by omega, h1 (k + 3), if_neg (by omega)]
    refine ⟨by omega, by omega, ih (k := k + 1) (by exact hL) (by omega) (by omega) (fun q => ?_) (fun S' k1 k2 => h S' ((Fr.sA (by decide) (by decide)).tr k1) k2)⟩
    rw [sI_I, h1 q]
    by_cases c : q = k
    · rw [if_pos ⟨rfl, c⟩, if_pos (by omega), c]
    · rw [if_neg (fun k => c k.2)]
      by_cases c2 : 23 + 3 * i ≤ q ∧ q < k
      · rw [if_pos c2, if_pos (by omega)]
      · rw [if_neg c2, if_neg (by omega)]
theorem c_drops {d m n i : Nat} {S : MS} {Q : Out → MS → Prop} {x : Int} (hd : 1 ≤ d) (hL : RLay S m) (hg : GW n (S.I (m+1))) (e : x = (i : Int)) (hi : i < nN (S.I (m+1))) (h : ∀ S', Fr m [1] [] S S' → S'.I (m+1) = W_drop (S.I (m+1)) i → Q (.inl none) S') : Mw hX11_drops yX11_drops d [vA m, vI x] S Q := by
  subst e
  have g2 := hg.2.2.1
  obtain ⟨dd, rfl⟩ : ∃ e, d = e + 1 := ⟨d - 1, by omega⟩
  refine MX11_drops ?_
  unfold VX11_drops_0
  rw [show (23 : Int) + 3 * (i : Int) = ((23 + 3 * i : Nat) : Int) by omega]
  exact ⟨_, f_drops (i := i) (w := S.I (m+1)) (by omega) (by rw [g2.1]; unfold R32; omega) (45 - 3 * i) (k := 23 + 3 * i) hL (by omega) (Nat.le_refl _) (fun q => by rw [if_neg (by omega)]) h⟩
def nt3 (w : Nat → Int) (i : Nat) : Nat × Nat × Nat := (nS w i, nX w i, nT w i)
def ntL (w : Nat → Int) : List (Nat × Nat × Nat) := (List.range (nN w)).map (nt3 w)
theorem ntL_len (w : Nat → Int) : (ntL w).length = nN w := by unfold ntL; rw [List.length_map, List.length_range]
theorem ntL_get {w : Nat → Int} {i : Nat} (h : i < nN w) : (ntL w)[i]? = some (nt3 w i) := by
  unfold ntL
  rw [List.getElem?_map, List.getElem?_range h]
  rfl
/-- all but the notes -/
def SmHd (w w' : Nat → Int) : Prop := ∀ q, q < 23 → q ≠ 2 → w' q = w q
theorem drop_nN {n : Nat} {w : Nat → Int} {i : Nat} (hg : GW n w) (hi : i < nN w) : nN (W_drop w i) = nN w - 1 := by
  have g2 := hg.2.2.1
  show ((if (2 : Nat) = 2 then w 2 - 1 else _ : Int)).toNat = _
  rw [if_pos rfl, g2.1]
  omega
theorem drop_at {w : Nat → Int} {i k : Nat} (o : Nat) (ho : o < 3) (hk : k < 15) : W_drop w i (23 + o + 3 * k) = if k < i then w (23 + o + 3 * k) else w (23 + o + 3 * (k + 1)) := by
  unfold W_drop
  rw [if_neg (by omega)]
  by_cases c : k < i
  · rw [if_neg (by omega), if_pos c]
  · rw [if_pos (by omega), if_neg c]
    congr 1
theorem drop_nt3 {w : Nat → Int} {i k : Nat} (hk : k < 15) : nt3 (W_drop w i) k = if k < i then nt3 w k else nt3 w (k + 1) := by
  have a := drop_at (w := w) (i := i) 0 (by decide) hk
  have b := drop_at (w := w) (i := i) 1 (by decide) hk
  have c := drop_at (w := w) (i := i) 2 (by decide) hk
  simp only [Nat.add_zero, Nat.reduceAdd] at a b c
  unfold nt3 nS nX nT
  rw [a, b, c]
  split <;> rfl
theorem drop_hd {w : Nat → Int} {i : Nat} : SmHd w (W_drop w i) := by
  intro q h1 h2
  unfold W_drop
  rw [if_neg h2, if_neg (by omega)]
theorem drop_ntL {n : Nat} {w : Nat → Int} {i : Nat} (hg : GW n w) (hi : i < nN w) : ntL (W_drop w i) = (ntL w).eraseIdx i := by
  have g2 := hg.2.2.1
  apply List.ext_getElem?
  intro k
  rw [List.getElem?_eraseIdx]
  by_cases c : k < nN w - 1
  · rw [ntL_get (by rw [drop_nN hg hi]; exact c), drop_nt3 (by omega)]
    by_cases c2 : k < i
    · rw [if_pos c2, if_pos c2, ntL_get (by omega)]
    · rw [if_neg c2, if_neg c2, ntL_get (by omega)]
  · rw [List.getElem?_eq_none (by rw [ntL_len, drop_nN hg hi]; omega)]
    by_cases c2 : k < i
    · omega
    · rw [if_neg c2, List.getElem?_eq_none (by rw [ntL_len]; omega)]
theorem GW.drop {n : Nat} {w : Nat → Int} {i : Nat} (hg : GW n w) (hi : i < nN w) : GW n (W_drop w i) := by
  have g2 := hg.2.2.1
  have hd := drop_hd (w := w) (i := i)
  have es : sN (W_drop w i) = sN w := by unfold sN; rw [hd 1 (by decide) (by decide)]
  have en := drop_nN hg hi
  have ek : ∀ s, s < 4 → kd (W_drop w i) s = kd w s := fun s hs => by unfold kd; rw [hd _ (by omega) (by omega)]
  have g1 := hg.2.1
  refine ⟨⟨hg.1.1, hg.1.2.1, by rw [hd 0 (by decide) (by decide)]; exact hg.1.2.2⟩, ⟨by rw [hd 1 (by decide) (by decide), es]; exact g1.1, by rw [es]; exact g1.2⟩, ⟨?_, by omega⟩, by rw [hd 3 (by decide) (by decide)]; exact hg.2.2.2.1, fun t ht => by rw [hd _ (by omega) (by omega)]; exact hg.2.2.2.2.1 t ht, fun s hs => ?_, fun k hk => ?_⟩
  · rw [en]
    show (if (2 : Nat) = 2 then w 2 - 1 else _ : Int) = _
    rw [if_pos rfl, g2.1]
    omega
  · rw [es] at hs
    have := hg.sc hs
    unfold kd prc lie at this ⊢
    rw [hd _ (by omega) (by omega), hd _ (by omega) (by omega), hd _ (by omega) (by omega)]
    exact this
  · rw [en] at hk
    have e3 := drop_nt3 (w := w) (i := i) (k := k) (by omega)
    have a := drop_at (w := w) (i := i) (k := k) 0 (by decide) (by omega)
    have b := drop_at (w := w) (i := i) (k := k) 1 (by decide) (by omega)
    have c := drop_at (w := w) (i := i) (k := k) 2 (by decide) (by omega)
    simp only [Nat.add_zero, Nat.reduceAdd] at a b c
    unfold nt3 at e3
    rw [a, b, c, es]
    by_cases c2 : k < i
    · rw [if_pos c2] at e3
      simp only [Prod.mk.injEq] at e3
      obtain ⟨e4, e5, e6⟩ := e3
      have := hg.nt (i := k) (by omega)
      rw [if_pos c2, if_pos c2, if_pos c2, e4, e5, e6, ek _ (by omega)]
      exact this
    · rw [if_neg c2] at e3
      simp only [Prod.mk.injEq] at e3
      obtain ⟨e4, e5, e6⟩ := e3
      have := hg.nt (i := k + 1) (by omega)
      rw [if_neg c2, if_neg c2, if_neg c2, e4, e5, e6, ek _ (by omega)]
      exact this
