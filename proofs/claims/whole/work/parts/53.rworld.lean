/-! what changes the shed -/
def RU (m : Nat) (S S' : MS) (w' : Nat → Int) : Prop := Fr m (1 :: A0) B0 S S' ∧ Tbl S' m ∧ S'.I (m+1) = w'
theorem RQ.u {m : Nat} {S S' : MS} (h : RQ m S S') : RU m S S' (S.I (m+1)) := ⟨h.1.wk (by decide) (by decide), h.2, h.w⟩
theorem fin2 {m : Nat} {S S' : MS} {Q : Out → MS → Prop} {A : Int × Int} {W : Nat → Int} {c v : Int} (h : ∀ S', RU m S S' W → S'.I m 0 = A.1 → Q (.inl (some (vI A.2))) S') (e : A = (c, v)) (q : RU m S S' W) (t : S'.I m 0 = c) : Q (.inl (some (vI v))) S' := by
  have := h S' q (by rw [e]; exact t)
  rw [e] at this
  exact this
theorem ru_of {m : Nat} {S S1 S2 : MS} {w' : Nat → Int} {A B : List Nat} (q : RQ m S S1) (f : Fr m A B S1 S2) (ha : ∀ o ∈ A, o ∈ 1 :: A0) (hb : ∀ o ∈ B, o ∈ B0) (h1 : 6 ∉ A) (h2 : 13 ∉ B) (h3 : 14 ∉ B) (e : S2.I (m+1) = w') : RU m S S2 w' := ⟨(q.1.wk (by decide) (by decide)).tr (f.wk ha hb), f.tbl h1 h2 h3 q.2, e⟩
def W_things (w : Nat → Int) (n : Nat) : Nat → Int := fun q => if q = 0 then (n : Int) else if 4 + n ≤ q ∧ q < 11 then 0 else w q
theorem f_setsT {d a n : Nat} {Q : Out → MS → Prop} {w : Nat → Int} (h3 : 3 ≤ n) (h7 : n ≤ 7) : ∀ (j : Nat) {S : MS} {t : Nat}, S.K a = 13 → S.N a = 71 → t + j = 7 → n ≤ t → (∀ q, S.I a q = if q = 0 then (n : Int) else if 4 + n ≤ q ∧ q < 4 + t then 0 else w q) →
    (∀ S', S' = S.wI S'.I → (∀ b, b ≠ a → S'.I b = S.I b) → S'.I a = W_things w n → Q (.inl none) S') → VX11_setsThings_6 d Q (j + 1) a (t : Nat) S := by
  intro j
  induction j with
  | zero =>
    intro S t hK hN hj ht hI h
    unfold VX11_setsThings_6
    refine ⟨⟨(by unfold R32; omega), (by unfold R32; omega)⟩, fun _ => h S rfl (fun _ _ => rfl) ?_, fun c => by omega⟩
    funext q
    rw [hI q]
    unfold W_things
    rw [show 4 + t = 11 by omega]
  | succ j ih =>
    intro S t hK hN hj ht hI h
    unfold VX11_setsThings_6
    refine ⟨⟨(by unfold R32; omega), (by unfold R32; omega)⟩, fun _ => by omega, fun c => ⟨⟨hK, by omega, by rw [hN]; omega⟩, ?_⟩⟩
    rw [show ((4 : Int) + (t : Int)).toNat = 4 + t by omega]
    refine ih (t := t + 1) hK hN (by omega) (by omega) (fun q => ?_) (fun S' k1 k2 k3 => h S' ?_ (fun b hb => by rw [k2 b hb, sI_Ia hb]) k3)
    · rw [sI_I]
      by_cases c1 : q = 4 + t
      · rw [if_pos ⟨rfl, c1⟩, if_neg (by omega), if_pos (by omega)]
      · rw [if_neg (by omega), hI q]
        by_cases c0 : q = 0
        · rw [if_pos c0, if_pos c0]
        · rw [if_neg c0, if_neg c0]
          by_cases c2 : 4 + n ≤ q ∧ q < 4 + t
          · rw [if_pos c2, if_pos (by omega)]
          · rw [if_neg c2, if_neg (by omega)]
    · exact k1
theorem c_setsThings {d a n : Nat} {S : MS} {Q : Out → MS → Prop} {x : Int} (hd : 1 ≤ d) (hK : S.K a = 13) (hN : S.N a = 71) (e : x = (n : Int)) (h3 : 3 ≤ n) (h7 : n ≤ 7) (h : ∀ S', S' = S.wI S'.I → (∀ b, b ≠ a → S'.I b = S.I b) → S'.I a = W_things (S.I a) n → Q (.inl none) S') : Mw hX11_setsThings yX11_setsThings d [vA a, vI x] S Q := by
  subst e
  obtain ⟨dd, rfl⟩ : ∃ e, d = e + 1 := ⟨d - 1, by omega⟩
  refine MX11_setsThings ?_
  unfold VX11_setsThings_0
  refine ⟨⟨hK, by decide, by rw [hN]; decide⟩, 7 - n + 1, ?_⟩
  refine f_setsT (w := S.I a) h3 h7 (7 - n) (t := n) hK hN (by omega) (Nat.le_refl _) (fun q => ?_) (fun S' k1 k2 k3 => h S' k1 (fun b hb => by rw [k2 b hb, sI_Ia hb]) k3)
  rw [sI_I]
  by_cases c : q = 0
  · rw [if_pos ⟨rfl, c⟩, if_pos c]
  · rw [if_neg (fun k => c k.2), if_neg c, if_neg (by omega)]
noncomputable def A_things (w : Nat → Int) (x : Int) : Int := if 3 ≤ x ∧ x ≤ 7 then (if 0 < nN w then 2 else 0) else 1
noncomputable def U_things (w : Nat → Int) (x : Int) : Nat → Int := if A_things w x = 0 then W_things w x.toNat else w
theorem c_things_ {d m n : Nat} {S : MS} {Q : Out → MS → Prop} {x : Int} (hd : 3 ≤ d) (hI : RI S m n) (hx : R32 x) (h : ∀ S', RU m S S' (U_things (S.I (m+1)) x) → S'.I m 0 = A_things (S.I (m+1)) x → Q (.inl none) S') : Mw hX11_things_ yX11_things_ d [vA m, vI x] S Q := by
  have hL := hI.1
  have g2 := hI.2.1.2.2.1
  obtain ⟨dd, rfl⟩ : ∃ e, d = e + 1 := ⟨d - 1, by omega⟩
  refine MX11_things_ ?_
  have hl := hL
  unfold RLay at hl
  unfold VX11_things__0
  simp only [hl, sI_K, sI_N, sI_R, sI_J, Option.some.injEq, exists_eq_left', true_and, and_true, Int.toNat_zero, Int.reduceToNat, Int.reduceLT, Int.reduceLE, Int.cast_ofNat_Int, forall_eq, ge_iff_le, Int.reduceNeg, Int.reduceAdd, Int.reduceSub, Int.reduceMul, Int.reduceEq, r32_0, r32_1, r32_m1, b01_0, b01_1, not_true_eq_false, not_false_eq_true, false_implies, true_implies, implies_true, forall_const]
  refine c_in (by omega) hx (by unfold R32; omega) (by unfold R32; omega) (fun r hr => oI_i ⟨hr.r, fun c => ?_, fun c => ?_⟩)
  · have c' : 3 ≤ x ∧ x ≤ 7 := by rcases hr with ⟨-, hr⟩ | ⟨rfl, -⟩ <;> omega
    unfold VX11_things__21
    refine ⟨hL.1, t_if (P := False) (by omega) (by exact hL) (.n id) (fun _ => oI_i ?_) (fun k => k.elim)⟩
    simp only [hl, sI_K, sI_N, sI_R, sI_J, Option.some.injEq, exists_eq_left', true_and, and_true, Int.toNat_zero, Int.reduceToNat, Int.reduceLT, Int.reduceLE, Int.cast_ofNat_Int, forall_eq, ge_iff_le, Int.reduceNeg, Int.reduceAdd, Int.reduceSub, Int.reduceMul, Int.reduceEq, r32_0, r32_1, r32_m1, b01_0, b01_1, not_true_eq_false, not_false_eq_true, false_implies, true_implies, implies_true, forall_const]
    refine c_notes (by omega) (by exact hL) (oI_i ?_)
    rw [sI_Ia (by omega), g2.1]
    unfold VX11_things__41
    refine ⟨(by unfold R32; omega), fun c2 => ⟨hL.1, t_if (P := False) (by omega) (by exact hL) (.n id) (fun _ => oI_i ?_) (fun k => k.elim)⟩, fun c2 => ⟨hL.1, t_if (P := True) (by omega) (by exact hL) (.y trivial) (fun k => absurd trivial k) (fun _ => oI_i ?_)⟩⟩
    · simp only [hl, sI_K, sI_N, sI_R, sI_J, Option.some.injEq, exists_eq_left', true_and, and_true, Int.toNat_zero, Int.reduceToNat, Int.reduceLT, Int.reduceLE, Int.cast_ofNat_Int, forall_eq, ge_iff_le, Int.reduceNeg, Int.reduceAdd, Int.reduceSub, Int.reduceMul, Int.reduceEq, r32_0, r32_1, r32_m1, b01_0, b01_1, not_true_eq_false, not_false_eq_true, false_implies, true_implies, implies_true, forall_const]
      have eA : A_things (S.I (m+1)) x = 0 := by unfold A_things; rw [if_pos c', if_neg (by omega)]
      refine c_setsThings (n := x.toNat) (by omega) (by exact hl.2.2.1.1) (by exact hl.2.2.2.1) (by omega) (by omega) (by omega) (fun S' k1 k2 k3 => oV_i ?_)
      rw [sI_Ia (by omega)] at k3
      have f : Fr m [1] [] (S.setI m 0 0) S' := ⟨k1, fun a h1 h2 => k2 a (h2 1 (by decide)), fun k _ => by rw [k2 m (by omega)]⟩
      refine h S' (ru_of (RQ.s0 hI.2.2) f (by decide) (by decide) (by decide) (by decide) (by decide) ?_) ?_
      · unfold U_things
        rw [if_pos eA]
        exact k3
      · rw [f.fld (by decide), sI_I, if_pos ⟨rfl, rfl⟩, eA]
    · simp only [hl, sI_K, sI_N, sI_R, sI_J, Option.some.injEq, exists_eq_left', true_and, and_true, Int.toNat_zero, Int.reduceToNat, Int.reduceLT, Int.reduceLE, Int.cast_ofNat_Int, forall_eq, ge_iff_le, Int.reduceNeg, Int.reduceAdd, Int.reduceSub, Int.reduceMul, Int.reduceEq, r32_0, r32_1, r32_m1, b01_0, b01_1, not_true_eq_false, not_false_eq_true, false_implies, true_implies, implies_true, forall_const]
      have eA : A_things (S.I (m+1)) x = 2 := by unfold A_things; rw [if_pos c', if_pos (by omega)]
      refine h _ ?_ (by rw [eA]; exact rq_t)
      have := (rq_x (c := 2) hI).u
      unfold U_things
      rw [eA, if_neg (by decide)]
      exact this
  · have c' : ¬ (3 ≤ x ∧ x ≤ 7) := by rcases hr with ⟨rfl, -⟩ | ⟨-, hr⟩ <;> omega
    unfold VX11_things__21
    refine ⟨hL.1, t_if (P := True) (by omega) (by exact hL) (.y trivial) (fun k => absurd trivial k) (fun _ => oI_i ?_)⟩
    simp only [hl, sI_K, sI_N, sI_R, sI_J, Option.some.injEq, exists_eq_left', true_and, and_true, Int.toNat_zero, Int.reduceToNat, Int.reduceLT, Int.reduceLE, Int.cast_ofNat_Int, forall_eq, ge_iff_le, Int.reduceNeg, Int.reduceAdd, Int.reduceSub, Int.reduceMul, Int.reduceEq, r32_0, r32_1, r32_m1, b01_0, b01_1, not_true_eq_false, not_false_eq_true, false_implies, true_implies, implies_true, forall_const]
    have eA : A_things (S.I (m+1)) x = 1 := by unfold A_things; rw [if_neg c']
    refine h _ ?_ (by rw [eA]; exact rq_t)
    have := (rq_x (c := 1) hI).u
    unfold U_things
    rw [eA, if_neg (by decide)]
    exact this
def W_scale (w : Nat → Int) (k p l : Int) : Nat → Int := upW (upW (upW (upW w (11 + 3 * sN w) k) (12 + 3 * sN w) p) (13 + 3 * sN w) l) 1 ((sN w : Int) + 1)
theorem set_up {S : MS} {a k : Nat} {v : Int} {w : Nat → Int} (h : S.I a = w) : (S.setI a k v).I a = upW w k v := by
  funext q
  rw [sI_I, h]
  unfold upW
  by_cases c : q = k
  · rw [if_pos ⟨rfl, c⟩, if_pos c]
  · rw [if_neg (fun g => c g.2), if_neg c]
noncomputable def A_scale (w : Nat → Int) (k p l : Int) : Int × Int := if (0 ≤ k ∧ k ≤ 2) ∧ (0 ≤ p ∧ p ≤ 99) ∧ (0 ≤ l ∧ l ≤ 3) then (if sN w = 4 then (2, 0) else (0, (sN w : Int))) else (1, 0)
noncomputable def U_scale (w : Nat → Int) (k p l : Int) : Nat → Int := if (A_scale w k p l).1 = 0 then W_scale w k p l else w
theorem c_scale {d m n : Nat} {S : MS} {Q : Out → MS → Prop} {k p l : Int} (hd : 3 ≤ d) (hI : RI S m n) (hk : R32 k) (hp : R32 p) (hl' : R32 l) (h : ∀ S', RU m S S' (U_scale (S.I (m+1)) k p l) → S'.I m 0 = (A_scale (S.I (m+1)) k p l).1 → Q (.inl (some (vI (A_scale (S.I (m+1)) k p l).2))) S') : Mw hX11_scale yX11_scale d [vA m, vI k, vI p, vI l] S Q := by
  have hL := hI.1
  have g1 := hI.2.1.2.1
  obtain ⟨dd, rfl⟩ : ∃ e, d = e + 1 := ⟨d - 1, by omega⟩
  refine MX11_scale ?_
  have hl := hL
  unfold RLay at hl
  unfold VX11_scale_0
  simp only [hl, sI_K, sI_N, sI_R, sI_J, Option.some.injEq, exists_eq_left', true_and, and_true, Int.toNat_zero, Int.reduceToNat, Int.reduceLT, Int.reduceLE, Int.cast_ofNat_Int, forall_eq, ge_iff_le, Int.reduceNeg, Int.reduceAdd, Int.reduceSub, Int.reduceMul, Int.reduceEq, r32_0, r32_1, r32_m1, b01_0, b01_1, not_true_eq_false, not_false_eq_true, false_implies, true_implies, implies_true, forall_const]
  have bad : ¬ ((0 ≤ k ∧ k ≤ 2) ∧ (0 ≤ p ∧ p ≤ 99) ∧ (0 ≤ l ∧ l ≤ 3)) → VX11_scale_34 dd Q m k p l m (S.setI m 0 0) := by
    intro c
    unfold VX11_scale_34 VX11_scale_39
    refine ⟨hL.1, t_if (P := True) (by omega) (by exact hL) (.y trivial) (fun k => absurd trivial k) (fun _ => oI_i ?_)⟩
    simp only [hl, sI_K, sI_N, sI_R, sI_J, Option.some.injEq, exists_eq_left', true_and, and_true, Int.toNat_zero, Int.reduceToNat, Int.reduceLT, Int.reduceLE, Int.cast_ofNat_Int, forall_eq, ge_iff_le, Int.reduceNeg, Int.reduceAdd, Int.reduceSub, Int.reduceMul, Int.reduceEq, r32_0, r32_1, r32_m1, b01_0, b01_1, not_true_eq_false, not_false_eq_true, false_implies, true_implies, implies_true, forall_const]
    have e : A_scale (S.I (m+1)) k p l = (1, 0) := by unfold A_scale; rw [if_neg c]
    refine fin2 h e ?_ rq_t
    unfold U_scale
    rw [e, if_neg (by decide)]
    exact (rq_x hI).u
  refine c_in (by omega) hk r32_0 (by unfold R32; omega) (fun r hr => oI_i ⟨hr.r, fun c => bad ?_, fun c => c_in (by omega) hp r32_0 (by unfold R32; omega) (fun r2 hr2 => oI_i ⟨hr2.r, fun c2 => bad ?_, fun c2 => c_in (by omega) hl' r32_0 (by unfold R32; omega) (fun r3 hr3 => oI_i ⟨hr3.r, fun c3 => ?_, fun c3 => bad ?_⟩)⟩)⟩)
  · rcases hr with ⟨rfl, -⟩ | ⟨-, hr⟩ <;> omega
  · rcases hr2 with ⟨rfl, -⟩ | ⟨-, hr2⟩ <;> omega
  · have ca : 0 ≤ k ∧ k ≤ 2 := by rcases hr with ⟨-, hr⟩ | ⟨rfl, -⟩ <;> omega
    have cb : 0 ≤ p ∧ p ≤ 99 := by rcases hr2 with ⟨-, hr2⟩ | ⟨rfl, -⟩ <;> omega
    have cc : 0 ≤ l ∧ l ≤ 3 := by rcases hr3 with ⟨-, hr3⟩ | ⟨rfl, -⟩ <;> omega
    unfold VX11_scale_39
    refine ⟨hL.1, t_if (P := False) (by omega) (by exact hL) (.n id) (fun _ => oI_i ?_) (fun k => k.elim)⟩
    simp only [hl, sI_K, sI_N, sI_R, sI_J, Option.some.injEq, exists_eq_left', true_and, and_true, Int.toNat_zero, Int.reduceToNat, Int.reduceLT, Int.reduceLE, Int.cast_ofNat_Int, forall_eq, ge_iff_le, Int.reduceNeg, Int.reduceAdd, Int.reduceSub, Int.reduceMul, Int.reduceEq, r32_0, r32_1, r32_m1, b01_0, b01_1, not_true_eq_false, not_false_eq_true, false_implies, true_implies, implies_true, forall_const]
    rw [sI_Ia (by omega), g1.1]
    unfold VX11_scale_62
    refine ⟨⟨(by unfold R32; omega), (by unfold R32; omega)⟩, fun c4 => ⟨hL.1, t_if (P := False) (by omega) (by exact hL) (.n id) (fun _ => oI_i ?_) (fun k => k.elim)⟩, fun c4 => ⟨hL.1, t_if (P := True) (by omega) (by exact hL) (.y trivial) (fun k => absurd trivial k) (fun _ => oI_i ?_)⟩⟩
    · simp only [hl, sI_K, sI_N, sI_R, sI_J, Option.some.injEq, exists_eq_left', true_and, and_true, Int.toNat_zero, Int.reduceToNat, Int.reduceLT, Int.reduceLE, Int.cast_ofNat_Int, forall_eq, ge_iff_le, Int.reduceNeg, Int.reduceAdd, Int.reduceSub, Int.reduceMul, Int.reduceEq, r32_0, r32_1, r32_m1, b01_0, b01_1, not_true_eq_false, not_false_eq_true, false_implies, true_implies, implies_true, forall_const]
      rw [show (S.setI m 0 0).I (m+1) 1 = (sN (S.I (m+1)) : Int) by rw [sI_Ia (by omega)]; exact g1.1]
      rw [show ((11 : Int) + 3 * (sN (S.I (m+1)) : Int)).toNat = 11 + 3 * sN (S.I (m+1)) by omega, show ((11 : Int) + 3 * (sN (S.I (m+1)) : Int) + 1).toNat = 12 + 3 * sN (S.I (m+1)) by omega, show ((11 : Int) + 3 * (sN (S.I (m+1)) : Int) + 2).toNat = 13 + 3 * sN (S.I (m+1)) by omega]
      have e0 : (S.setI m 0 0).I (m+1) = S.I (m+1) := sI_Ia (by omega)
      have e3 := set_up (k := 13 + 3 * sN (S.I (m+1))) (v := l) (set_up (k := 12 + 3 * sN (S.I (m+1))) (v := p) (set_up (k := 11 + 3 * sN (S.I (m+1))) (v := k) e0))
      rw [e3]
      have v1 : upW (upW (upW (S.I (m+1)) (11 + 3 * sN (S.I (m+1))) k) (12 + 3 * sN (S.I (m+1))) p) (13 + 3 * sN (S.I (m+1))) l 1 = (sN (S.I (m+1)) : Int) := by
        unfold upW
        rw [if_neg (by omega), if_neg (by omega), if_neg (by omega)]
        exact g1.1
      rw [v1]
      have e4 := set_up (k := 1) (v := (sN (S.I (m+1)) : Int) + 1) e3
      rw [e4]
      have e : A_scale (S.I (m+1)) k p l = (0, (sN (S.I (m+1)) : Int)) := by unfold A_scale; rw [if_pos ⟨ca, cb, cc⟩, if_neg (by omega)]
      have f : Fr m [1] [] (S.setI m 0 0) (((((S.setI m 0 0).setI (m+1) (11 + 3 * sN (S.I (m+1))) k).setI (m+1) (12 + 3 * sN (S.I (m+1))) p).setI (m+1) (13 + 3 * sN (S.I (m+1))) l).setI (m+1) 1 ((sN (S.I (m+1)) : Int) + 1)) := (Fr.sA (by decide) (by decide)).tr ((Fr.sA (by decide) (by decide)).tr ((Fr.sA (by decide) (by decide)).tr (Fr.sA (by decide) (by decide))))
      refine ⟨by omega, by omega, by omega, ?_⟩
      have v2 : upW (upW (upW (upW (S.I (m+1)) (11 + 3 * sN (S.I (m+1))) k) (12 + 3 * sN (S.I (m+1))) p) (13 + 3 * sN (S.I (m+1))) l) 1 ((sN (S.I (m+1)) : Int) + 1) 1 - 1 = (sN (S.I (m+1)) : Int) := by
        show (if (1 : Nat) = 1 then _ else _) - 1 = _
        rw [if_pos rfl]
        omega
      rw [v2]
      refine fin2 h e (ru_of (RQ.s0 hI.2.2) f (by decide) (by decide) (by decide) (by decide) (by decide) ?_) ?_
      · unfold U_scale
        rw [e, if_pos rfl, e4]
        rfl
      · rw [f.fld (by decide), sI_I, if_pos ⟨rfl, rfl⟩]
    · simp only [hl, sI_K, sI_N, sI_R, sI_J, Option.some.injEq, exists_eq_left', true_and, and_true, Int.toNat_zero, Int.reduceToNat, Int.reduceLT, Int.reduceLE, Int.cast_ofNat_Int, forall_eq, ge_iff_le, Int.reduceNeg, Int.reduceAdd, Int.reduceSub, Int.reduceMul, Int.reduceEq, r32_0, r32_1, r32_m1, b01_0, b01_1, not_true_eq_false, not_false_eq_true, false_implies, true_implies, implies_true, forall_const]
      have e : A_scale (S.I (m+1)) k p l = (2, 0) := by unfold A_scale; rw [if_pos ⟨ca, cb, cc⟩, if_pos (by omega)]
      refine fin2 h e ?_ rq_t
      unfold U_scale
      rw [e, if_neg (by decide)]
      exact (rq_x hI).u
  · rcases hr3 with ⟨rfl, -⟩ | ⟨-, hr3⟩ <;> omega
