theorem RD.lv {S : MS} {m n : Nat} {w : Nat → Int} {L : List Nat} (h : RD S m n w L) : LV S m n 0 L := ⟨h.2.2.2.2.1, h.2.2.2.2.2.1, h.2.2.2.2.2.2, by decide⟩
/-- a SCALE that there is -/
def IsSc (w : Nat → Int) (s : Int) : Prop := 0 ≤ s ∧ s < (sN w : Int)
noncomputable def A_laying (n : Nat) (w : Nat → Int) (s x bl : Int) : Int × Int := if 0 ≤ s ∧ s < (sN w : Int) then cD (IsSet n (pansK (kd w s.toNat)) x) (0, if bl = 0 then (wst n (kd w s.toNat) x.toNat (rowsL n w 0) : Int) else (spr n (kd w s.toNat) x.toNat (rowsL n w 0) : Int)) (2, 0) else (1, 0)
theorem c_laying {d m n : Nat} {S : MS} {Q : Out → MS → Prop} {s x bl : Int} (hd : 7 ≤ d) (hI : RI S m n) (hs : R32 s) (hx : R32 x) (hb : B01 bl) (h : ∀ S', RQ m S S' → S'.I m 0 = (A_laying n (S.I (m+1)) s x bl).1 → Q (.inl (some (vI (A_laying n (S.I (m+1)) s x bl).2))) S') : Mw hX11_laying yX11_laying d [vA m, vI s, vI x, vI bl] S Q := by
  have hL := hI.1
  have hg := hI.2.1
  obtain ⟨dd, rfl⟩ : ∃ e, d = e + 1 := ⟨d - 1, by omega⟩
  refine MX11_laying ?_
  have hl := hL
  unfold RLay at hl
  unfold VX11_laying_0
  simp only [hl, sI_K, sI_N, sI_R, sI_J, Option.some.injEq, exists_eq_left', true_and, and_true, Int.toNat_zero, Int.reduceToNat, Int.reduceLT, Int.reduceLE, Int.cast_ofNat_Int, forall_eq, ge_iff_le, Int.reduceNeg, Int.reduceAdd, Int.reduceSub, Int.reduceMul, Int.reduceEq, r32_0, r32_1, r32_m1, b01_0, b01_1, not_true_eq_false, not_false_eq_true, false_implies, true_implies, implies_true, forall_const]
  refine l_noS (n := n) (by omega) hI hs (fun r hr => oI_i ⟨hL.1, t_if (by omega) (by exact hL) hr (fun c => oI_i ?_) (fun c => oI_i ?_)⟩)
  · have c' : 0 ≤ s ∧ s < (sN (S.I (m+1)) : Int) := Classical.byContradiction c
    have g1 := hg.2.1
    have b := hg.sc (s := s.toNat) (by omega)
    simp only [hl, sI_K, sI_N, sI_R, sI_J, Option.some.injEq, exists_eq_left', true_and, and_true, Int.toNat_zero, Int.reduceToNat, Int.reduceLT, Int.reduceLE, Int.cast_ofNat_Int, forall_eq, ge_iff_le, Int.reduceNeg, Int.reduceAdd, Int.reduceSub, Int.reduceMul, Int.reduceEq, r32_0, r32_1, r32_m1, b01_0, b01_1, not_true_eq_false, not_false_eq_true, false_implies, true_implies, implies_true, forall_const]
    refine l_noSet (n := n) (i := s.toNat) (by omega) hI (by omega) (by omega) hx (fun r hr => oI_i ⟨hL.1, t_if (by omega) (by exact hL) hr (fun c => oI_i ?_) (fun c => oI_i ?_)⟩)
    · have c2 : IsSet n (pansK (kd (S.I (m+1)) s.toNat)) x := Classical.byContradiction c
      obtain ⟨x1, x2, x3⟩ := c2.n
      simp only [hl, sI_K, sI_N, sI_R, sI_J, Option.some.injEq, exists_eq_left', true_and, and_true, Int.toNat_zero, Int.reduceToNat, Int.reduceLT, Int.reduceLE, Int.cast_ofNat_Int, forall_eq, ge_iff_le, Int.reduceNeg, Int.reduceAdd, Int.reduceSub, Int.reduceMul, Int.reduceEq, r32_0, r32_1, r32_m1, b01_0, b01_1, not_true_eq_false, not_false_eq_true, false_implies, true_implies, implies_true, forall_const]
      refine l_lv (n := n) (by omega) hI (fun S1 q1 t1 d1 => oV_i ⟨d1.1.1, c_ofScale (i := s.toNat) (q := 0) (by omega) d1.1 (by omega) rfl (by omega) (by decide) (oI_i ⟨d1.1.1, ?_⟩)⟩)
      rw [d1.2.1]
      refine c_lays (n := n) (l := 0) (kn := kd (S.I (m+1)) s.toNat) (x := x.toNat) (by omega) d1.1 hg.1.1 hg.1.2.1 d1.2.2.2.1 d1.lv rfl b.1.1 x1 b.1.2 x2 x3 (fun S2 f2 w2 s2 => oV_i ?_)
      have q2 := q1.fr f2 (by decide) (by decide) (by decide) (by decide) (by decide)
      have t2 : S2.I m 0 = 0 := by rw [f2.fld (by decide), t1]
      have hL2 := f2.lay d1.1
      rw [w2, s2]
      refine ⟨b01_r hb, fun c => ⟨hL2.1, fin h ?_ q2 t2⟩, fun c => ⟨hL2.1, fin h ?_ q2 t2⟩⟩
      · unfold A_laying; rw [if_pos c', cD_y c2, if_pos c]
      · unfold A_laying; rw [if_pos c', cD_y c2, if_neg c]
    · simp only [hl, sI_K, sI_N, sI_R, sI_J, Option.some.injEq, exists_eq_left', true_and, and_true, Int.toNat_zero, Int.reduceToNat, Int.reduceLT, Int.reduceLE, Int.cast_ofNat_Int, forall_eq, ge_iff_le, Int.reduceNeg, Int.reduceAdd, Int.reduceSub, Int.reduceMul, Int.reduceEq, r32_0, r32_1, r32_m1, b01_0, b01_1, not_true_eq_false, not_false_eq_true, false_implies, true_implies, implies_true, forall_const]
      exact fin h (by unfold A_laying; rw [if_pos c', cD_n c]) (rq_x hI) rq_t
  · simp only [hl, sI_K, sI_N, sI_R, sI_J, Option.some.injEq, exists_eq_left', true_and, and_true, Int.toNat_zero, Int.reduceToNat, Int.reduceLT, Int.reduceLE, Int.cast_ofNat_Int, forall_eq, ge_iff_le, Int.reduceNeg, Int.reduceAdd, Int.reduceSub, Int.reduceMul, Int.reduceEq, r32_0, r32_1, r32_m1, b01_0, b01_1, not_true_eq_false, not_false_eq_true, false_implies, true_implies, implies_true, forall_const]
    exact fin h (by unfold A_laying; rw [if_neg c]) (rq_x hI) rq_t
noncomputable def A_next (n : Nat) (w : Nat → Int) (s : Int) : Int × Int := if 0 ≤ s ∧ s < (sN w : Int) then (0, (nxF n (kd w s.toNat) (rowsL n w 0)).1) else (1, 0)
theorem c_next {d m n : Nat} {S : MS} {Q : Out → MS → Prop} {s : Int} (hd : 7 ≤ d) (hI : RI S m n) (hs : R32 s) (h : ∀ S', RQ m S S' → S'.I m 0 = (A_next n (S.I (m+1)) s).1 → Q (.inl (some (vI (A_next n (S.I (m+1)) s).2))) S') : Mw hX11_next yX11_next d [vA m, vI s] S Q := by
  have hL := hI.1
  have hg := hI.2.1
  obtain ⟨dd, rfl⟩ : ∃ e, d = e + 1 := ⟨d - 1, by omega⟩
  refine MX11_next ?_
  have hl := hL
  unfold RLay at hl
  unfold VX11_next_0
  simp only [hl, sI_K, sI_N, sI_R, sI_J, Option.some.injEq, exists_eq_left', true_and, and_true, Int.toNat_zero, Int.reduceToNat, Int.reduceLT, Int.reduceLE, Int.cast_ofNat_Int, forall_eq, ge_iff_le, Int.reduceNeg, Int.reduceAdd, Int.reduceSub, Int.reduceMul, Int.reduceEq, r32_0, r32_1, r32_m1, b01_0, b01_1, not_true_eq_false, not_false_eq_true, false_implies, true_implies, implies_true, forall_const]
  refine l_noS (n := n) (by omega) hI hs (fun r hr => oI_i ⟨hL.1, t_if (by omega) (by exact hL) hr (fun c => oI_i ?_) (fun c => oI_i ?_)⟩)
  · have c' : 0 ≤ s ∧ s < (sN (S.I (m+1)) : Int) := Classical.byContradiction c
    have g1 := hg.2.1
    have b := hg.sc (s := s.toNat) (by omega)
    simp only [hl, sI_K, sI_N, sI_R, sI_J, Option.some.injEq, exists_eq_left', true_and, and_true, Int.toNat_zero, Int.reduceToNat, Int.reduceLT, Int.reduceLE, Int.cast_ofNat_Int, forall_eq, ge_iff_le, Int.reduceNeg, Int.reduceAdd, Int.reduceSub, Int.reduceMul, Int.reduceEq, r32_0, r32_1, r32_m1, b01_0, b01_1, not_true_eq_false, not_false_eq_true, false_implies, true_implies, implies_true, forall_const]
    refine l_lv (n := n) (by omega) hI (fun S1 q1 t1 d1 => oV_i ⟨d1.1.1, c_ofScale (i := s.toNat) (q := 0) (by omega) d1.1 (by omega) rfl (by omega) (by decide) (oI_i ⟨d1.1.1, ?_⟩)⟩)
    rw [d1.2.1]
    refine c_nextOf (n := n) (l := 0) (kn := kd (S.I (m+1)) s.toNat) (by omega) d1.1 (by rw [d1.2.1]; exact hg) d1.2.2.2.1 d1.lv rfl b.1.1 b.1.2 (fun S2 f2 _ _ => oI_i ?_)
    exact fin h (by unfold A_next; rw [if_pos c']) (q1.fr f2 (by decide) (by decide) (by decide) (by decide) (by decide)) (by rw [f2.fld (by decide), t1])
  · simp only [hl, sI_K, sI_N, sI_R, sI_J, Option.some.injEq, exists_eq_left', true_and, and_true, Int.toNat_zero, Int.reduceToNat, Int.reduceLT, Int.reduceLE, Int.cast_ofNat_Int, forall_eq, ge_iff_le, Int.reduceNeg, Int.reduceAdd, Int.reduceSub, Int.reduceMul, Int.reduceEq, r32_0, r32_1, r32_m1, b01_0, b01_1, not_true_eq_false, not_false_eq_true, false_implies, true_implies, implies_true, forall_const]
    exact fin h (by unfold A_next; rw [if_neg c]) (rq_x hI) rq_t
/-- what is laid next, or nothing -/
def Dn (n : Nat) (L : List Nat) : Prop := L.length = 0 ∨ Known n L
noncomputable def lf (n kn : Nat) (L : List Nat) : Int := cD (Dn n L) (-1) (if (nxF n kn L).1 < 0 ∨ (nxF n kn L).2.1 = L.length then -1 else (nxF n kn L).1)
theorem l_kn {d m n l : Nat} {L : List Nat} {S : MS} {Q : Out → MS → Prop} {x : Int} (hd : 3 ≤ d) (hL : RLay S m) (h3 : 3 ≤ n) (h7 : n ≤ 7) (hT : Tb S m n) (hV : LV S m n l L) (e : x = (l : Int)) (h : ∀ q, BI q (Known n L) → Q (.inl (some (vI q))) S) : Mw hX11_isKnown yX11_isKnown d [vA m, vI x] S Q :=
  c_isKnown (n := n) (l := l) hd hL h3 h7 hT e hV.2.2.2 hV.1 hV.2.1 hV.2.2.1 h
theorem nxF_r {n kn : Nat} {L : List Nat} (h7 : n ≤ 7) (hlen : L.length ≤ 5040) : -1 ≤ (nxF n kn L).1 ∧ (nxF n kn L).1 < 128 ∧ (nxF n kn L).2.1 ≤ 5040 ∧ (nxF n kn L).2.2 ≤ 177811200 := by
  have p7 := p2_7 h7
  refine nx_ok h7 hlen _ _ (fun x hx => ?_) (by decide)
  have := ((cmb_k h7).2 x hx).1
  omega
theorem c_laidFor {d m n l kn : Nat} {L : List Nat} {S : MS} {Q : Out → MS → Prop} {x1 x2 : Int} (hd : 5 ≤ d) (hL : RLay S m) (hg : GW n (S.I (m+1))) (hT : Tb S m n) (hV : LV S m n l L) (e1 : x1 = (l : Int)) (e2 : x2 = (kn : Int)) (hk : kn < 3)
    (h : ∀ S', Fr m [12, 13, 14] [23, 25, 26, 27] S S' → Q (.inl (some (vI (lf n kn L)))) S') : Mw hX11_laidFor yX11_laidFor d [vA m, vI x1, vI x2] S Q := by
  subst e1 e2
  have h3 := hg.1.1
  have h7 := hg.1.2.1
  have hK := hV.1
  have hlen := hV.2.2.1
  have hl36 := hV.2.2.2
  have hr := nxF_r (kn := kn) h7 hlen
  obtain ⟨dd, rfl⟩ : ∃ e, d = e + 1 := ⟨d - 1, by omega⟩
  refine MX11_laidFor ?_
  have hl := hL
  unfold RLay at hl
  unfold VX11_laidFor_0
  simp only [hl, sI_K, sI_N, sI_R, sI_J, Option.some.injEq, exists_eq_left', true_and, and_true, Int.toNat_zero, Int.reduceToNat, Int.reduceLT, Int.reduceLE, Int.cast_ofNat_Int, forall_eq, ge_iff_le, Int.reduceNeg, Int.reduceAdd, Int.reduceSub, Int.reduceMul, Int.reduceEq, r32_0, r32_1, r32_m1, b01_0, b01_1, not_true_eq_false, not_false_eq_true, false_implies, true_implies, implies_true, forall_const]
  rw [Int.toNat_natCast, hK.1]
  refine ⟨by omega, (by unfold R32; omega), fun c => ?_, fun c => l_kn (n := n) (l := l) (by omega) hL h3 h7 hT hV rfl (fun q hq => oI_i ⟨hq.r, fun c2 => ⟨hL.1, ?_⟩, fun c2 => ?_⟩)⟩
  · have := h S Fr.rf
    unfold lf at this
    rw [cD_y (show Dn n L from Or.inl (by omega))] at this
    exact this
  · have nd : ¬ Dn n L := by
      intro k
      rcases k with k | k
      · omega
      · rcases hq with ⟨rfl, -⟩ | ⟨-, hq⟩
        · omega
        · exact hq k
    refine c_nextOf (n := n) (l := l) (kn := kn) (by omega) hL hg hT hV rfl rfl hk (fun S1 f1 _ k1 => oI_i ?_)
    have hL1 := f1.lay hL
    have hK1 := f1.kl (by decide) (by decide) hK
    have e := h S1 f1
    unfold lf at e
    rw [cD_n nd] at e
    unfold VX11_laidFor_43
    refine ⟨(by unfold R32; omega), fun c3 => ?_, fun c3 => ?_⟩
    · rw [if_pos (Or.inl c3)] at e
      exact e
    · have hl := hL1
      unfold RLay at hl
      simp only [hl, sI_K, sI_N, sI_R, sI_J, Option.some.injEq, exists_eq_left', true_and, and_true, Int.toNat_zero, Int.reduceToNat, Int.reduceLT, Int.reduceLE, Int.cast_ofNat_Int, forall_eq, ge_iff_le, Int.reduceNeg, Int.reduceAdd, Int.reduceSub, Int.reduceMul, Int.reduceEq, r32_0, r32_1, r32_m1, b01_0, b01_1, not_true_eq_false, not_false_eq_true, false_implies, true_implies, implies_true, forall_const]
      rw [hK1.1, k1 (by omega)]
      refine ⟨by omega, ⟨(by unfold R32; omega), (by unfold R32; omega)⟩, fun c4 => ?_, fun c4 => ?_⟩
      · rw [if_neg (by omega)] at e
        exact e
      · rw [if_pos (by omega)] at e
        exact e
  · have := h S Fr.rf
    unfold lf at this
    rw [cD_y] at this
    · exact this
    · right
      rcases hq with ⟨-, hq⟩ | ⟨rfl, -⟩
      · exact hq
      · omega
/-- a thing is placed -/
def plM (n t : Nat) (L : List Nat) : Nat := mskL (fun r => plc n r t) L
def Plc (n t : Nat) (L : List Nat) : Prop := pc (plM n t L) = 1 ∨ (pc (plM n t L) = 2 ∧ (plM n t L : Int) = iOr (iShl 1 (tzF (plM n t L))) (iShl 1 ((n : Int) - 1 - tzF (plM n t L))))
theorem iOr_R (a b : Int) : R32 (iOr a b) := ⟨Int32.le_toInt _, Int32.toInt_lt _⟩
theorem f_placed {d m n l t : Nat} {L : List Nat} {S : MS} {Q : Out → MS → Prop} (hd : 2 ≤ d) (hL : RLay S m) (h3 : 3 ≤ n) (h7 : n ≤ 7) (hT : Tb S m n) (hV : LV S m n l L) (ht : t < n) (h : ∀ q, BI q (Plc n t L) → Q (.inl (some (vI q))) S) : ∀ (j : Nat) {k : Nat}, k + j = L.length → VX11_isPlaced_5 d Q (j + 1) m (l : Nat) (t : Nat) (plM n t (L.take k) : Nat) (k : Nat) S := by
  obtain ⟨hK, hrow, hlen, hl36⟩ := hV
  intro j
  induction j with
  | zero =>
    intro k hk
    have hl := hL
    unfold RLay at hl
    unfold VX11_isPlaced_5 VX11_isPlaced_81
    simp only [hl, sI_K, sI_N, sI_R, sI_J, Option.some.injEq, exists_eq_left', true_and, and_true, Int.toNat_zero, Int.reduceToNat, Int.reduceLT, Int.reduceLE, Int.cast_ofNat_Int, forall_eq, ge_iff_le, Int.reduceNeg, Int.reduceAdd, Int.reduceSub, Int.reduceMul, Int.reduceEq, r32_0, r32_1, r32_m1, b01_0, b01_1, not_true_eq_false, not_false_eq_true, false_implies, true_implies, implies_true, forall_const]
    rw [Int.toNat_natCast, hK.1]
    rw [show L.take k = L by rw [show k = L.length by omega]; exact List.take_length]
    have q1 := mskL_lt (fun r => plc n r t) L
    have q1' : plM n t L < 128 := q1
    have q2 := pc_le (plM n t L)
    refine ⟨by omega, ⟨(by unfold R32; omega), (by unfold R32; omega)⟩, fun _ => c_ntz (x := plM n t L) (by omega) rfl q1 (oI_i (c_bitCount (x := plM n t L) (by omega) rfl q1 (oI_i ⟨(by unfold R32; omega), fun c => h _ (.y (Or.inl (by omega))), fun c => c_bitCount (x := plM n t L) (by omega) rfl q1 (oI_i ⟨⟨(by unfold R32; omega), (by unfold R32; omega)⟩, fun c2 => h _ (.n ?_), fun c2 => ?_⟩)⟩))), fun c => by omega⟩
    · intro k; rcases k with k | k <;> omega
    · rw [hT.1]
      refine ⟨hL.1, ⟨(by unfold R32; omega), iOr_R _ _⟩, fun c3 => h _ (.n ?_), fun c3 => h _ (.y (Or.inr ⟨by omega, c3⟩))⟩
      intro k
      rcases k with k | k
      · omega
      · exact c3 k.2
  | succ j ih =>
    intro k hk
    have hl := hL
    unfold RLay at hl
    have hkl : k < L.length := by omega
    have hrk := hrow _ (getD_mem hkl)
    unfold VX11_isPlaced_5
    simp only [hl, sI_K, sI_N, sI_R, sI_J, Option.some.injEq, exists_eq_left', true_and, and_true, Int.toNat_zero, Int.reduceToNat, Int.reduceLT, Int.reduceLE, Int.cast_ofNat_Int, forall_eq, ge_iff_le, Int.reduceNeg, Int.reduceAdd, Int.reduceSub, Int.reduceMul, Int.reduceEq, r32_0, r32_1, r32_m1, b01_0, b01_1, not_true_eq_false, not_false_eq_true, false_implies, true_implies, implies_true, forall_const]
    rw [Int.toNat_natCast, hK.1]
    refine ⟨by omega, ⟨(by unfold R32; omega), (by unfold R32; omega)⟩, fun _ => by omega, fun c => c_rowAt (r := l) (p := k) (by omega) hL rfl rfl (by omega) (oI_i ⟨hL.1, ?_⟩)⟩
    rw [hK.2 k hkl]
    refine c_placeOf (n := n) (t := t) (by omega) hL h3 h7 hT rfl rfl hrk ht (oI_i ?_)
    have p1 := plc_lt h3 h7 hrk ht
    have q1 := mskL_lt (fun r => plc n r t) (L.take k)
    have q2 : 2 ^ plc n (L.getD k 0) t ≤ 2 ^ 6 := Nat.pow_le_pow_right (by decide) (by omega)
    unfold plM
    rw [i1_shl (by omega), iOr_n (by omega) (by omega), ← mskL_s (g := fun r => plc n r t) hkl (by omega), (show ∀ (k : Nat), (k : Int) + 1 = ((k + 1 : Nat) : Int) from fun _ => rfl) k]
    exact ih (by omega)
theorem c_isPlaced {d m n l t : Nat} {L : List Nat} {S : MS} {Q : Out → MS → Prop} {x1 x2 : Int} (hd : 3 ≤ d) (hL : RLay S m) (h3 : 3 ≤ n) (h7 : n ≤ 7) (hT : Tb S m n) (hV : LV S m n l L) (e1 : x1 = (l : Int)) (e2 : x2 = (t : Int)) (ht : t < n) (h : ∀ q, BI q (Plc n t L) → Q (.inl (some (vI q))) S) : Mw hX11_isPlaced yX11_isPlaced d [vA m, vI x1, vI x2] S Q := by
  subst e1 e2
  obtain ⟨dd, rfl⟩ : ∃ e, d = e + 1 := ⟨d - 1, by omega⟩
  refine MX11_isPlaced ?_
  unfold VX11_isPlaced_0
  have := f_placed (Q := Q) (d := dd) (by omega) hL h3 h7 hT hV ht h L.length (k := 0) (by omega)
  have e : plM n t (L.take 0) = 0 := mskL_0 _
  rw [e] at this
  exact ⟨_, this⟩
/-- can it be told at once whether rows can be learnt -/
noncomputable def pln (n kn k : Nat) (L : List Nat) : Nat := cD (Dn n L) 1 (if k = 0 ∨ bdF (pansK kn) k < L.length then 0 else 2)
theorem c_plainly {d m n l kn k : Nat} {L : List Nat} {S : MS} {Q : Out → MS → Prop} {x1 x2 x3 : Int} (hd : 4 ≤ d) (hL : RLay S m) (h3 : 3 ≤ n) (h7 : n ≤ 7) (hT : Tb S m n) (hV : LV S m n l L) (e1 : x1 = (l : Int)) (e2 : x2 = (k : Int)) (e3 : x3 = (pansK kn : Int)) (hl10 : l < 10) (hk : k ≤ 100)
    (h0 : pln n kn k L ≠ 2 → Q (.inl (some (vI (pln n kn k L : Nat)))) S)
    (h2 : pln n kn k L = 2 → Q (.inl (some (vI 2))) ((S.setI (m+15) l (-1)).setI (m+16) l (pansK kn : Int))) : Mw hX11_plainly yX11_plainly d [vA m, vI x1, vI x2, vI x3] S Q := by
  subst e1 e2 e3
  have hK := hV.1
  have hlen := hV.2.2.1
  have hpk := pansK_le kn
  obtain ⟨dd, rfl⟩ : ∃ e, d = e + 1 := ⟨d - 1, by omega⟩
  refine MX11_plainly ?_
  have hl := hL
  unfold RLay at hl
  unfold VX11_plainly_0
  simp only [hl, sI_K, sI_N, sI_R, sI_J, Option.some.injEq, exists_eq_left', true_and, and_true, Int.toNat_zero, Int.reduceToNat, Int.reduceLT, Int.reduceLE, Int.cast_ofNat_Int, forall_eq, ge_iff_le, Int.reduceNeg, Int.reduceAdd, Int.reduceSub, Int.reduceMul, Int.reduceEq, r32_0, r32_1, r32_m1, b01_0, b01_1, not_true_eq_false, not_false_eq_true, false_implies, true_implies, implies_true, forall_const]
  rw [Int.toNat_natCast, hK.1]
  refine ⟨by omega, (by unfold R32; omega), fun c => ?_, fun c => l_kn (n := n) (l := l) (by omega) hL h3 h7 hT hV rfl (fun q hq => oI_i ⟨hq.r, fun c2 => ?_, fun c2 => ?_⟩)⟩
  · have e : pln n kn k L = 1 := by unfold pln; rw [cD_y (show Dn n L from Or.inl (by omega))]
    rw [e] at h0
    exact h0 (by decide)
  · have nd : ¬ Dn n L := by
      intro k
      rcases k with k | k
      · omega
      · rcases hq with ⟨rfl, -⟩ | ⟨-, hq⟩
        · omega
        · exact hq k
    have e : pln n kn k L = if k = 0 ∨ bdF (pansK kn) k < L.length then 0 else 2 := by unfold pln; rw [cD_n nd]
    refine ⟨(by unfold R32; omega), fun c3 => ?_, fun c3 => ?_⟩
    · rw [if_pos (Or.inl (by omega))] at e
      rw [e] at h0
      exact h0 (by decide)
    · simp only [hl, sI_K, sI_N, sI_R, sI_J, Option.some.injEq, exists_eq_left', true_and, and_true, Int.toNat_zero, Int.reduceToNat, Int.reduceLT, Int.reduceLE, Int.cast_ofNat_Int, forall_eq, ge_iff_le, Int.reduceNeg, Int.reduceAdd, Int.reduceSub, Int.reduceMul, Int.reduceEq, r32_0, r32_1, r32_m1, b01_0, b01_1, not_true_eq_false, not_false_eq_true, false_implies, true_implies, implies_true, forall_const]
      rw [hK.1]
      have hb := bdF_le (pansK kn) k
      refine ⟨by omega, c_boundFor (p := pansK kn) (k := k) (by omega) rfl rfl (by omega) (by omega) (oI_i ⟨⟨(by unfold R32; omega), (by unfold R32; omega)⟩, fun c4 => ?_, fun c4 => ?_⟩)⟩
      · rw [if_neg (by omega)] at e
        simp only [hl, sI_K, sI_N, sI_R, sI_J, Option.some.injEq, exists_eq_left', true_and, and_true, Int.toNat_zero, Int.reduceToNat, Int.reduceLT, Int.reduceLE, Int.cast_ofNat_Int, forall_eq, ge_iff_le, Int.reduceNeg, Int.reduceAdd, Int.reduceSub, Int.reduceMul, Int.reduceEq, r32_0, r32_1, r32_m1, b01_0, b01_1, not_true_eq_false, not_false_eq_true, false_implies, true_implies, implies_true, forall_const]
        exact ⟨by omega, by omega, h2 e⟩
      · rw [if_pos (by omega)] at e
        rw [e] at h0
        exact h0 (by decide)
  · have e : pln n kn k L = 1 := by
      unfold pln
      rw [cD_y]
      right
      rcases hq with ⟨-, hq⟩ | ⟨rfl, -⟩
      · exact hq
      · omega
    rw [e] at h0
    exact h0 (by decide)
theorem c_isIdle {d m n l kn i : Nat} {L X : List Nat} {S : MS} {Q : Out → MS → Prop} {x1 x2 : Int} (hd : 4 ≤ d) (hL : RLay S m) (h3 : 3 ≤ n) (h7 : n ≤ 7) (hT : Tb S m n) (hV : LV S m n l L) (hX : X = cmb n n (pansK kn)) (hS : SL S m X) (e1 : x1 = (l : Int)) (e2 : x2 = (kn : Int)) (hk : kn < 3) (hl10 : l < 10) (hi : S.I (m+15) l = (i : Int)) (hi2 : i < X.length)
    (h : ∀ S' q, Fr m [14] [25, 26] S S' → BI q (wst n kn (X.getD i 0) L = L.length) → Q (.inl (some (vI q))) S') : Mw hX11_isIdle yX11_isIdle d [vA m, vI x1, vI x2] S Q := by
  subst e1 e2
  have hc := cmb_k (kn := kn) h7
  rw [← hX] at hc
  have hxk := hc.2 _ (getD_mem hi2)
  have hK := hV.1
  have hlen := hV.2.2.1
  obtain ⟨dd, rfl⟩ : ∃ e, d = e + 1 := ⟨d - 1, by omega⟩
  refine MX11_isIdle ?_
  have hl := hL
  unfold RLay at hl
  unfold VX11_isIdle_0
  simp only [hl, sI_K, sI_N, sI_R, sI_J, Option.some.injEq, exists_eq_left', true_and, and_true, Int.toNat_zero, Int.reduceToNat, Int.reduceLT, Int.reduceLE, Int.cast_ofNat_Int, forall_eq, ge_iff_le, Int.reduceNeg, Int.reduceAdd, Int.reduceSub, Int.reduceMul, Int.reduceEq, r32_0, r32_1, r32_m1, b01_0, b01_1, not_true_eq_false, not_false_eq_true, false_implies, true_implies, implies_true, forall_const]
  rw [Int.toNat_natCast, hi, Int.toNat_natCast, hS.2 i hi2]
  refine ⟨by omega, by omega, c_lays (n := n) (l := l) (kn := kn) (x := X.getD i 0) (by omega) hL h3 h7 hT hV rfl rfl rfl hk hxk.1 hxk.2 (fun S1 f1 w1 s1 => oV_i ?_)⟩
  have hL1 := f1.lay hL
  have hK1 := f1.kl (by decide) (by decide) hK
  have hl := hL1
  unfold RLay at hl
  have ew := wst_le n kn (X.getD i 0) L
  simp only [hl, sI_K, sI_N, sI_R, sI_J, Option.some.injEq, exists_eq_left', true_and, and_true, Int.toNat_zero, Int.reduceToNat, Int.reduceLT, Int.reduceLE, Int.cast_ofNat_Int, forall_eq, ge_iff_le, Int.reduceNeg, Int.reduceAdd, Int.reduceSub, Int.reduceMul, Int.reduceEq, r32_0, r32_1, r32_m1, b01_0, b01_1, not_true_eq_false, not_false_eq_true, false_implies, true_implies, implies_true, forall_const]
  rw [hK1.1, w1]
  exact ⟨by omega, ⟨(by unfold R32; omega), (by unfold R32; omega)⟩, fun c => h S1 _ f1 (.n (by omega)), fun c => h S1 _ f1 (.y (by omega))⟩
/-- the least bound -/
def bdK (p len : Nat) : Nat → Nat → Nat
  | 0, k => k
  | j + 1, k => if len ≤ bdF p k then k else bdK p len j (k + 1)
theorem bdF_20 : ∀ p, p < 5 → 2 ≤ p → bdF p 20 = 5040 := by decide +kernel
theorem f_bound {d m n i kn : Nat} {w : Nat → Int} {L : List Nat} {S : MS} {Q : Out → MS → Prop} (hd : 2 ≤ d) (hD : RD S m n w L) (hi : i < sN w) (hk : kd w i = kn) : ∀ (j : Nat) {k : Nat}, k + j = 20 → Q (.inl (some (vI (bdK (pansK kn) L.length j k : Nat)))) S → VX11_bound_45 d Q (j + 1) m (i : Nat) (k : Nat) S := by
  obtain ⟨hL, hw, hg, hT, hK, hrow, hlen⟩ := hD
  have h3 := hg.1.1
  have h7 := hg.1.2.1
  have hf := fct_le h3 h7
  have b := hg.sc hi
  have g1 := hg.2.1
  have hpk := pansK_le kn
  rw [hk] at b
  intro j
  induction j with
  | zero =>
    intro k hj h
    have hl := hL
    unfold RLay at hl
    unfold VX11_bound_45
    simp only [hl, sI_K, sI_N, sI_R, sI_J, Option.some.injEq, exists_eq_left', true_and, and_true, Int.toNat_zero, Int.reduceToNat, Int.reduceLT, Int.reduceLE, Int.cast_ofNat_Int, forall_eq, ge_iff_le, Int.reduceNeg, Int.reduceAdd, Int.reduceSub, Int.reduceMul, Int.reduceEq, r32_0, r32_1, r32_m1, b01_0, b01_1, not_true_eq_false, not_false_eq_true, false_implies, true_implies, implies_true, forall_const]
    rw [hK.1]
    have e := bdF_20 (pansK kn) (by omega) (by omega)
    refine c_pans (i := i) (k := kn) (by omega) hL rfl (by omega) (by rw [hw]; exact b.1.1) b.1.2 (oI_i (c_boundFor (p := pansK kn) (k := k) (by omega) rfl rfl (by omega) (by omega) (oI_i ?_)))
    rw [show k = 20 by omega] at h ⊢
    rw [e]
    exact ⟨⟨(by unfold R32; omega), (by unfold R32; omega)⟩, fun _ => h, fun c => by omega⟩
  | succ j ih =>
    intro k hj h
    have hl := hL
    unfold RLay at hl
    unfold VX11_bound_45
    simp only [hl, sI_K, sI_N, sI_R, sI_J, Option.some.injEq, exists_eq_left', true_and, and_true, Int.toNat_zero, Int.reduceToNat, Int.reduceLT, Int.reduceLE, Int.cast_ofNat_Int, forall_eq, ge_iff_le, Int.reduceNeg, Int.reduceAdd, Int.reduceSub, Int.reduceMul, Int.reduceEq, r32_0, r32_1, r32_m1, b01_0, b01_1, not_true_eq_false, not_false_eq_true, false_implies, true_implies, implies_true, forall_const]
    rw [hK.1]
    have hb := bdF_le (pansK kn) k
    refine c_pans (i := i) (k := kn) (by omega) hL rfl (by omega) (by rw [hw]; exact b.1.1) b.1.2 (oI_i (c_boundFor (p := pansK kn) (k := k) (by omega) rfl rfl (by omega) (by omega) (oI_i ?_)))
    unfold bdK at h
    refine ⟨⟨(by unfold R32; omega), (by unfold R32; omega)⟩, fun c => ?_, fun c => ?_⟩
    · rw [if_pos (by omega)] at h
      exact h
    · rw [if_neg (by omega)] at h
      exact ih (k := k + 1) (by omega) h
noncomputable def A_bound (n : Nat) (w : Nat → Int) (s : Int) : Int × Int := if 0 ≤ s ∧ s < (sN w : Int) then (0, cD (Dn n (rowsL n w 0)) 0 (bdK (pansK (kd w s.toNat)) (rowsL n w 0).length 20 0 : Nat)) else (1, 0)
theorem c_bound {d m n : Nat} {S : MS} {Q : Out → MS → Prop} {s : Int} (hd : 7 ≤ d) (hI : RI S m n) (hs : R32 s) (h : ∀ S', RQ m S S' → S'.I m 0 = (A_bound n (S.I (m+1)) s).1 → Q (.inl (some (vI (A_bound n (S.I (m+1)) s).2))) S') : Mw hX11_bound yX11_bound d [vA m, vI s] S Q := by
  have hL := hI.1
  have hg := hI.2.1
  obtain ⟨dd, rfl⟩ : ∃ e, d = e + 1 := ⟨d - 1, by omega⟩
  refine MX11_bound ?_
  have hl := hL
  unfold RLay at hl
  unfold VX11_bound_0
  simp only [hl, sI_K, sI_N, sI_R, sI_J, Option.some.injEq, exists_eq_left', true_and, and_true, Int.toNat_zero, Int.reduceToNat, Int.reduceLT, Int.reduceLE, Int.cast_ofNat_Int, forall_eq, ge_iff_le, Int.reduceNeg, Int.reduceAdd, Int.reduceSub, Int.reduceMul, Int.reduceEq, r32_0, r32_1, r32_m1, b01_0, b01_1, not_true_eq_false, not_false_eq_true, false_implies, true_implies, implies_true, forall_const]
  refine l_noS (n := n) (by omega) hI hs (fun r hr => oI_i ⟨hL.1, t_if (by omega) (by exact hL) hr (fun c => oI_i ?_) (fun c => oI_i ?_)⟩)
  · have c' : 0 ≤ s ∧ s < (sN (S.I (m+1)) : Int) := Classical.byContradiction c
    have g1 := hg.2.1
    have b := hg.sc (s := s.toNat) (by omega)
    simp only [hl, sI_K, sI_N, sI_R, sI_J, Option.some.injEq, exists_eq_left', true_and, and_true, Int.toNat_zero, Int.reduceToNat, Int.reduceLT, Int.reduceLE, Int.cast_ofNat_Int, forall_eq, ge_iff_le, Int.reduceNeg, Int.reduceAdd, Int.reduceSub, Int.reduceMul, Int.reduceEq, r32_0, r32_1, r32_m1, b01_0, b01_1, not_true_eq_false, not_false_eq_true, false_implies, true_implies, implies_true, forall_const]
    refine l_lv (n := n) (by omega) hI (fun S1 q1 t1 d1 => oV_i ?_)
    have hK1 := d1.2.2.2.2.1
    have hlen := d1.2.2.2.2.2.2
    have hl := d1.1
    unfold RLay at hl
    simp only [hl, sI_K, sI_N, sI_R, sI_J, Option.some.injEq, exists_eq_left', true_and, and_true, Int.toNat_zero, Int.reduceToNat, Int.reduceLT, Int.reduceLE, Int.cast_ofNat_Int, forall_eq, ge_iff_le, Int.reduceNeg, Int.reduceAdd, Int.reduceSub, Int.reduceMul, Int.reduceEq, r32_0, r32_1, r32_m1, b01_0, b01_1, not_true_eq_false, not_false_eq_true, false_implies, true_implies, implies_true, forall_const]
    rw [hK1.1]
    refine ⟨(by unfold R32; omega), fun c => fin h ?_ q1 t1, fun c => l_kn (n := n) (l := 0) (by omega) d1.1 hg.1.1 hg.1.2.1 d1.2.2.2.1 d1.lv rfl (fun q hq => oI_i ⟨hq.r, fun c2 => ⟨21, ?_⟩, fun c2 => fin h ?_ q1 t1⟩)⟩
    · unfold A_bound; rw [if_pos c', cD_y (show Dn n (rowsL n (S.I (m+1)) 0) from Or.inl (by omega))]
    · have nd : ¬ Dn n (rowsL n (S.I (m+1)) 0) := by
        intro k
        rcases k with k | k
        · omega
        · rcases hq with ⟨rfl, -⟩ | ⟨-, hq⟩
          · omega
          · exact hq k
      rw [show s = (s.toNat : Int) by omega]
      exact f_bound (i := s.toNat) (by omega) d1 (by omega) rfl 20 (k := 0) (by omega) (fin h (by unfold A_bound; rw [if_pos c', cD_n nd]) q1 t1)
    · unfold A_bound
      rw [if_pos c', cD_y]
      right
      rcases hq with ⟨-, hq⟩ | ⟨rfl, -⟩
      · exact hq
      · omega
  · simp only [hl, sI_K, sI_N, sI_R, sI_J, Option.some.injEq, exists_eq_left', true_and, and_true, Int.toNat_zero, Int.reduceToNat, Int.reduceLT, Int.reduceLE, Int.cast_ofNat_Int, forall_eq, ge_iff_le, Int.reduceNeg, Int.reduceAdd, Int.reduceSub, Int.reduceMul, Int.reduceEq, r32_0, r32_1, r32_m1, b01_0, b01_1, not_true_eq_false, not_false_eq_true, false_implies, true_implies, implies_true, forall_const]
    exact fin h (by unfold A_bound; rw [if_neg c]) (rq_x hI) rq_t
