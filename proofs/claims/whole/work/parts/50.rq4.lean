/-! stands, wants -/
theorem b01_r {x : Int} (h : B01 x) : R32 x := by rcases h with rfl | rfl <;> (unfold R32; omega)
def smL (g : Nat → Nat) (L : List Nat) : Nat := (L.map g).sum
theorem smL_s {g : Nat → Nat} {L : List Nat} {k : Nat} (h : k < L.length) : smL g (L.take (k + 1)) = smL g (L.take k) + g (L.getD k 0) := by
  unfold smL
  rw [take_s h, List.map_append, List.sum_append]
  simp
theorem smL_le {g : Nat → Nat} {b : Nat} : ∀ {L : List Nat}, (∀ r ∈ L, g r ≤ b) → smL g L ≤ b * L.length
  | [], _ => Nat.zero_le _
  | r :: L, h => by
    have h1 := h r List.mem_cons_self
    have h2 := smL_le (L := L) (fun x hx => h x (List.mem_cons_of_mem _ hx))
    unfold smL at h2 ⊢
    rw [List.map_cons, List.sum_cons, List.length_cons, Nat.mul_add]
    omega
theorem f_gcd {d m s c : Nat} {w : Nat → Int} {L : List Nat} {n : Nat} {S : MS} {Q : Out → MS → Prop} {bl : Int} (hD : RD S m n w L) (hb : B01 bl) (hs : s < 100000) (hG : 0 < Nat.gcd L.length s) (h : Q (.inl (some (vI (if bl = 0 then ((s / Nat.gcd L.length s : Nat) : Int) else ((L.length / Nat.gcd L.length s : Nat) : Int))))) S) : ∀ (j : Nat) {a b : Nat}, b ≤ j → a < 100000 → b < 100000 → Nat.gcd a b = Nat.gcd L.length s → VX11_stands_83 d Q (j + 1) m bl (s : Nat) (a : Nat) (b : Nat) S := by
  obtain ⟨hL, hw, hg, hT, hK, hrow, hlen⟩ := hD
  have h3 := hg.1.1
  have h7 := hg.1.2.1
  have hf := fct_le h3 h7
  have fin : ∀ {a : Nat}, a < 100000 → Nat.gcd a 0 = Nat.gcd L.length s → R32 bl ∧ (bl = 0 → (R32 (a : Int) ∧ (a : Int) ≠ 0) ∧ Q (.inl (some (vI (iDiv (s : Int) (a : Int))))) S) ∧ (¬ bl = 0 → S.K m = 11 ∧ ∃ b1, S.R m 17 = some b1 ∧ ((S.K b1 = 13 ∧ 0 ≤ (0 : Int) ∧ (0 : Int) < S.N b1) ∧ ((R32 (a : Int) ∧ (a : Int) ≠ 0) ∧ Q (.inl (some (vI (iDiv (S.I b1 ((0 : Int)).toNat) (a : Int))))) S))) := by
    intro a ha e
    rw [Nat.gcd_zero_right] at e
    rw [← e] at h hG
    have hl := hL
    unfold RLay at hl
    simp only [hl, sI_K, sI_N, sI_R, sI_J, Option.some.injEq, exists_eq_left', true_and, and_true, Int.toNat_zero, Int.reduceToNat, Int.reduceLT, Int.reduceLE, Int.cast_ofNat_Int, forall_eq, ge_iff_le, Int.reduceNeg, Int.reduceAdd, Int.reduceSub, Int.reduceMul, Int.reduceEq, r32_0, r32_1, r32_m1, b01_0, b01_1, not_true_eq_false, not_false_eq_true, false_implies, true_implies, implies_true, forall_const]
    rw [hK.1]
    refine ⟨b01_r hb, fun c => ⟨⟨(by unfold R32; omega), by omega⟩, ?_⟩, fun c => ⟨⟨(by unfold R32; omega), by omega⟩, ?_⟩⟩
    · rw [if_pos c] at h
      rw [iDiv_n (by omega) (by omega)]
      exact h
    · rw [if_neg c] at h
      rw [iDiv_n (by omega) (by omega)]
      exact h
  intro j
  induction j with
  | zero =>
    intro a b h1 h2 h3 h4
    rw [show b = 0 by omega] at h4 ⊢
    unfold VX11_stands_83
    exact ⟨r32_0, fun _ => fin h2 h4, fun c => absurd (Int.le_refl 0) c⟩
  | succ j ih =>
    intro a b h1 h2 h3 h4
    unfold VX11_stands_83
    refine ⟨(by unfold R32; omega), fun c => ?_, fun c => ⟨⟨(by unfold R32; omega), by omega⟩, ?_⟩⟩
    · rw [show b = 0 by omega] at h4
      exact fin h2 h4
    · rw [iRem_n (by omega) (by omega)]
      have := Nat.mod_lt a (show 0 < b by omega)
      refine ih (by omega) h3 (by omega) ?_
      rw [← h4, Nat.gcd_comm a b, Nat.gcd_rec b a, Nat.gcd_comm]
noncomputable def A_stands (n : Nat) (w : Nat → Int) (x bl : Int) : Int × Int := if 0 ≤ x ∧ x < (n : Int) then (0, if (rowsL n w 0).length = 0 then -1 else if bl = 0 then ((smL (fun r => plc n r x.toNat) (rowsL n w 0) / Nat.gcd (rowsL n w 0).length (smL (fun r => plc n r x.toNat) (rowsL n w 0)) : Nat) : Int) else (((rowsL n w 0).length / Nat.gcd (rowsL n w 0).length (smL (fun r => plc n r x.toNat) (rowsL n w 0)) : Nat) : Int)) else (1, 0)
theorem f_stands {d m n t : Nat} {w : Nat → Int} {L : List Nat} {S : MS} {Q : Out → MS → Prop} {bl : Int} (hd : 2 ≤ d) (hD : RD S m n w L) (hb : B01 bl) (ht : t < n) (h : Q (.inl (some (vI (if L.length = 0 then -1 else if bl = 0 then ((smL (fun r => plc n r t) L / Nat.gcd L.length (smL (fun r => plc n r t) L) : Nat) : Int) else ((L.length / Nat.gcd L.length (smL (fun r => plc n r t) L) : Nat) : Int))))) S) : ∀ (j : Nat) {k : Nat}, k + j = L.length → VX11_stands_29 d Q (j + 1) m (t : Nat) bl (smL (fun r => plc n r t) (L.take k) : Nat) (k : Nat) S := by
  have hD' := hD
  obtain ⟨hL, hw, hg, hT, hK, hrow, hlen⟩ := hD
  have h3 := hg.1.1
  have h7 := hg.1.2.1
  have hf := fct_le h3 h7
  have hs : smL (fun r => plc n r t) L ≤ 6 * L.length := smL_le (fun r hr => by have := plc_lt h3 h7 (hrow r hr) ht; omega)
  intro j
  induction j with
  | zero =>
    intro k hk
    have hl := hL
    unfold RLay at hl
    unfold VX11_stands_29
    simp only [hl, sI_K, sI_N, sI_R, sI_J, Option.some.injEq, exists_eq_left', true_and, and_true, Int.toNat_zero, Int.reduceToNat, Int.reduceLT, Int.reduceLE, Int.cast_ofNat_Int, forall_eq, ge_iff_le, Int.reduceNeg, Int.reduceAdd, Int.reduceSub, Int.reduceMul, Int.reduceEq, r32_0, r32_1, r32_m1, b01_0, b01_1, not_true_eq_false, not_false_eq_true, false_implies, true_implies, implies_true, forall_const]
    rw [hK.1]
    refine ⟨⟨(by unfold R32; omega), (by unfold R32; omega)⟩, fun _ => ?_, fun c => by omega⟩
    rw [show L.take k = L by rw [show k = L.length by omega]; exact List.take_length]
    refine ⟨(by unfold R32; omega), fun c => ⟨smL (fun r => plc n r t) L + 1, ?_⟩, fun c => ?_⟩
    · rw [if_neg (by omega)] at h
      exact f_gcd (c := 0) hD' hb (by omega) (Nat.gcd_pos_of_pos_left _ (by omega)) h _ (Nat.le_refl _) (by omega) (by omega) rfl
    · rw [if_pos (by omega)] at h
      exact h
  | succ j ih =>
    intro k hk
    have hl := hL
    unfold RLay at hl
    have hkl : k < L.length := by omega
    have hrk := hrow _ (getD_mem hkl)
    unfold VX11_stands_29
    simp only [hl, sI_K, sI_N, sI_R, sI_J, Option.some.injEq, exists_eq_left', true_and, and_true, Int.toNat_zero, Int.reduceToNat, Int.reduceLT, Int.reduceLE, Int.cast_ofNat_Int, forall_eq, ge_iff_le, Int.reduceNeg, Int.reduceAdd, Int.reduceSub, Int.reduceMul, Int.reduceEq, r32_0, r32_1, r32_m1, b01_0, b01_1, not_true_eq_false, not_false_eq_true, false_implies, true_implies, implies_true, forall_const]
    rw [hK.1]
    refine ⟨⟨(by unfold R32; omega), (by unfold R32; omega)⟩, fun _ => by omega, fun c => c_rowAt (r := 0) (p := k) (by omega) hL rfl rfl (by omega) (oI_i ⟨hL.1, ?_⟩)⟩
    rw [hK.2 k hkl]
    refine c_placeOf (n := n) (t := t) (by omega) hL h3 h7 hT rfl rfl hrk ht (oI_i ?_)
    have := ih (k := k + 1) (by omega)
    rw [smL_s hkl] at this
    exact this
theorem c_stands {d m n : Nat} {S : MS} {Q : Out → MS → Prop} {x bl : Int} (hd : 7 ≤ d) (hI : RI S m n) (hx : R32 x) (hb : B01 bl) (h : ∀ S', RQ m S S' → S'.I m 0 = (A_stands n (S.I (m+1)) x bl).1 → Q (.inl (some (vI (A_stands n (S.I (m+1)) x bl).2))) S') : Mw hX11_stands yX11_stands d [vA m, vI x, vI bl] S Q := by
  have hL := hI.1
  obtain ⟨dd, rfl⟩ : ∃ e, d = e + 1 := ⟨d - 1, by omega⟩
  refine MX11_stands ?_
  have hl := hL
  unfold RLay at hl
  unfold VX11_stands_0
  simp only [hl, sI_K, sI_N, sI_R, sI_J, Option.some.injEq, exists_eq_left', true_and, and_true, Int.toNat_zero, Int.reduceToNat, Int.reduceLT, Int.reduceLE, Int.cast_ofNat_Int, forall_eq, ge_iff_le, Int.reduceNeg, Int.reduceAdd, Int.reduceSub, Int.reduceMul, Int.reduceEq, r32_0, r32_1, r32_m1, b01_0, b01_1, not_true_eq_false, not_false_eq_true, false_implies, true_implies, implies_true, forall_const]
  refine l_no (n := n) (by omega) hI hx (fun r hr => oI_i ⟨hL.1, t_if (by omega) (by exact hL) hr (fun c => oI_i ?_) (fun c => oI_i ?_)⟩)
  · simp only [hl, sI_K, sI_N, sI_R, sI_J, Option.some.injEq, exists_eq_left', true_and, and_true, Int.toNat_zero, Int.reduceToNat, Int.reduceLT, Int.reduceLE, Int.cast_ofNat_Int, forall_eq, ge_iff_le, Int.reduceNeg, Int.reduceAdd, Int.reduceSub, Int.reduceMul, Int.reduceEq, r32_0, r32_1, r32_m1, b01_0, b01_1, not_true_eq_false, not_false_eq_true, false_implies, true_implies, implies_true, forall_const]
    have c' : 0 ≤ x ∧ x < (n : Int) := Classical.byContradiction c
    refine l_lv (n := n) (by omega) hI (fun S1 q1 t1 d1 => oV_i ⟨(rowsL n (S.I (m+1)) 0).length + 1, ?_⟩)
    have := f_stands (Q := Q) (t := x.toNat) (d := dd) (by omega) d1 hb (by omega) (fin h (by unfold A_stands; rw [if_pos c']) q1 t1) _ (k := 0) (Nat.zero_add _)
    rw [show (x.toNat : Int) = x by omega] at this
    exact this
  · simp only [hl, sI_K, sI_N, sI_R, sI_J, Option.some.injEq, exists_eq_left', true_and, and_true, Int.toNat_zero, Int.reduceToNat, Int.reduceLT, Int.reduceLE, Int.cast_ofNat_Int, forall_eq, ge_iff_le, Int.reduceNeg, Int.reduceAdd, Int.reduceSub, Int.reduceMul, Int.reduceEq, r32_0, r32_1, r32_m1, b01_0, b01_1, not_true_eq_false, not_false_eq_true, false_implies, true_implies, implies_true, forall_const]
    exact fin h (by unfold A_stands; rw [if_neg c]) (rq_x hI) rq_t
def atEnd (n t r : Nat) : Bool := (eo n r).testBit t
noncomputable def A_wants (n : Nat) (w : Nat → Int) (x t : Int) : Int × Int := if x = 3 ∧ ¬ (0 ≤ t ∧ t < (n : Int)) then (1, 0) else if ¬ (0 ≤ x ∧ x ≤ 3) then (2, 0) else (0, if x = 0 then pI (Known n (rowsL n w 0)) else if x = 1 then pI (pc (ceA n (rowsL n w 0)) = 1) else if x = 2 then pI (enC n (rowsL n w 0) = 1) else pI (0 < (rowsL n w 0).length ∧ (ct (atEnd n t.toNat) (rowsL n w 0) = 0 ∨ ct (atEnd n t.toNat) (rowsL n w 0) = (rowsL n w 0).length)))
theorem f_wants {d m n t : Nat} {w : Nat → Int} {L : List Nat} {S : MS} {Q : Out → MS → Prop} (hd : 3 ≤ d) (hD : RD S m n w L) (ht : t < n) (h : ∀ q, BI q (0 < L.length ∧ (ct (atEnd n t) L = 0 ∨ ct (atEnd n t) L = L.length)) → Q (.inl (some (vI q))) S) : ∀ (j : Nat) {k : Nat}, k + j = L.length → VX11_wants_115 d Q (j + 1) m (t : Nat) (ct (atEnd n t) (L.take k) : Nat) (k : Nat) S := by
  obtain ⟨hL, hw, hg, hT, hK, hrow, hlen⟩ := hD
  have h3 := hg.1.1
  have h7 := hg.1.2.1
  have hf := fct_le h3 h7
  intro j
  induction j with
  | zero =>
    intro k hk
    have hl := hL
    unfold RLay at hl
    unfold VX11_wants_115
    simp only [hl, sI_K, sI_N, sI_R, sI_J, Option.some.injEq, exists_eq_left', true_and, and_true, Int.toNat_zero, Int.reduceToNat, Int.reduceLT, Int.reduceLE, Int.cast_ofNat_Int, forall_eq, ge_iff_le, Int.reduceNeg, Int.reduceAdd, Int.reduceSub, Int.reduceMul, Int.reduceEq, r32_0, r32_1, r32_m1, b01_0, b01_1, not_true_eq_false, not_false_eq_true, false_implies, true_implies, implies_true, forall_const]
    rw [hK.1]
    refine ⟨⟨(by unfold R32; omega), (by unfold R32; omega)⟩, fun _ => ?_, fun c => by omega⟩
    rw [show L.take k = L by rw [show k = L.length by omega]; exact List.take_length]
    have q := ct_le (atEnd n t) L
    unfold VX11_wants_173
    refine ⟨(by unfold R32; omega), fun c => h _ (.n (by omega)), fun c => ⟨(by unfold R32; omega), fun c2 => ⟨b01_1, h _ (.y (by omega))⟩, fun c2 => ⟨⟨(by unfold R32; omega), (by unfold R32; omega)⟩, fun c3 => h _ (.n (by omega)), fun c3 => ⟨b01_1, h _ (.y (by omega))⟩⟩⟩⟩
  | succ j ih =>
    intro k hk
    have hl := hL
    unfold RLay at hl
    have hkl : k < L.length := by omega
    have hrk := hrow _ (getD_mem hkl)
    unfold VX11_wants_115
    simp only [hl, sI_K, sI_N, sI_R, sI_J, Option.some.injEq, exists_eq_left', true_and, and_true, Int.toNat_zero, Int.reduceToNat, Int.reduceLT, Int.reduceLE, Int.cast_ofNat_Int, forall_eq, ge_iff_le, Int.reduceNeg, Int.reduceAdd, Int.reduceSub, Int.reduceMul, Int.reduceEq, r32_0, r32_1, r32_m1, b01_0, b01_1, not_true_eq_false, not_false_eq_true, false_implies, true_implies, implies_true, forall_const]
    rw [hK.1]
    refine ⟨⟨(by unfold R32; omega), (by unfold R32; omega)⟩, fun _ => by omega, fun c => c_rowAt (r := 0) (p := k) (by omega) hL rfl rfl (by omega) (oI_i ⟨hL.1, ?_⟩)⟩
    rw [hK.2 k hkl]
    refine c_endsOf (n := n) (r := L.getD k 0) (by omega) hL h3 h7 hT rfl hrk (oI_i ?_)
    have q2 := eo_lt h3 h7 hrk
    rw [iBit_n (by omega) (by omega)]
    have := ih (k := k + 1) (by omega)
    rw [ct_s hkl] at this
    have e : (if (eo n (L.getD k 0)).testBit t then (1 : Int) else 0) = ((if atEnd n t (L.getD k 0) then 1 else 0 : Nat) : Int) := by
      unfold atEnd
      split <;> rfl
    rw [e]
    exact this
theorem c_wants {d m n : Nat} {S : MS} {Q : Out → MS → Prop} {x t : Int} (hd : 7 ≤ d) (hI : RI S m n) (hx : R32 x) (ht : R32 t) (h : ∀ S', RQ m S S' → S'.I m 0 = (A_wants n (S.I (m+1)) x t).1 → Q (.inl (some (vI (A_wants n (S.I (m+1)) x t).2))) S') : Mw hX11_wants yX11_wants d [vA m, vI x, vI t] S Q := by
  have hL := hI.1
  obtain ⟨dd, rfl⟩ : ∃ e, d = e + 1 := ⟨d - 1, by omega⟩
  refine MX11_wants ?_
  have hl := hL
  unfold RLay at hl
  unfold VX11_wants_0
  simp only [hl, sI_K, sI_N, sI_R, sI_J, Option.some.injEq, exists_eq_left', true_and, and_true, Int.toNat_zero, Int.reduceToNat, Int.reduceLT, Int.reduceLE, Int.cast_ofNat_Int, forall_eq, ge_iff_le, Int.reduceNeg, Int.reduceAdd, Int.reduceSub, Int.reduceMul, Int.reduceEq, r32_0, r32_1, r32_m1, b01_0, b01_1, not_true_eq_false, not_false_eq_true, false_implies, true_implies, implies_true, forall_const]
  have good : ¬ (x = 3 ∧ ¬ (0 ≤ t ∧ t < (n : Int))) → VX11_wants_23 dd Q m x t m (S.setI m 0 0) := by
    intro g
    unfold VX11_wants_23 VX11_wants_24
    refine ⟨hL.1, t_if (P := False) (by omega) (by exact hL) (.n id) (fun _ => oI_i ?_) (fun k => k.elim)⟩
    simp only [hl, sI_K, sI_N, sI_R, sI_J, Option.some.injEq, exists_eq_left', true_and, and_true, Int.toNat_zero, Int.reduceToNat, Int.reduceLT, Int.reduceLE, Int.cast_ofNat_Int, forall_eq, ge_iff_le, Int.reduceNeg, Int.reduceAdd, Int.reduceSub, Int.reduceMul, Int.reduceEq, r32_0, r32_1, r32_m1, b01_0, b01_1, not_true_eq_false, not_false_eq_true, false_implies, true_implies, implies_true, forall_const]
    refine c_in (by omega) hx r32_0 (by unfold R32; omega) (fun r hr => oI_i ⟨hr.r, fun c => ?_, fun c => ?_⟩)
    · have c' : 0 ≤ x ∧ x ≤ 3 := by rcases hr with ⟨-, hr⟩ | ⟨rfl, -⟩ <;> omega
      unfold VX11_wants_46
      refine ⟨hL.1, t_if (P := False) (by omega) (by exact hL) (.n id) (fun _ => oI_i ?_) (fun k => k.elim)⟩
      simp only [hl, sI_K, sI_N, sI_R, sI_J, Option.some.injEq, exists_eq_left', true_and, and_true, Int.toNat_zero, Int.reduceToNat, Int.reduceLT, Int.reduceLE, Int.cast_ofNat_Int, forall_eq, ge_iff_le, Int.reduceNeg, Int.reduceAdd, Int.reduceSub, Int.reduceMul, Int.reduceEq, r32_0, r32_1, r32_m1, b01_0, b01_1, not_true_eq_false, not_false_eq_true, false_implies, true_implies, implies_true, forall_const]
      refine l_lv (n := n) (by omega) hI (fun S1 q1 t1 d1 => oV_i ?_)
      have cm := mskL_lt (fun r => rat n r (n / 2)) (rowsL n (S.I (m+1)) 0)
      refine ⟨hx, fun c1 => ⟨hx, fun c2 => ⟨⟨hx, (by unfold R32; omega)⟩, fun c3 => ⟨(rowsL n (S.I (m+1)) 0).length + 1, ?_⟩, fun c3 => ⟨d1.1.1, c_endsNow (by omega) d1 (fun S2 f2 e2 => oI_i ?_)⟩⟩, fun c2 => ⟨d1.1.1, c_centreNow (by omega) d1 (oI_i (c_bitCount (x := ceA n (rowsL n (S.I (m+1)) 0)) (by omega) rfl cm (oI_i ?_)))⟩⟩, fun c1 => ⟨d1.1.1, l_known (l := 0) (by omega) d1 (oI_i ⟨(pI_B _).b, ?_⟩)⟩⟩
      · have x3 : x = 3 := by omega
        have := f_wants (Q := Q) (t := t.toNat) (d := dd) (by omega) d1 (by omega) (fun q hq => fin h (by unfold A_wants; rw [if_neg g, if_neg (by omega), if_neg c1, if_neg c2, if_neg c3, hq.e]) q1 t1) _ (k := 0) (Nat.zero_add _)
        rw [show (t.toNat : Int) = t by omega] at this
        exact this
      · have q2 := q1.fr f2 (by decide) (by decide) (by decide) (by decide) (by decide)
        have t2 : S2.I m 0 = 0 := by rw [f2.fld (by decide), t1]
        have hle := cntB_le (enB n (rowsL n (S.I (m+1)) 0)) 128
        have hle' : enC n (rowsL n (S.I (m+1)) 0) ≤ 128 := hle
        refine ⟨(by unfold R32; omega), fun c4 => ?_, fun c4 => ?_⟩
        · exact fin h (by unfold A_wants; rw [if_neg g, if_neg (by omega), if_neg c1, if_neg c2, if_pos c3, pI_n (by omega)]) q2 t2
        · exact fin h (by unfold A_wants; rw [if_neg g, if_neg (by omega), if_neg c1, if_neg c2, if_pos c3, pI_y (by omega)]) q2 t2
      · have := pc_le (ceA n (rowsL n (S.I (m+1)) 0))
        refine ⟨(by unfold R32; omega), fun c4 => ?_, fun c4 => ?_⟩
        · exact fin h (by unfold A_wants; rw [if_neg g, if_neg (by omega), if_neg c1, if_pos c2, pI_n (by omega)]) q1 t1
        · exact fin h (by unfold A_wants; rw [if_neg g, if_neg (by omega), if_neg c1, if_pos c2, pI_y (by omega)]) q1 t1
      · exact fin h (by unfold A_wants; rw [if_neg g, if_neg (by omega), if_pos c1]) q1 t1
    · have c' : ¬ (0 ≤ x ∧ x ≤ 3) := by rcases hr with ⟨rfl, -⟩ | ⟨-, hr⟩ <;> omega
      unfold VX11_wants_46
      refine ⟨hL.1, t_if (P := True) (by omega) (by exact hL) (.y trivial) (fun k => absurd trivial k) (fun _ => oI_i ?_)⟩
      simp only [hl, sI_K, sI_N, sI_R, sI_J, Option.some.injEq, exists_eq_left', true_and, and_true, Int.toNat_zero, Int.reduceToNat, Int.reduceLT, Int.reduceLE, Int.cast_ofNat_Int, forall_eq, ge_iff_le, Int.reduceNeg, Int.reduceAdd, Int.reduceSub, Int.reduceMul, Int.reduceEq, r32_0, r32_1, r32_m1, b01_0, b01_1, not_true_eq_false, not_false_eq_true, false_implies, true_implies, implies_true, forall_const]
      exact fin h (by unfold A_wants; rw [if_neg g, if_pos c']) (rq_x hI) rq_t
  refine ⟨⟨hx, (by unfold R32; omega)⟩, fun c => good (by omega), fun c => l_no (n := n) (by omega) hI ht (fun r hr => oI_i ⟨hr.r, fun c2 => good ?_, fun c2 => ?_⟩)⟩
  · rcases hr with ⟨rfl, -⟩ | ⟨-, hr⟩ <;> omega
  · have c' : ¬ (0 ≤ t ∧ t < (n : Int)) := by rcases hr with ⟨-, hr⟩ | ⟨rfl, -⟩ <;> omega
    unfold VX11_wants_24
    refine ⟨hL.1, t_if (P := True) (by omega) (by exact hL) (.y trivial) (fun k => absurd trivial k) (fun _ => oI_i ?_)⟩
    simp only [hl, sI_K, sI_N, sI_R, sI_J, Option.some.injEq, exists_eq_left', true_and, and_true, Int.toNat_zero, Int.reduceToNat, Int.reduceLT, Int.reduceLE, Int.cast_ofNat_Int, forall_eq, ge_iff_le, Int.reduceNeg, Int.reduceAdd, Int.reduceSub, Int.reduceMul, Int.reduceEq, r32_0, r32_1, r32_m1, b01_0, b01_1, not_true_eq_false, not_false_eq_true, false_implies, true_implies, implies_true, forall_const]
    exact fin h (by unfold A_wants; rw [if_pos ⟨c, c'⟩]) (rq_x hI) rq_t
