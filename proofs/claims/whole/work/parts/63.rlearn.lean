noncomputable def A_where (n : Nat) (w : Nat → Int) (t s : Int) : Int × Int := if (0 ≤ t ∧ t < (n : Int)) ∧ (0 ≤ s ∧ s < (sN w : Int)) then (0, ((wkA n (kd w s.toNat) t (rowsL n w 0)).1 : Nat)) else (1, 0)
theorem c_where {d m n : Nat} {S : MS} {Q : Out → MS → Prop} {t s : Int} (hd : 8 ≤ d) (hI : RI S m n) (ht : R32 t) (hs : R32 s) (h : ∀ S', RQ m S S' → S'.I m 0 = (A_where n (S.I (m+1)) t s).1 → Q (.inl (some (vI (A_where n (S.I (m+1)) t s).2))) S') : Mw hX11_where yX11_where d [vA m, vI t, vI s] S Q := by
  have hL := hI.1
  have hg := hI.2.1
  have g1 := hg.2.1
  have e0 : (S.setI m 0 0).I (m+1) = S.I (m+1) := sI_Ia (by omega)
  obtain ⟨dd, rfl⟩ : ∃ e, d = e + 1 := ⟨d - 1, by omega⟩
  refine MX11_where ?_
  have hl := hL
  unfold RLay at hl
  unfold VX11_where_0
  simp only [hl, sI_K, sI_N, sI_R, sI_J, Option.some.injEq, exists_eq_left', true_and, and_true, Int.toNat_zero, Int.reduceToNat, Int.reduceLT, Int.reduceLE, Int.cast_ofNat_Int, forall_eq, ge_iff_le, Int.reduceNeg, Int.reduceAdd, Int.reduceSub, Int.reduceMul, Int.reduceEq, r32_0, r32_1, r32_m1, b01_0, b01_1, not_true_eq_false, not_false_eq_true, false_implies, true_implies, implies_true, forall_const]
  have bad : ¬ ((0 ≤ t ∧ t < (n : Int)) ∧ (0 ≤ s ∧ s < (sN (S.I (m+1)) : Int))) → VX11_where_22 dd Q m t s m (S.setI m 0 0) := by
    intro c
    unfold VX11_where_22 VX11_where_27
    refine ⟨hL.1, t_if (P := True) (by omega) (by exact hL) (.y trivial) (fun k => absurd trivial k) (fun _ => oI_i ?_)⟩
    simp only [hl, sI_K, sI_N, sI_R, sI_J, Option.some.injEq, exists_eq_left', true_and, and_true, Int.toNat_zero, Int.reduceToNat, Int.reduceLT, Int.reduceLE, Int.cast_ofNat_Int, forall_eq, ge_iff_le, Int.reduceNeg, Int.reduceAdd, Int.reduceSub, Int.reduceMul, Int.reduceEq, r32_0, r32_1, r32_m1, b01_0, b01_1, not_true_eq_false, not_false_eq_true, false_implies, true_implies, implies_true, forall_const]
    exact fin h (by unfold A_where; rw [if_neg c]) (rq_x hI) rq_t
  refine l_no (n := n) (by omega) hI ht (fun r hr => oI_i ⟨hr.r, fun c => bad ?_, fun c => ⟨hL.1, l_noS (n := n) (by omega) hI hs (fun r2 hr2 => oI_i ⟨hr2.r, fun c2 => ?_, fun c2 => bad ?_⟩)⟩⟩)
  · rcases hr with ⟨-, hr⟩ | ⟨rfl, -⟩ <;> omega
  · have ct : 0 ≤ t ∧ t < (n : Int) := by rcases hr with ⟨rfl, -⟩ | ⟨-, hr⟩ <;> omega
    have c' : 0 ≤ s ∧ s < (sN (S.I (m+1)) : Int) := by rcases hr2 with ⟨rfl, -⟩ | ⟨-, hr2⟩ <;> omega
    have b := hg.sc (s := s.toNat) (by omega)
    unfold VX11_where_27
    refine ⟨hL.1, t_if (P := False) (by omega) (by exact hL) (.n id) (fun _ => oI_i ?_) (fun k => k.elim)⟩
    simp only [hl, sI_K, sI_N, sI_R, sI_J, Option.some.injEq, exists_eq_left', true_and, and_true, Int.toNat_zero, Int.reduceToNat, Int.reduceLT, Int.reduceLE, Int.cast_ofNat_Int, forall_eq, ge_iff_le, Int.reduceNeg, Int.reduceAdd, Int.reduceSub, Int.reduceMul, Int.reduceEq, r32_0, r32_1, r32_m1, b01_0, b01_1, not_true_eq_false, not_false_eq_true, false_implies, true_implies, implies_true, forall_const]
    refine c_ofScale (i := s.toNat) (q := 0) (by omega) (by exact hL) (by omega) rfl (by omega) (by decide) (oI_i ⟨hL.1, ?_⟩)
    rw [e0]
    refine c_walks (n := n) (kn := kd (S.I (m+1)) s.toNat) (by omega) (hI.s0 0) b.1.1 b.1.2 (by omega) (fun S1 q1 t1 a1 => oV_i ⟨(q1.1.lay (by exact hL)).1, ?_⟩)
    rw [e0] at a1
    rw [a1.1]
    exact fin h (by unfold A_where; rw [if_pos ⟨ct, c'⟩]) ((RQ.s0 hI.2.2).tr q1) (by rw [t1, sI_I, if_pos ⟨rfl, rfl⟩])
  · rcases hr2 with ⟨-, hr2⟩ | ⟨rfl, -⟩ <;> omega
/-! the cheapest -/
noncomputable def chV (n : Nat) (w : Nat → Int) (s : Nat) : Nat × Nat × Bool := wkA n (kd w s) (-1) (rowsL n w 0)
noncomputable def chF (n : Nat) (w : Nat → Int) : Nat → Int × Nat
  | 0 => (-1, 0)
  | s + 1 => if (chV n w s).2.2 = false ∨ (0 ≤ (chF n w s).1 ∧ (chF n w s).2 ≤ prc w s * (chV n w s).1) then chF n w s else ((s : Int), prc w s * (chV n w s).1)
theorem wkA_le {n kn : Nat} {th : Int} {L : List Nat} : (wkA n kn th L).1 ≤ 36 := by
  have := wk_le (n := n) (kn := kn) (th := th) 36 0 L
  unfold wkA
  omega
theorem chF_r {n : Nat} {w : Nat → Int} (hg : GW n w) : ∀ {s : Nat}, s ≤ sN w → -1 ≤ (chF n w s).1 ∧ (chF n w s).1 < (s : Int) ∧ (chF n w s).2 ≤ 3564
  | 0, _ => by unfold chF; decide
  | s + 1, h => by
    have ih := chF_r hg (s := s) (by omega)
    have b := hg.sc (s := s) (by omega)
    have v : (chV n w s).1 ≤ 36 := wkA_le
    have b2 : prc w s * (chV n w s).1 ≤ 99 * 36 := Nat.mul_le_mul b.2.1.2 v
    unfold chF
    split
    · omega
    · simp only
      omega
theorem f_cheapest {d m n : Nat} {w : Nat → Int} {Q : Out → MS → Prop} {bl : Int} (hd : 7 ≤ d) (hb : B01 bl) : ∀ (j : Nat) {S : MS} {s : Nat}, RI S m n → S.I (m+1) = w → s + j = sN w → (∀ S', RQ m S S' → S'.I m 0 = S.I m 0 → Q (.inl (some (vI (if (chF n w (sN w)).1 < 0 then -1 else if bl = 0 then (chF n w (sN w)).1 else ((chF n w (sN w)).2 : Int))))) S') → VX11_cheapest_12 d Q (j + 1) m bl (chF n w s).1 ((chF n w s).2 : Nat) (s : Nat) S := by
  intro j
  induction j with
  | zero =>
    intro S s hI hw hs h
    have hL := hI.1
    have hg := hI.2.1
    rw [hw] at hg
    have g1 := hg.2.1
    have hl := hL
    unfold RLay at hl
    have hr := chF_r hg (s := sN w) (Nat.le_refl _)
    have es : s = sN w := by omega
    subst es
    have := h S (RQ.rf hI.2.2) rfl
    unfold VX11_cheapest_12
    simp only [hl, sI_K, sI_N, sI_R, sI_J, Option.some.injEq, exists_eq_left', true_and, and_true, Int.toNat_zero, Int.reduceToNat, Int.reduceLT, Int.reduceLE, Int.cast_ofNat_Int, forall_eq, ge_iff_le, Int.reduceNeg, Int.reduceAdd, Int.reduceSub, Int.reduceMul, Int.reduceEq, r32_0, r32_1, r32_m1, b01_0, b01_1, not_true_eq_false, not_false_eq_true, false_implies, true_implies, implies_true, forall_const]
    rw [hw, g1.1]
    refine ⟨⟨(by unfold R32; omega), (by unfold R32; omega)⟩, fun _ => ⟨(by unfold R32; omega), fun c => ⟨b01_r hb, fun c2 => ?_, fun c2 => ?_⟩, fun c => ?_⟩, fun c => by omega⟩
    · rw [if_neg (by omega), if_pos c2] at this; exact this
    · rw [if_neg (by omega), if_neg c2] at this; exact this
    · rw [if_pos (by omega)] at this; exact this
  | succ j ih =>
    intro S s hI hw hs h
    have hL := hI.1
    have hg := hI.2.1
    rw [hw] at hg
    have g1 := hg.2.1
    have h3 := hg.1.1
    have hl := hL
    unfold RLay at hl
    have hr := chF_r hg (s := s) (by omega)
    have b := hg.sc (s := s) (by omega)
    unfold VX11_cheapest_12 VX11_cheapest_69 VX11_cheapest_75
    simp only [hl, sI_K, sI_N, sI_R, sI_J, Option.some.injEq, exists_eq_left', true_and, and_true, Int.toNat_zero, Int.reduceToNat, Int.reduceLT, Int.reduceLE, Int.cast_ofNat_Int, forall_eq, ge_iff_le, Int.reduceNeg, Int.reduceAdd, Int.reduceSub, Int.reduceMul, Int.reduceEq, r32_0, r32_1, r32_m1, b01_0, b01_1, not_true_eq_false, not_false_eq_true, false_implies, true_implies, implies_true, forall_const]
    rw [hw, g1.1]
    refine ⟨⟨(by unfold R32; omega), (by unfold R32; omega)⟩, fun _ => by omega, fun c => c_ofScale (i := s) (q := 0) (by omega) hL rfl rfl (by omega) (by decide) (oI_i ⟨hL.1, ?_⟩)⟩
    rw [hw]
    refine c_walks (n := n) (kn := kd w s) (by omega) hI b.1.1 b.1.2 (by omega) (fun S1 q1 t1 a1 => oV_i ?_)
    have hL1 := q1.1.lay hL
    have hw1 : S1.I (m+1) = w := by rw [q1.w, hw]
    rw [hw] at a1
    refine ⟨hL1.1, c_ofScale (i := s) (q := 1) (by omega) hL1 rfl rfl (by omega) (by decide) (oI_i ⟨hL1.1, hL1.1, ?_⟩)⟩
    rw [hw1, show 11 + 3 * s + 1 = 12 + 3 * s by omega, b.2.1.1, a1.1, a1.2.2]
    have v : (chV n w s).1 ≤ 36 := wkA_le
    have b2 : prc w s * (chV n w s).1 ≤ 99 * 36 := Nat.mul_le_mul b.2.1.2 v
    have em : (prc w s : Int) * ((wkA n (kd w s) (-1) (rowsL n w 0)).1 : Nat) = ((prc w s * (chV n w s).1 : Nat) : Int) := by rw [Int.natCast_mul]; rfl
    rw [em]
    have eb : (wkA n (kd w s) (-1) (rowsL n w 0)).2.2 = (chV n w s).2.2 := rfl
    rw [eb]
    have keep : ((chV n w s).2.2 = false ∨ (0 ≤ (chF n w s).1 ∧ (chF n w s).2 ≤ prc w s * (chV n w s).1)) → VX11_cheapest_12 d Q (j + 1) m bl (chF n w s).1 ((chF n w s).2 : Nat) ((s : Int) + 1) S1 := by
      intro k
      have := ih (S := S1) (s := s + 1) (q1.ri hI) hw1 (by omega) (fun S' q t => h S' (q1.tr q) (t.trans t1))
      rw [show chF n w (s + 1) = chF n w s by show (if _ then _ else _) = _; rw [if_pos k]] at this
      exact this
    have tk : ¬ ((chV n w s).2.2 = false ∨ (0 ≤ (chF n w s).1 ∧ (chF n w s).2 ≤ prc w s * (chV n w s).1)) → VX11_cheapest_12 d Q (j + 1) m bl (s : Nat) ((prc w s * (chV n w s).1 : Nat) : Int) ((s : Int) + 1) S1 := by
      intro k
      have := ih (S := S1) (s := s + 1) (q1.ri hI) hw1 (by omega) (fun S' q t => h S' (q1.tr q) (t.trans t1))
      rw [show chF n w (s + 1) = ((s : Int), prc w s * (chV n w s).1) by show (if _ then _ else _) = _; rw [if_neg k]] at this
      exact this
    refine ⟨r32_ite, fun c2 => keep (Or.inl ?_), fun c2 => ⟨(by unfold R32; omega), fun c3 => tk (fun k => ?_), fun c3 => ⟨⟨(by unfold R32; omega), (by unfold R32; omega)⟩, fun c4 => tk (fun k => ?_), fun c4 => keep (Or.inr (by omega))⟩⟩⟩
    · cases hq : (chV n w s).2.2
      · rfl
      · rw [hq] at c2; simp at c2
    · rcases k with k | k
      · rw [k] at c2; simp at c2
      · omega
    · rcases k with k | k
      · rw [k] at c2; simp at c2
      · omega
noncomputable def A_cheapest (n : Nat) (w : Nat → Int) (bl : Int) : Int := if (chF n w (sN w)).1 < 0 then -1 else if bl = 0 then (chF n w (sN w)).1 else ((chF n w (sN w)).2 : Int)
theorem c_cheapest {d m n : Nat} {S : MS} {Q : Out → MS → Prop} {bl : Int} (hd : 8 ≤ d) (hI : RI S m n) (hb : B01 bl) (h : ∀ S', RQ m S S' → S'.I m 0 = 0 → Q (.inl (some (vI (A_cheapest n (S.I (m+1)) bl)))) S') : Mw hX11_cheapest yX11_cheapest d [vA m, vI bl] S Q := by
  have hL := hI.1
  have e0 : (S.setI m 0 0).I (m+1) = S.I (m+1) := sI_Ia (by omega)
  obtain ⟨dd, rfl⟩ : ∃ e, d = e + 1 := ⟨d - 1, by omega⟩
  refine MX11_cheapest ?_
  have hl := hL
  unfold RLay at hl
  unfold VX11_cheapest_0
  simp only [hl, sI_K, sI_N, sI_R, sI_J, Option.some.injEq, exists_eq_left', true_and, and_true, Int.toNat_zero, Int.reduceToNat, Int.reduceLT, Int.reduceLE, Int.cast_ofNat_Int, forall_eq, ge_iff_le, Int.reduceNeg, Int.reduceAdd, Int.reduceSub, Int.reduceMul, Int.reduceEq, r32_0, r32_1, r32_m1, b01_0, b01_1, not_true_eq_false, not_false_eq_true, false_implies, true_implies, implies_true, forall_const]
  exact ⟨_, f_cheapest (n := n) (w := S.I (m+1)) (by omega) hb (sN (S.I (m+1))) (s := 0) (hI.s0 0) e0 (by omega) (fun S' q t => h S' ((RQ.s0 hI.2.2).tr q) (by rw [t, sI_I, if_pos ⟨rfl, rfl⟩]))⟩
/-! learning: the pure search -/
def lrM (g : Nat → Nat → Option (Bool × Nat)) : Nat → Nat → Nat → Option (Bool × Nat)
  | 0, _, st => some (true, st)
  | j + 1, p, st => match g p st with
    | none => none
    | some (true, st') => lrM g j (p + 1) st'
    | some (false, st') => some (false, st')
def lrX (idle : Nat → Bool) (h : Nat → Nat → Option (Bool × Nat)) : List Nat → Nat → Option (Bool × Nat)
  | [], st => some (false, st)
  | x :: X, st => if idle x then lrX idle h X st else if 4000 < st + 1 then none else match h x (st + 1) with
    | none => none
    | some (true, st') => some (true, st')
    | some (false, st') => lrX idle h X st'
def idl (n kn : Nat) (L : List Nat) (x : Nat) : Bool := decide (wst n kn x L = L.length)
noncomputable def lr (n kn : Nat) : Nat → List Nat → Nat → Option (Bool × Nat)
  | 0, L, st => some (decide (pln n kn 0 L = 1), st)
  | k + 1, L, st => if pln n kn (k + 1) L = 2 then lrX (idl n kn L) (fun x st => lrM (fun p st => lr n kn k (prt n kn x (mbN x p) L) st) (pansK kn) 0 st) (cmb n n (pansK kn)) st else some (decide (pln n kn (k + 1) L = 1), st)
theorem pln_0 {n kn : Nat} {L : List Nat} : pln n kn 0 L ≠ 2 := by
  unfold pln
  by_cases c : Dn n L
  · rw [cD_y c]; decide
  · rw [cD_n c, if_pos (Or.inl rfl)]; decide
theorem pln_3 {n kn k : Nat} {L : List Nat} : pln n kn k L ≤ 2 := by
  unfold pln
  by_cases c : Dn n L
  · rw [cD_y c]; decide
  · rw [cD_n c]; split <;> decide
def AL : List Nat := [8, 9, 14, 15, 16]
def BL : List Nat := [25, 26, 30]
/-- what learning leaves of the levels up to lev -/
def LO (m lev : Nat) (S S' : MS) : Prop := (∀ q, q < 5040 * (lev + 1) → S'.I (m+8) q = S.I (m+8) q) ∧ (∀ q, q ≤ lev → S'.I (m+9) q = S.I (m+9) q) ∧ (∀ q, q < lev → S'.I (m+15) q = S.I (m+15) q) ∧ (∀ q, q < lev → S'.I (m+16) q = S.I (m+16) q)
theorem LO.rf {m l : Nat} {S : MS} : LO m l S S := ⟨fun _ _ => rfl, fun _ _ => rfl, fun _ _ => rfl, fun _ _ => rfl⟩
theorem LO.tr {m l : Nat} {S S1 S2 : MS} (h : LO m l S S1) (k : LO m l S1 S2) : LO m l S S2 := ⟨fun q hq => (k.1 q hq).trans (h.1 q hq), fun q hq => (k.2.1 q hq).trans (h.2.1 q hq), fun q hq => (k.2.2.1 q hq).trans (h.2.2.1 q hq), fun q hq => (k.2.2.2 q hq).trans (h.2.2.2 q hq)⟩
theorem LO.dn {m l : Nat} {S S1 : MS} (h : LO m (l+1) S S1) : LO m l S S1 := ⟨fun q hq => h.1 q (by omega), fun q hq => h.2.1 q (by omega), fun q hq => h.2.2.1 q (by omega), fun q hq => h.2.2.2 q (by omega)⟩
theorem LO.lv {m n l l' : Nat} {L : List Nat} {S S1 : MS} (h : LO m l S S1) (hl : l' ≤ l) (k : LV S m n l' L) : LV S1 m n l' L := by
  obtain ⟨⟨k1, k2⟩, k3, k4, k5⟩ := k
  refine ⟨⟨by rw [h.2.1 l' hl]; exact k1, fun q hq => ?_⟩, k3, k4, k5⟩
  rw [h.1 _ ?_]
  · exact k2 q hq
  · have : 5040 * (l' + 1) ≤ 5040 * (l + 1) := Nat.mul_le_mul_left _ (by omega)
    omega
theorem LO.fr {m l : Nat} {A B : List Nat} {S S1 : MS} (f : Fr m A B S S1) (h8 : 8 ∉ A) (h9 : 9 ∉ A) (h15 : 15 ∉ A) (h16 : 16 ∉ A) : LO m l S S1 :=
  ⟨fun q _ => by rw [f.arr (by decide) h8], fun q _ => by rw [f.arr (by decide) h9], fun q _ => by rw [f.arr (by decide) h15], fun q _ => by rw [f.arr (by decide) h16]⟩
theorem LO.s15 {m l q : Nat} {v : Int} {S : MS} (h : l ≤ q) : LO m l S (S.setI (m+15) q v) := by
  refine ⟨fun q _ => by rw [sI_Ia (by omega)], fun q _ => by rw [sI_Ia (by omega)], fun p hp => ?_, fun q _ => by rw [sI_Ia (by omega)]⟩
  rw [sI_I, if_neg (by omega)]
theorem LO.s16 {m l q : Nat} {v : Int} {S : MS} (h : l ≤ q) : LO m l S (S.setI (m+16) q v) := by
  refine ⟨fun q _ => by rw [sI_Ia (by omega)], fun q _ => by rw [sI_Ia (by omega)], fun q _ => by rw [sI_Ia (by omega)], fun p hp => ?_⟩
  rw [sI_I, if_neg (by omega)]
theorem Mw.exJ {ι : Type} {hd : Cond} {y : MethodName} {d : Nat} {av : List Value} {S : MS} {P : ι → Int → MS → Prop} (h : Mw hd y d av S (oI (fun r S' => ∃ q, P q r S'))) : ∃ q, Mw hd y d av S (oI (P q)) := by
  obtain ⟨o, S', h1, h2⟩ := h
  rcases h1 with ⟨v, e, r, e2, q, hq⟩ | ⟨E, -, k⟩
  · exact ⟨q, o, S', Or.inl ⟨v, e, r, e2, hq⟩, h2⟩
  · exact k.elim
theorem l_stepY {d m kn most pans lev p : Nat} {Q : Out → MS → Prop} {S : MS} (hL : RLay S m) (hlev : lev < 9) (hp : p < 8) (hpn : pans < 8) (h16 : S.I (m+16) lev = (p : Nat)) (h1 : p + 1 = pans → ∃ q, VX11_learns_20 d Q q m (kn : Nat) (most : Nat) (pans : Nat) (lev : Nat) 1 (S.setI (m+16) lev ((p + 1 : Nat) : Int))) (h2 : p + 1 ≠ pans → ∃ q, VX11_learns_212 d (VX11_learns_20 d Q q) Q m (kn : Nat) (most : Nat) (pans : Nat) (lev : Nat) (S.setI (m+16) lev ((p + 1 : Nat) : Int))) : ∃ q, VX11_learns_20 d Q q m (kn : Nat) (most : Nat) (pans : Nat) ((lev : Int) + 1) 1 S := by
  have hl := hL
  unfold RLay at hl
  have el : (lev : Int) + 1 + -1 = (lev : Int) := by omega
  have g : (S.setI (m+16) lev ((p + 1 : Nat) : Int)).I (m+16) lev = ((p + 1 : Nat) : Int) := by rw [sI_I, if_pos ⟨rfl, rfl⟩]
  have go : ∀ q, (p + 1 = pans → VX11_learns_20 d Q q m (kn : Nat) (most : Nat) (pans : Nat) (lev : Nat) 1 (S.setI (m+16) lev ((p + 1 : Nat) : Int))) → (p + 1 ≠ pans → VX11_learns_212 d (VX11_learns_20 d Q q) Q m (kn : Nat) (most : Nat) (pans : Nat) (lev : Nat) (S.setI (m+16) lev ((p + 1 : Nat) : Int))) → VX11_learns_20 d Q (q + 1) m (kn : Nat) (most : Nat) (pans : Nat) ((lev : Int) + 1) 1 S := by
    intro q a1 a2
    unfold VX11_learns_20
    refine ⟨⟨r32_1, (by unfold R32; omega)⟩, fun c => by omega, fun _ => ⟨(by unfold R32; omega), fun c => by omega, fun _ => ?_⟩⟩
    unfold VX11_learns_31 VX11_learns_65 VX11_learns_77 VX11_learns_98 VX11_learns_107
    rw [el]
    simp only [hl, sI_K, sI_N, sI_R, sI_J, Option.some.injEq, exists_eq_left', true_and, and_true, Int.toNat_zero, Int.reduceToNat, Int.reduceLT, Int.reduceLE, Int.cast_ofNat_Int, forall_eq, ge_iff_le, Int.reduceNeg, Int.reduceAdd, Int.reduceSub, Int.reduceMul, Int.reduceEq, r32_0, r32_1, r32_m1, b01_0, b01_1, not_true_eq_false, not_false_eq_true, false_implies, true_implies, implies_true, forall_const]
    rw [Int.toNat_natCast, h16, show (p : Int) + 1 = ((p + 1 : Nat) : Int) from rfl, g]
    exact ⟨(by unfold R32; omega), by omega, by omega, by omega, ⟨(by unfold R32; omega), (by unfold R32; omega)⟩, fun c => a2 (by omega), fun c => a1 (by omega)⟩
  by_cases c : p + 1 = pans
  · obtain ⟨q, hq⟩ := h1 c
    exact ⟨q + 1, go q (fun _ => hq) (fun k => absurd c k)⟩
  · obtain ⟨q, hq⟩ := h2 c
    exact ⟨q + 1, go q (fun k => absurd k c) (fun _ => hq)⟩
theorem l_stepN {d m kn most pans lev i : Nat} {Q : Out → MS → Prop} {S : MS} (hL : RLay S m) (hlev : lev < 9) (h15 : S.I (m+15) lev = (i : Nat)) (h : ∃ q : Nat × Nat, VX11_learns_123 d (VX11_learns_20 d Q q.1) Q q.2 m (kn : Nat) (most : Nat) (pans : Nat) (lev : Nat) ((S.setI (m+16) lev (pans : Nat)).setI (m+15) lev ((i : Int) + 1))) : ∃ q, VX11_learns_20 d Q q m (kn : Nat) (most : Nat) (pans : Nat) ((lev : Int) + 1) 0 S := by
  obtain ⟨⟨q, q2⟩, hq⟩ := h
  refine ⟨q + 1, ?_⟩
  have hl := hL
  unfold RLay at hl
  have el : (lev : Int) + 1 + -1 = (lev : Int) := by omega
  unfold VX11_learns_20
  refine ⟨⟨r32_0, (by unfold R32; omega)⟩, fun c => by omega, fun _ => ⟨(by unfold R32; omega), fun c => by omega, fun _ => ?_⟩⟩
  unfold VX11_learns_31 VX11_learns_65 VX11_learns_77 VX11_learns_98 VX11_learns_107
  rw [el]
  simp only [hl, sI_K, sI_N, sI_R, sI_J, Option.some.injEq, exists_eq_left', true_and, and_true, Int.toNat_zero, Int.reduceToNat, Int.reduceLT, Int.reduceLE, Int.cast_ofNat_Int, forall_eq, ge_iff_le, Int.reduceNeg, Int.reduceAdd, Int.reduceSub, Int.reduceMul, Int.reduceEq, r32_0, r32_1, r32_m1, b01_0, b01_1, not_true_eq_false, not_false_eq_true, false_implies, true_implies, implies_true, forall_const]
  rw [Int.toNat_natCast, sI_Ia (by omega), h15]
  exact ⟨(by unfold R32; omega), by omega, by omega, by omega, q2, hq⟩
theorem l_step2 {d m kn most pans lev : Nat} {Q : Out → MS → Prop} {S : MS} (hL : RLay S m) (hlev : lev < 9) (h15 : S.I (m+15) lev = -1) (h : ∃ q : Nat × Nat, VX11_learns_123 d (VX11_learns_20 d Q q.1) Q q.2 m (kn : Nat) (most : Nat) (pans : Nat) (lev : Nat) (S.setI (m+15) lev 0)) : ∃ q, VX11_learns_20 d Q q m (kn : Nat) (most : Nat) (pans : Nat) (lev : Nat) 2 S := by
  obtain ⟨⟨q, q2⟩, hq⟩ := h
  refine ⟨q + 1, ?_⟩
  have hl := hL
  unfold RLay at hl
  unfold VX11_learns_20
  refine ⟨⟨(by unfold R32; omega), (by unfold R32; omega)⟩, fun _ => ?_, fun c => absurd rfl c⟩
  unfold VX11_learns_31 VX11_learns_107
  simp only [hl, sI_K, sI_N, sI_R, sI_J, Option.some.injEq, exists_eq_left', true_and, and_true, Int.toNat_zero, Int.reduceToNat, Int.reduceLT, Int.reduceLE, Int.cast_ofNat_Int, forall_eq, ge_iff_le, Int.reduceNeg, Int.reduceAdd, Int.reduceSub, Int.reduceMul, Int.reduceEq, r32_0, r32_1, r32_m1, b01_0, b01_1, not_true_eq_false, not_false_eq_true, false_implies, true_implies, implies_true, forall_const]
  rw [Int.toNat_natCast, h15]
  exact ⟨(by unfold R32; omega), by omega, by omega, q2, hq⟩
theorem f_learn {d m n kn most : Nat} {w : Nat → Int} {Q : Out → MS → Prop} (hd : 4 ≤ d) (hg : GW n w) (hk : kn < 3) (hmost : most ≤ 8) : ∀ (k : Nat) {lev : Nat} {L : List Nat}, lev + k = most → ∀ {S : MS} {st : Nat}, RLay S m → S.I (m+1) = w → Tb S m n → SL S m (cmb n n (pansK kn)) → LV S m n lev L → S.I m 30 = (st : Nat) → st ≤ 4000 → (pln n kn k L = 2 → S.I (m+15) lev = -1 ∧ S.I (m+16) lev = (pansK kn : Nat)) →
    (∀ S' b st', lr n kn k L st = some (b, st') → Fr m AL BL S S' → LO m lev S S' → S'.I m 30 = (st' : Nat) → st' ≤ 4000 → ∃ q, VX11_learns_20 d Q q m (kn : Nat) (most : Nat) (pansK kn : Nat) (lev : Nat) (if b then 1 else 0) S') →
    (lr n kn k L st = none → ∀ S', Fr m AL BL S S' → Q (.inl (some (vI (-2)))) S') →
    ∃ q, VX11_learns_20 d Q q m (kn : Nat) (most : Nat) (pansK kn : Nat) (lev : Nat) (pln n kn k L : Nat) S := by
  have h3 := hg.1.1
  have h7 := hg.1.2.1
  have hpk := pansK_le kn
  have p7 := p2_7 h7
  have hc := cmb_k (kn := kn) h7
  intro k
  induction k with
  | zero =>
    intro lev L hlk S st hL hw hT hSl hV h30 hst hop h hn
    have p0 := pln_0 (n := n) (kn := kn) (L := L)
    have p3 := pln_3 (n := n) (kn := kn) (k := 0) (L := L)
    obtain ⟨q, hq⟩ := h S (decide (pln n kn 0 L = 1)) st rfl Fr.rf LO.rf h30 hst
    refine ⟨q, ?_⟩
    have e : (if decide (pln n kn 0 L = 1) = true then 1 else 0 : Int) = (pln n kn 0 L : Nat) := by
      have : pln n kn 0 L = 0 ∨ pln n kn 0 L = 1 := by omega
      rcases this with e | e <;> simp [e]
    rw [e] at hq
    exact hq
  | succ k ih =>
    intro lev L hlk S st hL hw hT hSl hV h30 hst hop h hn
    have p3 := pln_3 (n := n) (kn := kn) (k := k + 1) (L := L)
    by_cases c2 : pln n kn (k + 1) L = 2
    · have hlr : lr n kn (k + 1) L st = lrX (idl n kn L) (fun x st => lrM (fun p st => lr n kn k (prt n kn x (mbN x p) L) st) (pansK kn) 0 st) (cmb n n (pansK kn)) st := by
        show (if _ then _ else _) = _
        rw [if_pos c2]
      generalize hX : cmb n n (pansK kn) = X at hSl hc hlr
      -- from the sets X' on, the first of which is at i
      have sets : ∀ (X' : List Nat) {i : Nat} {S1 : MS} {st1 : Nat}, X.drop i = X' → i ≤ X.length → Fr m AL BL S S1 → LO m lev S S1 → S1.I m 30 = (st1 : Nat) → st1 ≤ 4000 → S1.I (m+15) lev = (i : Nat) → lrX (idl n kn L) (fun x st => lrM (fun p st => lr n kn k (prt n kn x (mbN x p) L) st) (pansK kn) 0 st) X' st1 = lr n kn (k + 1) L st → ∃ (q : Nat × Nat), VX11_learns_123 d (VX11_learns_20 d Q q.1) Q q.2 m (kn : Nat) (most : Nat) (pansK kn : Nat) (lev : Nat) S1 := by
        intro X'
        induction X' with
        | nil =>
          intro i S1 st1 hd1 hi f1 o1 g30 hst1 g15 hl1
          have hL1 := f1.lay hL
          have hS1 := f1.sl (by decide) (by decide) hSl
          have ei : i = X.length := by
            have := congrArg List.length hd1
            rw [List.length_drop, List.length_nil] at this
            omega
          obtain ⟨q, hq⟩ := h S1 false st1 (by rw [← hl1]; rfl) f1 o1 g30 hst1
          refine ⟨(q, 1), ?_⟩
          have hl := hL1
          unfold RLay at hl
          unfold VX11_learns_123 VX11_learns_161
          simp only [hl, sI_K, sI_N, sI_R, sI_J, Option.some.injEq, exists_eq_left', true_and, and_true, Int.toNat_zero, Int.reduceToNat, Int.reduceLT, Int.reduceLE, Int.cast_ofNat_Int, forall_eq, ge_iff_le, Int.reduceNeg, Int.reduceAdd, Int.reduceSub, Int.reduceMul, Int.reduceEq, r32_0, r32_1, r32_m1, b01_0, b01_1, not_true_eq_false, not_false_eq_true, false_implies, true_implies, implies_true, forall_const]
          rw [Int.toNat_natCast, g15, hS1.1]
          exact ⟨by omega, ⟨(by unfold R32; omega), (by unfold R32; omega)⟩, fun _ => ⟨by omega, ⟨(by unfold R32; omega), (by unfold R32; omega)⟩, fun c => by omega, fun _ => hq⟩, fun c => by omega⟩
        | cons x X' ihX =>
          intro i S1 st1 hd1 hi f1 o1 g30 hst1 g15 hl1
          have hL1 := f1.lay hL
          have hw1 : S1.I (m+1) = w := by rw [f1.arr (by decide) (by decide), hw]
          have hT1 := f1.tb (by decide) (by decide) (by decide) hT
          have hS1 := f1.sl (by decide) (by decide) hSl
          have hV1 := o1.lv (Nat.le_refl _) hV
          have hil : i < X.length := by
            rcases Nat.lt_or_ge i X.length with c | c
            · exact c
            · rw [List.drop_of_length_le c] at hd1; exact absurd hd1 (by simp)
          have exi : X.getD i 0 = x := by
            have := List.drop_eq_getElem_cons hil
            rw [hd1] at this
            rw [List.getD_eq_getElem?_getD, List.getElem?_eq_getElem hil]
            exact (List.cons.inj this).1.symm
          have hd2 : X.drop (i + 1) = X' := by
            have := List.drop_eq_getElem_cons hil
            rw [hd1] at this
            exact (List.cons.inj this).2.symm
          have hx := hc.2 x (by rw [← exi]; exact getD_mem hil)
          have hx128 : x < 128 := by omega
          -- behind this set: the next ones
          have nxt1 : ∀ (S2 : MS) (st2 : Nat), Fr m AL BL S S2 → LO m lev S S2 → S2.I m 30 = (st2 : Nat) → st2 ≤ 4000 → S2.I (m+15) lev = (i : Nat) → lrX (idl n kn L) (fun x st => lrM (fun p st => lr n kn k (prt n kn x (mbN x p) L) st) (pansK kn) 0 st) X' st2 = lr n kn (k + 1) L st → ∃ (q : Nat × Nat), VX11_learns_123 d (VX11_learns_20 d Q q.1) Q q.2 m (kn : Nat) (most : Nat) (pansK kn : Nat) (lev : Nat) (S2.setI (m+15) lev ((i : Int) + 1)) := by
            intro S2 st2 f2 o2 k30 kst k15 kl
            exact ihX (i := i + 1) hd2 (by omega) (f2.tr (Fr.sA (by decide) (by decide))) (o2.tr (LO.s15 (Nat.le_refl _))) (by rw [sI_Ia (by omega)]; exact k30) kst (by rw [sI_I, if_pos ⟨rfl, rfl⟩]; rfl) kl
          -- one member
          have run : ∀ {p : Nat} {S2 : MS} {st2 : Nat}, p < pansK kn → Fr m AL BL S S2 → LO m lev S S2 → S2.I m 30 = (st2 : Nat) → st2 ≤ 4000 → S2.I (m+15) lev = (i : Nat) → S2.I (m+16) lev = (p : Nat) →
              (∀ S3 b st3, lr n kn k (prt n kn x (mbN x p) L) st2 = some (b, st3) → Fr m AL BL S S3 → LO m lev S S3 → S3.I m 30 = (st3 : Nat) → st3 ≤ 4000 → S3.I (m+15) lev = (i : Nat) → S3.I (m+16) lev = (p : Nat) → ∃ q, VX11_learns_20 d Q q m (kn : Nat) (most : Nat) (pansK kn : Nat) ((lev : Int) + 1) (if b then 1 else 0) S3) →
              (lr n kn k (prt n kn x (mbN x p) L) st2 = none → ∀ S3, Fr m AL BL S S3 → Q (.inl (some (vI (-2)))) S3) → ∃ q, VX11_learns_212 d (VX11_learns_20 d Q q) Q m (kn : Nat) (most : Nat) (pansK kn : Nat) (lev : Nat) S2 := by
            intro p S2 st2 hp f2 o2 k30 kst k15 k16 after spent
            have hL2 := f2.lay hL
            have hw2 : S2.I (m+1) = w := by rw [f2.arr (by decide) (by decide), hw]
            have hT2 := f2.tb (by decide) (by decide) (by decide) hT
            have hS2 := f2.sl (by decide) (by decide) hSl
            have hV2 := o2.lv (Nat.le_refl _) hV
            have mb := (mb_ok x hx128 p (by omega)).1 (by omega)
            have key : ∃ q, Mw hX11_memberOf yX11_memberOf d [vI (x : Nat), vI (p : Nat)] S2 (oI (fun r6 S6 => S6.K m = 11 ∧ Mw hX11_parts yX11_parts d [vA m, vI (lev : Nat), vI (kn : Nat), vI (x : Nat), vI r6] S6 (oV (fun S7 => S7.K m = 11 ∧ Mw hX11_plainly yX11_plainly d [vA m, vI ((lev : Int) + 1), vI ((most : Int) - ((lev : Int) + 1)), vI (pansK kn : Nat)] S7 (oI (fun r8 S8 => VX11_learns_20 d Q q m (kn : Nat) (most : Nat) (pansK kn : Nat) ((lev : Int) + 1) r8 S8)))))) := by
              refine Mw.exJ (c_memberOf (x := x) (k := p) (by omega) rfl rfl hx128 (by omega) (oI_i ?_))
              rw [mb.1]
              have X7 : ∀ S7, Fr m [8, 9] [] S2 S7 → KO m (lev+1) S2 S7 → LV S7 m n (lev+1) (prt n kn x (mbN x p) L) → ∃ q, S7.K m = 11 ∧ Mw hX11_plainly yX11_plainly d [vA m, vI ((lev : Int) + 1), vI ((most : Int) - ((lev : Int) + 1)), vI (pansK kn : Nat)] S7 (oI (fun r8 S8 => VX11_learns_20 d Q q m (kn : Nat) (most : Nat) (pansK kn : Nat) ((lev : Int) + 1) r8 S8)) := by
                intro S7 f7 o7 hV7
                have hL7 := f7.lay hL2
                have f27 : Fr m AL BL S S7 := f2.tr (f7.wk (by decide) (by decide))
                have o27 : LO m lev S S7 := by
                  refine o2.tr ⟨fun q hq => o7.1 q (by omega), fun q hq => o7.2 q (by omega), fun q hq => by rw [f7.arr (by decide) (by decide)], fun q hq => by rw [f7.arr (by decide) (by decide)]⟩
                have k30' : S7.I m 30 = (st2 : Nat) := by rw [f7.fld (by decide)]; exact k30
                have k15' : S7.I (m+15) lev = (i : Nat) := by rw [f7.arr (by decide) (by decide)]; exact k15
                have k16' : S7.I (m+16) lev = (p : Nat) := by rw [f7.arr (by decide) (by decide)]; exact k16
                have fin8 : ∀ S8, Fr m AL BL S7 S8 → LO m (lev+1) S7 S8 → S8.I m 30 = (st2 : Nat) → (pln n kn k (prt n kn x (mbN x p) L) = 2 → S8.I (m+15) (lev+1) = -1 ∧ S8.I (m+16) (lev+1) = (pansK kn : Nat)) → ∃ q, VX11_learns_20 d Q q m (kn : Nat) (most : Nat) (pansK kn : Nat) ((lev : Int) + 1) (pln n kn k (prt n kn x (mbN x p) L) : Nat) S8 := by
                  intro S8 f8 o8 e30 e2
                  refine ih (lev := lev + 1) (L := prt n kn x (mbN x p) L) (by omega) (f8.lay hL7) (by rw [f8.arr (by decide) (by decide), f27.arr (by decide) (by decide), hw]) (f8.tb (by decide) (by decide) (by decide) (f27.tb (by decide) (by decide) (by decide) hT)) (by rw [hX]; exact f8.sl (by decide) (by decide) (f27.sl (by decide) (by decide) hSl)) (o8.lv (Nat.le_refl _) hV7) e30 kst e2 (fun S' b st' el f o g30 gst => ?_) (fun el S' f => spent el S' (f27.tr (f8.tr f)))
                  have o78 := o8.tr o
                  exact after S' b st' el (f27.tr (f8.tr f)) (o27.tr o78.dn) g30 gst (by rw [o78.2.2.1 lev (by omega)]; exact k15') (by rw [o78.2.2.2 lev (by omega)]; exact k16')
                have X8 : pln n kn k (prt n kn x (mbN x p) L) = 2 → ∃ q, VX11_learns_20 d Q q m (kn : Nat) (most : Nat) (pansK kn : Nat) ((lev : Int) + 1) 2 ((S7.setI (m+15) (lev+1) (-1)).setI (m+16) (lev+1) (pansK kn : Int)) := by
                  intro c
                  have := fin8 ((S7.setI (m+15) (lev+1) (-1)).setI (m+16) (lev+1) (pansK kn : Int)) ((Fr.sA (by decide) (by decide)).tr (Fr.sA (by decide) (by decide))) ((LO.s15 (Nat.le_refl _)).tr (LO.s16 (Nat.le_refl _))) (by rw [sI_Ia (by omega), sI_Ia (by omega)]; exact k30') (fun _ => ⟨by rw [sI_Ia (by omega), sI_I, if_pos ⟨rfl, rfl⟩], by rw [sI_I, if_pos ⟨rfl, rfl⟩]⟩)
                  rw [c] at this
                  exact this
                obtain ⟨q, hq⟩ := Mw.exJ (P := fun q r8 S8 => VX11_learns_20 d Q q m (kn : Nat) (most : Nat) (pansK kn : Nat) ((lev : Int) + 1) r8 S8) (c_plainly (d := d) (S := S7) (n := n) (l := lev + 1) (kn := kn) (k := k) (L := prt n kn x (mbN x p) L) (x1 := (lev : Int) + 1) (x2 := (most : Int) - ((lev : Int) + 1)) (x3 := (pansK kn : Nat)) (by omega) hL7 h3 h7 (f27.tb (by decide) (by decide) (by decide) hT) hV7 rfl (by omega) rfl (by omega) (by omega) (fun c => oI_i (fin8 S7 Fr.rf LO.rf k30' (fun k => absurd k c))) (fun c => oI_i (X8 c)))
                exact ⟨q, hL7.1, hq⟩
              obtain ⟨q, hq⟩ := Mw.ex (P := fun q S7 => S7.K m = 11 ∧ Mw hX11_plainly yX11_plainly d [vA m, vI ((lev : Int) + 1), vI ((most : Int) - ((lev : Int) + 1)), vI (pansK kn : Nat)] S7 (oI (fun r8 S8 => VX11_learns_20 d Q q m (kn : Nat) (most : Nat) (pansK kn : Nat) ((lev : Int) + 1) r8 S8))) (c_parts (d := d) (n := n) (l := lev) (kn := kn) (x := x) (t := mbN x p) (x1 := (lev : Nat)) (x2 := (kn : Nat)) (x3 := (x : Nat)) (x4 := (mbN x p : Nat)) (by omega) hL2 h3 h7 hT2 hV2 rfl rfl rfl rfl hk hx.1 hx.2 (by omega) mb.2.1 (fun S7 f7 o7 hV7 => oV_i (X7 S7 f7 o7 hV7)))
              exact ⟨q, hL2.1, hq⟩
            obtain ⟨q, hq⟩ := key
            refine ⟨q, ?_⟩
            have hl := hL2
            unfold RLay at hl
            unfold VX11_learns_212
            simp only [hl, sI_K, sI_N, sI_R, sI_J, Option.some.injEq, exists_eq_left', true_and, and_true, Int.toNat_zero, Int.reduceToNat, Int.reduceLT, Int.reduceLE, Int.cast_ofNat_Int, forall_eq, ge_iff_le, Int.reduceNeg, Int.reduceAdd, Int.reduceSub, Int.reduceMul, Int.reduceEq, r32_0, r32_1, r32_m1, b01_0, b01_1, not_true_eq_false, not_false_eq_true, false_implies, true_implies, implies_true, forall_const]
            rw [Int.toNat_natCast, k15, k16, Int.toNat_natCast, hS2.2 i hil, exi]
            refine ⟨by omega, by omega, by omega, by omega, by omega, ?_⟩
            exact hq
          -- members of this set, from the p-th on
          have mem : ∀ (j : Nat) {p : Nat} {S2 : MS} {st2 : Nat}, p + (j + 1) = pansK kn → Fr m AL BL S S2 → LO m lev S S2 → S2.I m 30 = (st2 : Nat) → st2 ≤ 4000 → S2.I (m+15) lev = (i : Nat) → S2.I (m+16) lev = (p : Nat) → (match lrM (fun p st => lr n kn k (prt n kn x (mbN x p) L) st) (j + 1) p st2 with | none => none | some (true, st') => some (true, st') | some (false, st') => lrX (idl n kn L) (fun x st => lrM (fun p st => lr n kn k (prt n kn x (mbN x p) L) st) (pansK kn) 0 st) X' st') = lr n kn (k + 1) L st → ∃ q, VX11_learns_212 d (VX11_learns_20 d Q q) Q m (kn : Nat) (most : Nat) (pansK kn : Nat) (lev : Nat) S2 := by
            intro j
            induction j with
            | zero =>
              intro p S2 st2 hp f2 o2 k30 kst k15 k16 hr
              refine run (by omega) f2 o2 k30 kst k15 k16 (fun S3 b st3 el f3 o3 e30 est e15 e16 => ?_) (fun el S3 f3 => hn ?_ S3 f3)
              · cases b with
                | true =>
                  refine l_stepY (p := p) (f3.lay hL) (by omega) (by omega) (by omega) e16 (fun _ => ?_) (fun c => absurd (by omega) c)
                  have := h (S3.setI (m+16) lev ((p + 1 : Nat) : Int)) true st3 (by rw [← hr]; simp only [lrM, el]) (f3.tr (Fr.sA (by decide) (by decide))) (o3.tr (LO.s16 (Nat.le_refl _))) (by rw [sI_Ia (by omega)]; exact e30) est
                  exact this
                | false =>
                  refine l_stepN (i := i) (f3.lay hL) (by omega) e15 ?_
                  exact nxt1 _ st3 (f3.tr (Fr.sA (by decide) (by decide))) (o3.tr (LO.s16 (Nat.le_refl _))) (by rw [sI_Ia (by omega)]; exact e30) est (by rw [sI_Ia (by omega)]; exact e15) (by rw [← hr]; simp only [lrM, el])
              · rw [← hr]; simp only [lrM, el]
            | succ j ihj =>
              intro p S2 st2 hp f2 o2 k30 kst k15 k16 hr
              refine run (by omega) f2 o2 k30 kst k15 k16 (fun S3 b st3 el f3 o3 e30 est e15 e16 => ?_) (fun el S3 f3 => hn ?_ S3 f3)
              · have em : lrM (fun p st => lr n kn k (prt n kn x (mbN x p) L) st) (j + 1 + 1) p st2 = if b then lrM (fun p st => lr n kn k (prt n kn x (mbN x p) L) st) (j + 1) (p + 1) st3 else some (false, st3) := by
                  rw [lrM]
                  simp only [el]
                  cases b <;> rfl
                cases b with
                | true =>
                  refine l_stepY (p := p) (f3.lay hL) (by omega) (by omega) (by omega) e16 (fun c => by omega) (fun _ => ?_)
                  refine ihj (p := p + 1) (by omega) (f3.tr (Fr.sA (by decide) (by decide))) (o3.tr (LO.s16 (Nat.le_refl _))) (by rw [sI_Ia (by omega)]; exact e30) est (by rw [sI_Ia (by omega)]; exact e15) (by rw [sI_I, if_pos ⟨rfl, rfl⟩]) ?_
                  rw [em] at hr
                  exact hr
                | false =>
                  refine l_stepN (i := i) (f3.lay hL) (by omega) e15 ?_
                  refine nxt1 _ st3 (f3.tr (Fr.sA (by decide) (by decide))) (o3.tr (LO.s16 (Nat.le_refl _))) (by rw [sI_Ia (by omega)]; exact e30) est (by rw [sI_Ia (by omega)]; exact e15) ?_
                  rw [em] at hr
                  exact hr
              · rw [← hr, lrM]; simp only [el]
          -- the set itself: idle, or laid
          by_cases hid : idl n kn L x = true
          · have hidw : wst n kn x L = L.length := by simpa [idl] using hid
            have key : ∃ q : Nat × Nat, Mw hX11_isIdle yX11_isIdle d [vA m, vI (lev : Nat), vI (kn : Nat)] S1 (oI (fun r2 S2 => r2 = 1 ∧ RLay S2 m ∧ S2.I (m+15) lev = (i : Nat) ∧ VX11_learns_123 d (VX11_learns_20 d Q q.1) Q q.2 m (kn : Nat) (most : Nat) (pansK kn : Nat) (lev : Nat) (S2.setI (m+15) lev ((i : Int) + 1)))) := by
              refine Mw.exJ (c_isIdle (n := n) (l := lev) (kn := kn) (i := i) (X := X) (L := L) hd hL1 h3 h7 hT1 hV1 hX.symm hS1 rfl rfl hk (by omega) g15 hil (fun S2 q f2 hq => oI_i ?_))
              rw [exi] at hq
              have q1 : q = 1 := by rcases hq with ⟨rfl, -⟩ | ⟨-, hq⟩; rfl; exact absurd hidw hq
              have e15 : S2.I (m+15) lev = (i : Nat) := by rw [f2.arr (by decide) (by decide)]; exact g15
              obtain ⟨qq, hqq⟩ := nxt1 S2 st1 (f1.tr (f2.wk (by decide) (by decide))) (o1.tr (LO.fr f2 (by decide) (by decide) (by decide) (by decide))) (by rw [f2.fld (by decide)]; exact g30) hst1 e15 (by rw [← hl1, lrX, if_pos hid])
              exact ⟨qq, q1, f2.lay hL1, e15, hqq⟩
            obtain ⟨⟨q, q2⟩, hq⟩ := key
            refine ⟨(q, q2 + 1), ?_⟩
            have hl := hL1
            unfold RLay at hl
            unfold VX11_learns_123
            simp only [hl, sI_K, sI_N, sI_R, sI_J, Option.some.injEq, exists_eq_left', true_and, and_true, Int.toNat_zero, Int.reduceToNat, Int.reduceLT, Int.reduceLE, Int.cast_ofNat_Int, forall_eq, ge_iff_le, Int.reduceNeg, Int.reduceAdd, Int.reduceSub, Int.reduceMul, Int.reduceEq, r32_0, r32_1, r32_m1, b01_0, b01_1, not_true_eq_false, not_false_eq_true, false_implies, true_implies, implies_true, forall_const]
            rw [Int.toNat_natCast, g15, hS1.1]
            refine ⟨by omega, ⟨(by unfold R32; omega), (by unfold R32; omega)⟩, fun c => by omega, fun _ => hq.mono ?_⟩
            rintro o S2 (⟨v, rfl, r, rfl, rfl, hL2, e15, hv⟩ | ⟨E, -, k⟩)
            · refine oI_i ⟨r32_1, fun c => by omega, fun _ => ?_⟩
              have hl := hL2
              unfold RLay at hl
              simp only [hl, sI_K, sI_N, sI_R, sI_J, Option.some.injEq, exists_eq_left', true_and, and_true, Int.toNat_zero, Int.reduceToNat, Int.reduceLT, Int.reduceLE, Int.cast_ofNat_Int, forall_eq, ge_iff_le, Int.reduceNeg, Int.reduceAdd, Int.reduceSub, Int.reduceMul, Int.reduceEq, r32_0, r32_1, r32_m1, b01_0, b01_1, not_true_eq_false, not_false_eq_true, false_implies, true_implies, implies_true, forall_const]
              rw [e15]
              exact ⟨by omega, by omega, hv⟩
            · exact k.elim
          · have hid' : idl n kn L x = false := by simpa using hid
            have hidw : wst n kn x L ≠ L.length := by simpa [idl] using hid'
            have e0 : lrX (idl n kn L) (fun x st => lrM (fun p st => lr n kn k (prt n kn x (mbN x p) L) st) (pansK kn) 0 st) (x :: X') st1 = if 4000 < st1 + 1 then none else match lrM (fun p st => lr n kn k (prt n kn x (mbN x p) L) st) (pansK kn) 0 (st1 + 1) with | none => none | some (true, st') => some (true, st') | some (false, st') => lrX (idl n kn L) (fun x st => lrM (fun p st => lr n kn k (prt n kn x (mbN x p) L) st) (pansK kn) 0 st) X' st' := by
              rw [lrX, if_neg hid]
            rw [e0] at hl1
            have key : ∃ q : Nat, Mw hX11_isIdle yX11_isIdle d [vA m, vI (lev : Nat), vI (kn : Nat)] S1 (oI (fun r2 S2 => r2 = 0 ∧ VX11_learns_161 d (VX11_learns_20 d Q q) Q m (kn : Nat) (most : Nat) (pansK kn : Nat) (lev : Nat) S2)) := by
              refine Mw.exJ (c_isIdle (n := n) (l := lev) (kn := kn) (i := i) (X := X) (L := L) hd hL1 h3 h7 hT1 hV1 hX.symm hS1 rfl rfl hk (by omega) g15 hil (fun S2 q f2 hq => oI_i ?_))
              rw [exi] at hq
              have q1 : q = 0 := by rcases hq with ⟨-, hq⟩ | ⟨rfl, -⟩; exact absurd hq hidw; rfl
              have e15 : S2.I (m+15) lev = (i : Nat) := by rw [f2.arr (by decide) (by decide)]; exact g15
              have e30 : S2.I m 30 = (st1 : Nat) := by rw [f2.fld (by decide)]; exact g30
              have hL2 := f2.lay hL1
              have hS2 := f2.sl (by decide) (by decide) hS1
              have f12 : Fr m AL BL S S2 := f1.tr (f2.wk (by decide) (by decide))
              have o12 : LO m lev S S2 := o1.tr (LO.fr f2 (by decide) (by decide) (by decide) (by decide))
              have v30 : (S2.setI m 30 ((st1 : Int) + 1)).I m 30 = ((st1 + 1 : Nat) : Int) := by rw [sI_I, if_pos ⟨rfl, rfl⟩]; rfl
              have f13 : Fr m AL BL S ((S2.setI m 30 ((st1 : Int) + 1)).setI (m+16) lev 0) := f12.tr ((Fr.sB (by decide)).tr (Fr.sA (by decide) (by decide)))
              have o13 : LO m lev S ((S2.setI m 30 ((st1 : Int) + 1)).setI (m+16) lev 0) := o12.tr ((LO.fr (A := []) (B := [30]) (Fr.sB (by decide)) (by decide) (by decide) (by decide) (by decide)).tr (LO.s16 (Nat.le_refl _)))
              have main : ∀ q, (st1 + 1 ≤ 4000 → VX11_learns_212 d (VX11_learns_20 d Q q) Q m (kn : Nat) (most : Nat) (pansK kn : Nat) (lev : Nat) ((S2.setI m 30 ((st1 : Int) + 1)).setI (m+16) lev 0)) → VX11_learns_161 d (VX11_learns_20 d Q q) Q m (kn : Nat) (most : Nat) (pansK kn : Nat) (lev : Nat) S2 := by
                intro q a
                have hl := hL2
                unfold RLay at hl
                unfold VX11_learns_161
                simp only [hl, sI_K, sI_N, sI_R, sI_J, Option.some.injEq, exists_eq_left', true_and, and_true, Int.toNat_zero, Int.reduceToNat, Int.reduceLT, Int.reduceLE, Int.cast_ofNat_Int, forall_eq, ge_iff_le, Int.reduceNeg, Int.reduceAdd, Int.reduceSub, Int.reduceMul, Int.reduceEq, r32_0, r32_1, r32_m1, b01_0, b01_1, not_true_eq_false, not_false_eq_true, false_implies, true_implies, implies_true, forall_const]
                rw [Int.toNat_natCast, e15, hS2.1, e30, v30]
                refine ⟨by omega, ⟨(by unfold R32; omega), (by unfold R32; omega)⟩, fun _ => ⟨⟨(by unfold R32; omega), (by unfold R32; omega)⟩, fun c => ⟨by omega, a (by omega)⟩, fun c => ?_⟩, fun c => by omega⟩
                exact hn (by rw [← hl1, if_pos (by omega)]) _ (f12.tr (Fr.sB (by decide)))
              by_cases c : st1 + 1 ≤ 4000
              · obtain ⟨q, hq⟩ := mem (pansK kn - 1) (p := 0) (S2 := (S2.setI m 30 ((st1 : Int) + 1)).setI (m+16) lev 0) (st2 := st1 + 1) (by omega) f13 o13 (by rw [sI_Ia (by omega)]; exact v30) c (by rw [sI_Ia (by omega), sI_Ia (by omega)]; exact e15) (by rw [sI_I, if_pos ⟨rfl, rfl⟩]; rfl) (by rw [show pansK kn - 1 + 1 = pansK kn by omega, ← hl1, if_neg (by omega)])
                exact ⟨q, q1, main q (fun _ => hq)⟩
              · exact ⟨0, q1, main 0 (fun k => absurd k c)⟩
            obtain ⟨q, hq⟩ := key
            refine ⟨(q, 1), ?_⟩
            have hl := hL1
            unfold RLay at hl
            unfold VX11_learns_123
            simp only [hl, sI_K, sI_N, sI_R, sI_J, Option.some.injEq, exists_eq_left', true_and, and_true, Int.toNat_zero, Int.reduceToNat, Int.reduceLT, Int.reduceLE, Int.cast_ofNat_Int, forall_eq, ge_iff_le, Int.reduceNeg, Int.reduceAdd, Int.reduceSub, Int.reduceMul, Int.reduceEq, r32_0, r32_1, r32_m1, b01_0, b01_1, not_true_eq_false, not_false_eq_true, false_implies, true_implies, implies_true, forall_const]
            rw [Int.toNat_natCast, g15, hS1.1]
            refine ⟨by omega, ⟨(by unfold R32; omega), (by unfold R32; omega)⟩, fun c => by omega, fun _ => hq.mono ?_⟩
            rintro o S2 (⟨v, rfl, r, rfl, rfl, hv⟩ | ⟨E, -, k⟩)
            · exact oI_i ⟨r32_0, fun _ => hv, fun c => absurd rfl c⟩
            · exact k.elim
      rw [c2]
      refine l_step2 hL (by omega) (hop c2).1 ?_
      exact sets X (i := 0) rfl (by omega) (Fr.sA (by decide) (by decide)) (LO.s15 (Nat.le_refl _)) (by rw [sI_Ia (by omega)]; exact h30) hst (by rw [sI_I, if_pos ⟨rfl, rfl⟩]; rfl) hlr.symm
    · obtain ⟨q, hq⟩ := h S (decide (pln n kn (k + 1) L = 1)) st (by show (if _ then _ else _) = _; rw [if_neg c2]) Fr.rf LO.rf h30 hst
      refine ⟨q, ?_⟩
      have e : (if decide (pln n kn (k + 1) L = 1) = true then 1 else 0 : Int) = (pln n kn (k + 1) L : Nat) := by
        have : pln n kn (k + 1) L = 0 ∨ pln n kn (k + 1) L = 1 := by omega
        rcases this with e | e <;> simp [e]
      rw [e] at hq
      exact hq
theorem c_learns {d m n kn most st : Nat} {L : List Nat} {S : MS} {Q : Out → MS → Prop} {x1 x2 : Int} (hd : 5 ≤ d) (hL : RLay S m) (hg : GW n (S.I (m+1))) (hT : Tb S m n) (hS : SL S m (cmb n n (pansK kn))) (hV : LV S m n 0 L) (e1 : x1 = (kn : Int)) (e2 : x2 = (most : Int)) (hk : kn < 3) (hmost : most ≤ 8) (h30 : S.I m 30 = (st : Nat)) (hst : st ≤ 4000)
    (h : ∀ S' b st', lr n kn most L st = some (b, st') → Fr m AL BL S S' → LO m 0 S S' → S'.I m 30 = (st' : Nat) → st' ≤ 4000 → Q (.inl (some (vI (if b then 1 else 0)))) S')
    (hn : lr n kn most L st = none → ∀ S', Fr m AL BL S S' → Q (.inl (some (vI (-2)))) S') : Mw hX11_learns yX11_learns d [vA m, vI x1, vI x2] S Q := by
  subst e1 e2
  have h3 := hg.1.1
  have h7 := hg.1.2.1
  obtain ⟨dd, rfl⟩ : ∃ e, d = e + 1 := ⟨d - 1, by omega⟩
  refine MX11_learns ?_
  unfold VX11_learns_0
  refine c_pansOf (by omega) rfl hk (oI_i ⟨hL.1, ?_⟩)
  have end0 : ∀ S' b st', lr n kn most L st = some (b, st') → Fr m AL BL S S' → LO m 0 S S' → S'.I m 30 = (st' : Nat) → st' ≤ 4000 → ∃ q, VX11_learns_20 dd Q q m (kn : Nat) (most : Nat) (pansK kn : Nat) ((0 : Nat) : Int) (if b then 1 else 0) S' := by
    intro S' b st' a1 a2 a3 a4 a5
    refine ⟨1, ?_⟩
    have := h S' b st' a1 a2 a3 a4 a5
    unfold VX11_learns_20
    cases b
    · exact ⟨⟨r32_0, (by unfold R32; omega)⟩, fun c => absurd c (by decide), fun _ => ⟨r32_0, fun _ => this, fun c => absurd (Int.le_refl _) c⟩⟩
    · exact ⟨⟨r32_1, (by unfold R32; omega)⟩, fun c => absurd c (by decide), fun _ => ⟨r32_0, fun _ => this, fun c => absurd (Int.le_refl _) c⟩⟩
  refine c_plainly (n := n) (l := 0) (kn := kn) (k := most) (L := L) (by omega) hL h3 h7 hT hV rfl rfl rfl (by decide) (by omega) (fun c => oI_i ?_) (fun c => oI_i ?_)
  · exact f_learn (w := S.I (m+1)) (by omega) hg hk hmost most (lev := 0) (by omega) hL rfl hT hS hV h30 hst (fun k => absurd k c) end0 hn
  · have f0 : Fr m AL BL S ((S.setI (m+15) 0 (-1)).setI (m+16) 0 (pansK kn : Int)) := (Fr.sA (by decide) (by decide)).tr (Fr.sA (by decide) (by decide))
    have o0 : LO m 0 S ((S.setI (m+15) 0 (-1)).setI (m+16) 0 (pansK kn : Int)) := (LO.s15 (Nat.le_refl _)).tr (LO.s16 (Nat.le_refl _))
    have := f_learn (d := dd) (Q := Q) (w := S.I (m+1)) (by omega) hg hk hmost most (lev := 0) (by omega) (f0.lay hL) (f0.arr (by decide) (by decide)) (f0.tb (by decide) (by decide) (by decide) hT) (f0.sl (by decide) (by decide) hS) (o0.lv (Nat.le_refl _) hV) (by rw [sI_Ia (by omega), sI_Ia (by omega)]; exact h30) hst (fun _ => ⟨by rw [sI_Ia (by omega), sI_I, if_pos ⟨rfl, rfl⟩], by rw [sI_I, if_pos ⟨rfl, rfl⟩]⟩) (fun S' b st' a1 a2 a3 a4 a5 => end0 S' b st' a1 (f0.tr a2) (o0.tr a3) a4 a5) (fun a S' a2 => hn a S' (f0.tr a2))
    rw [c] at this
    exact this
noncomputable def fwF (n kn : Nat) (L : List Nat) : Nat → Nat → Nat → Int
  | 0, _, _ => -1
  | j + 1, k, st => match lr n kn k L st with
    | none => -2
    | some (true, _) => (k : Int)
    | some (false, st') => fwF n kn L j (k + 1) st'
theorem f_fewest {d m n kn : Nat} {L : List Nat} {w : Nat → Int} {Q : Out → MS → Prop} (hd : 5 ≤ d) (hg : GW n w) (hk : kn < 3) : ∀ (j : Nat) {S : MS} {k st : Nat}, RLay S m → S.I (m+1) = w → Tb S m n → SL S m (cmb n n (pansK kn)) → LV S m n 0 L → k + j = 9 → S.I m 30 = (st : Nat) → st ≤ 4000 → (∀ S', Fr m AL BL S S' → Q (.inl (some (vI (fwF n kn L j k st)))) S') → VX11_fewest_46 d Q (j + 1) m (kn : Nat) (k : Nat) S := by
  intro j
  induction j with
  | zero =>
    intro S k st hL hw hT hS hV hj h30 hst h
    unfold VX11_fewest_46
    exact ⟨⟨(by unfold R32; omega), (by unfold R32; omega)⟩, fun _ => h S Fr.rf, fun c => by omega⟩
  | succ j ih =>
    intro S k st hL hw hT hS hV hj h30 hst h
    unfold VX11_fewest_46
    refine ⟨⟨(by unfold R32; omega), (by unfold R32; omega)⟩, fun _ => by omega, fun c => ⟨hL.1, c_learns (n := n) (kn := kn) (most := k) (L := L) (st := st) (by omega) hL (by rw [hw]; exact hg) hT hS hV rfl rfl hk (by omega) h30 hst (fun S' b st' el f o e30 est => oI_i ?_) (fun el S' f => oI_i ?_)⟩⟩
    · cases b
      · refine ⟨⟨r32_0, (by unfold R32; omega)⟩, fun _ => ⟨⟨r32_0, r32_1⟩, fun _ => ih (k := k + 1) (st := st') (f.lay hL) (by rw [f.arr (by decide) (by decide), hw]) (f.tb (by decide) (by decide) (by decide) hT) (f.sl (by decide) (by decide) hS) (o.lv (Nat.le_refl _) hV) (by omega) e30 est (fun S'' f2 => ?_), fun c => absurd c (by decide)⟩, fun c => absurd c (by decide)⟩
        have := h S'' (f.tr f2)
        unfold fwF at this
        rw [el] at this
        exact this
      · refine ⟨⟨r32_1, (by unfold R32; omega)⟩, fun _ => ⟨⟨r32_1, r32_1⟩, fun c => absurd rfl c, fun _ => ?_⟩, fun c => absurd c (by decide)⟩
        have := h S' f
        unfold fwF at this
        rw [el] at this
        exact this
    · refine ⟨⟨(by unfold R32; omega), (by unfold R32; omega)⟩, fun c => absurd rfl c, fun _ => ?_⟩
      have := h S' f
      unfold fwF at this
      rw [el] at this
      exact this
noncomputable def A_fewest (n : Nat) (w : Nat → Int) (s : Int) : Int × Int := if 0 ≤ s ∧ s < (sN w : Int) then (0, fwF n (kd w s.toNat) (rowsL n w 0) 9 0 0) else (1, 0)
theorem c_fewest {d m n : Nat} {S : MS} {Q : Out → MS → Prop} {s : Int} (hd : 8 ≤ d) (hI : RI S m n) (hs : R32 s) (h : ∀ S', RQ m S S' → S'.I m 0 = (A_fewest n (S.I (m+1)) s).1 → Q (.inl (some (vI (A_fewest n (S.I (m+1)) s).2))) S') : Mw hX11_fewest yX11_fewest d [vA m, vI s] S Q := by
  have hL := hI.1
  have hg := hI.2.1
  have h7 := hg.1.2.1
  have e0 : (S.setI m 0 0).I (m+1) = S.I (m+1) := sI_Ia (by omega)
  obtain ⟨dd, rfl⟩ : ∃ e, d = e + 1 := ⟨d - 1, by omega⟩
  refine MX11_fewest ?_
  have hl := hL
  unfold RLay at hl
  unfold VX11_fewest_0
  simp only [hl, sI_K, sI_N, sI_R, sI_J, Option.some.injEq, exists_eq_left', true_and, and_true, Int.toNat_zero, Int.reduceToNat, Int.reduceLT, Int.reduceLE, Int.cast_ofNat_Int, forall_eq, ge_iff_le, Int.reduceNeg, Int.reduceAdd, Int.reduceSub, Int.reduceMul, Int.reduceEq, r32_0, r32_1, r32_m1, b01_0, b01_1, not_true_eq_false, not_false_eq_true, false_implies, true_implies, implies_true, forall_const]
  refine l_noS (n := n) (by omega) hI hs (fun r hr => oI_i ⟨hL.1, t_if (by omega) (by exact hL) hr (fun c => oI_i ?_) (fun c => oI_i ?_)⟩)
  · have c' : 0 ≤ s ∧ s < (sN (S.I (m+1)) : Int) := Classical.byContradiction c
    have g1 := hg.2.1
    have b := hg.sc (s := s.toNat) (by omega)
    simp only [hl, sI_K, sI_N, sI_R, sI_J, Option.some.injEq, exists_eq_left', true_and, and_true, Int.toNat_zero, Int.reduceToNat, Int.reduceLT, Int.reduceLE, Int.cast_ofNat_Int, forall_eq, ge_iff_le, Int.reduceNeg, Int.reduceAdd, Int.reduceSub, Int.reduceMul, Int.reduceEq, r32_0, r32_1, r32_m1, b01_0, b01_1, not_true_eq_false, not_false_eq_true, false_implies, true_implies, implies_true, forall_const]
    refine c_ofScale (i := s.toNat) (q := 0) (by omega) (by exact hL) (by omega) rfl (by omega) (by decide) (oI_i ⟨hL.1, ?_⟩)
    rw [e0]
    have hpk := pansK_le (kd (S.I (m+1)) s.toNat)
    refine l_lv (n := n) (by omega) hI (fun S1 q1 t1 d1 => oV_i (c_pansOf (k := kd (S.I (m+1)) s.toNat) (by omega) b.1.1 b.1.2 (oI_i ⟨d1.1.1, c_listsSets (n := n) (k := pansK (kd (S.I (m+1)) s.toNat)) (by omega) d1.1 (by rw [d1.2.1]; exact hg) rfl (by omega) (cmb_k h7).1 (fun S2 f2 s2 => oV_i ⟨(f2.lay d1.1).1, 10, ?_⟩)⟩)))
    rw [show S.I (m+1) (11 + 3 * s.toNat + 0) = ((kd (S.I (m+1)) s.toNat : Nat) : Int) from b.1.1]
    have d2 := d1.fr f2 (by decide) (by decide) (by decide) (by decide) (by decide) (by decide)
    have f3 : Fr m [] [30] S2 (S2.setI m 30 0) := Fr.sB (by decide)
    have d3 := d2.fr f3 (by decide) (by decide) (by decide) (by decide) (by decide) (by decide)
    refine f_fewest (n := n) (kn := kd (S.I (m+1)) s.toNat) (L := rowsL n (S.I (m+1)) 0) (by omega) hg b.1.2 9 (k := 0) (st := 0) d3.1 d3.2.1 d3.2.2.2.1 (f3.sl (by decide) (by decide) s2) d3.lv (by omega) (by rw [sI_I, if_pos ⟨rfl, rfl⟩]; rfl) (by omega) (fun S' f4 => ?_)
    exact fin h (by unfold A_fewest; rw [if_pos c']) (((q1.fr f2 (by decide) (by decide) (by decide) (by decide) (by decide)).fr f3 (by decide) (by decide) (by decide) (by decide) (by decide)).fr f4 (by decide) (by decide) (by decide) (by decide) (by decide)) (by rw [f4.fld (by decide), f3.fld (by decide), f2.fld (by decide), t1])
  · simp only [hl, sI_K, sI_N, sI_R, sI_J, Option.some.injEq, exists_eq_left', true_and, and_true, Int.toNat_zero, Int.reduceToNat, Int.reduceLT, Int.reduceLE, Int.cast_ofNat_Int, forall_eq, ge_iff_le, Int.reduceNeg, Int.reduceAdd, Int.reduceSub, Int.reduceMul, Int.reduceEq, r32_0, r32_1, r32_m1, b01_0, b01_1, not_true_eq_false, not_false_eq_true, false_implies, true_implies, implies_true, forall_const]
    exact fin h (by unfold A_fewest; rw [if_neg c]) (rq_x hI) rq_t
