/-! the class's small helpers -/
theorem c_holds {d x t : Nat} {S : MS} {Q : Out → MS → Prop} {a b : Int} (hd : 1 ≤ d) (ea : a = (x : Int)) (eb : b = (t : Int)) (hx : x < 2147483648) (ht : t < 32) (h : ∀ q, BI q (x.testBit t = true) → Q (.inl (some (vI q))) S) : Mw hX10_holds yX10_holds d [vI a, vI b] S Q := by
  subst ea eb
  obtain ⟨dd, rfl⟩ : ∃ e, d = e + 1 := ⟨d - 1, by omega⟩
  refine MX10_holds ?_
  unfold VX10_holds_0
  rw [iBit_n hx ht]
  refine ⟨⟨r32_ite, r32_1⟩, fun c => ⟨b01_0, h _ (.n ?_)⟩, fun c => ⟨b01_1, h _ (.y ?_)⟩⟩
  · intro k; rw [if_pos k] at c; exact c rfl
  · by_cases k : x.testBit t = true
    · exact k
    · rw [if_neg k] at c; exact absurd c (by decide)
def aboK (k : Nat) : Nat := if k = 2 then 0 else 1
theorem c_aboveRiser {d k : Nat} {S : MS} {Q : Out → MS → Prop} {a : Int} (hd : 1 ≤ d) (ea : a = (k : Int)) (hk : k < 3) (h : Q (.inl (some (vI (aboK k : Nat)))) S) : Mw hX10_aboveRiser yX10_aboveRiser d [vI a] S Q := by
  subst ea
  obtain ⟨dd, rfl⟩ : ∃ e, d = e + 1 := ⟨d - 1, by omega⟩
  refine MX10_aboveRiser ?_
  unfold VX10_aboveRiser_0
  unfold aboK at h
  refine ⟨⟨(by unfold R32; omega), (by unfold R32; omega)⟩, fun c => ?_, fun c => ?_⟩
  · rw [if_neg (by omega)] at h; exact h
  · rw [if_pos (by omega)] at h; exact h
theorem c_kPans {d k : Nat} {S : MS} {Q : Out → MS → Prop} {a : Int} (hd : 1 ≤ d) (ea : a = (k : Int)) (hk : k < 3) (h : Q (.inl (some (vI (pansK k : Nat)))) S) : Mw hX10_pansOf yX10_pansOf d [vI a] S Q := by
  subst ea
  obtain ⟨dd, rfl⟩ : ∃ e, d = e + 1 := ⟨d - 1, by omega⟩
  refine MX10_pansOf ?_
  unfold VX10_pansOf_0
  unfold pansK at h
  refine ⟨(by unfold R32; omega), fun c => ⟨⟨(by unfold R32; omega), (by unfold R32; omega)⟩, fun c2 => ?_, fun c2 => ?_⟩, fun c => ?_⟩
  · rw [if_neg (by omega), if_neg (by omega)] at h; exact h
  · rw [if_neg (by omega), if_pos (by omega)] at h; exact h
  · rw [if_pos (by omega)] at h; exact h
theorem c_within {d : Nat} {S : MS} {Q : Out → MS → Prop} {a b : Int} (hd : 1 ≤ d) (ha : R32 a) (hb : R32 b) (h : ∀ q, BI q (0 ≤ a ∧ a ≤ b) → Q (.inl (some (vI q))) S) : Mw hX10_within yX10_within d [vI a, vI b] S Q := by
  obtain ⟨dd, rfl⟩ : ∃ e, d = e + 1 := ⟨d - 1, by omega⟩
  refine MX10_within ?_
  unfold VX10_within_0
  exact ⟨ha, fun c => ⟨b01_0, h _ (.n (by omega))⟩, fun c => ⟨⟨ha, hb⟩, fun c2 => ⟨b01_0, h _ (.n (by omega))⟩, fun c2 => ⟨b01_1, h _ (.y (by omega))⟩⟩⟩
theorem dig_n {x p : Nat} (hx : x < 2147483648) (hp : p < 10) : iAnd (iShr (x : Int) (3 * (p : Int))) 7 = (dig x p : Nat) := by
  rw [show (3 * (p : Int)) = ((3 * p : Nat) : Int) by omega, iShr_n hx (by omega), show (7 : Int) = ((7 : Nat) : Int) from rfl, iAnd_n (Nat.lt_of_le_of_lt (Nat.div_le_self _ _) hx) (by decide)]
  unfold dig
  rw [Nat.pow_mul, show (7 : Nat) = 2 ^ 3 - 1 from rfl, Nat.and_two_pow_sub_one_eq_mod]
theorem c_kAt {d x p : Nat} {S : MS} {Q : Out → MS → Prop} {a b : Int} (hd : 1 ≤ d) (ea : a = (x : Int)) (eb : b = (p : Int)) (hx : x < 2147483648) (hp : p < 10) (h : Q (.inl (some (vI (dig x p : Nat)))) S) : Mw hX10_at yX10_at d [vI a, vI b] S Q := by
  subst ea eb
  obtain ⟨dd, rfl⟩ : ∃ e, d = e + 1 := ⟨d - 1, by omega⟩
  refine MX10_at ?_
  unfold VX10_at_0
  rw [dig_n hx hp]
  exact h
/-! packing -/
theorem pck_bit {f : Nat → Nat} : ∀ {n : Nat}, (∀ p, p < n → f p < 8) → ∀ p b, b < 3 → (pck f n).testBit (3 * p + b) = (decide (p < n) && (f p).testBit b)
  | 0, _, p, b, _ => by rw [decide_eq_false (by omega)]; exact Nat.zero_testBit _
  | n + 1, h, p, b, hb => by
    have lt := pck_lt (f := f) (n := n) (fun p hp => h p (by omega))
    have e : pck f (n + 1) = 2 ^ (3 * n) * f n + pck f n := by
      show pck f n + f n * 8 ^ n = _
      rw [Nat.pow_mul, Nat.mul_comm, Nat.add_comm]
    rw [show 8 ^ n = 2 ^ (3 * n) by rw [Nat.pow_mul]] at lt
    rw [e, Nat.testBit_two_pow_mul_add _ lt]
    by_cases c : p < n
    · rw [if_pos (by omega), pck_bit (fun p hp => h p (by omega)) p b hb, decide_eq_true c, decide_eq_true (by omega)]
    · rw [if_neg (by omega)]
      by_cases c2 : p = n
      · subst c2
        rw [show 3 * p + b - 3 * p = b by omega, decide_eq_true (by omega)]
        rfl
      · rw [decide_eq_false (by omega), Bool.false_and]
        refine Nat.testBit_lt_two_pow (Nat.lt_of_lt_of_le (h n (by omega)) ?_)
        exact Nat.pow_le_pow_right (show 0 < 2 by decide) (show 3 ≤ 3 * p + b - 3 * n by omega)
theorem pck_or {f : Nat → Nat} {n q v : Nat} (h : ∀ p, p < n → f p < 8) (hv : v < 8) (hq : q < n) (h0 : f q = 0) : pck f n ||| v * 8 ^ q = pck (fun p => if p = q then v else f p) n := by
  apply Nat.eq_of_testBit_eq
  intro i
  obtain ⟨p, b, hb, rfl⟩ : ∃ p b, b < 3 ∧ i = 3 * p + b := ⟨i / 3, i % 3, Nat.mod_lt _ (by decide), by omega⟩
  have h' : ∀ p, p < n → (if p = q then v else f p) < 8 := fun p hp => by split; exact hv; exact h p hp
  rw [Nat.testBit_or, pck_bit h p b hb, pck_bit h' p b hb, show 8 ^ q = 2 ^ (3 * q) by rw [Nat.pow_mul], Nat.mul_comm, Nat.testBit_two_pow_mul]
  by_cases c : p = q
  · subst c
    rw [if_pos rfl, h0, decide_eq_true hq, decide_eq_true (by omega), show 3 * p + b - 3 * p = b by omega]
    simp
  · rw [if_neg c]
    have : (decide (3 * p + b ≥ 3 * q) && v.testBit (3 * p + b - 3 * q)) = false := by
      by_cases g : p < q
      · rw [decide_eq_false (by omega)]; rfl
      · rw [Nat.testBit_lt_two_pow (Nat.lt_of_lt_of_le hv (Nat.pow_le_pow_right (show 0 < 2 by decide) (show 3 ≤ 3 * p + b - 3 * q by omega))), Bool.and_false]
    rw [this, Bool.or_false]
theorem pck_cong {f g : Nat → Nat} : ∀ {n : Nat}, (∀ p, p < n → f p = g p) → pck f n = pck g n
  | 0, _ => rfl
  | n + 1, h => by
    show pck f n + f n * 8 ^ n = pck g n + g n * 8 ^ n
    rw [pck_cong (fun p hp => h p (by omega)), h n (by omega)]
theorem pck_0 {n : Nat} : pck (fun _ => 0) n = 0 := by
  induction n with
  | zero => rfl
  | succ n ih => show pck _ n + 0 * 8 ^ n = 0; rw [ih]; simp
theorem p8_le {n : Nat} (h : n ≤ 7) : 8 ^ n ≤ 2097152 := Nat.pow_le_pow_right (by decide) h
theorem pck_sm {f : Nat → Nat} {n : Nat} (h7 : n ≤ 7) (h : ∀ p, p < n → f p < 8) : pck f n < 2097152 := Nat.lt_of_lt_of_le (pck_lt h) (p8_le h7)
theorem shl_8 {v q : Nat} (hv : v < 8) (hq : q < 7) : iShl (v : Int) (3 * (q : Int)) = ((v * 8 ^ q : Nat) : Int) ∧ v * 8 ^ q < 2097152 := by
  have e : 8 ^ q = 2 ^ (3 * q) := by rw [Nat.pow_mul]
  have l : 8 ^ q ≤ 8 ^ 6 := Nat.pow_le_pow_right (by decide) (by omega)
  have l2 : v * 8 ^ q ≤ 7 * 8 ^ 6 := Nat.mul_le_mul (by omega) l
  refine ⟨?_, by omega⟩
  rw [show (3 * (q : Int)) = ((3 * q : Nat) : Int) by omega, e]
  exact iShl_n (by omega) (by rw [← e]; omega)
/-- one more place -/
theorem pck_put {f : Nat → Nat} {n q v : Nat} (h7 : n ≤ 7) (h : ∀ p, p < n → f p < 8) (hv : v < 8) (hq : q < n) (h0 : f q = 0) : iOr ((pck f n : Nat) : Int) (iShl (v : Int) (3 * (q : Int))) = ((pck (fun p => if p = q then v else f p) n : Nat) : Int) := by
  have e := shl_8 (v := v) (q := q) hv (by omega)
  have := pck_sm h7 h
  rw [e.1, iOr_n (by omega) (by omega), pck_or h hv hq h0]
/-! the class's store -/
def SY (S : MS) (s : Nat) : Prop := S.K s = 7 ∧ (S.R s 0 = some (s+1) ∧ S.R s 1 = some (s+2) ∧ S.R s 2 = some (s+3) ∧ S.R s 3 = some (s+4) ∧ S.R s 4 = some (s+5) ∧ S.R s 5 = some (s+6) ∧ S.R s 6 = some (s+7)) ∧ (S.K (s+1) = 13 ∧ S.K (s+2) = 13 ∧ S.K (s+3) = 13 ∧ S.K (s+4) = 13 ∧ S.K (s+5) = 13 ∧ S.K (s+6) = 13 ∧ S.K (s+7) = 13) ∧ (S.N (s+1) = 7 ∧ S.N (s+2) = 4 ∧ S.N (s+3) = 4 ∧ S.N (s+4) = 4 ∧ S.N (s+5) = 16 ∧ S.N (s+6) = 16 ∧ S.N (s+7) = 16)
def SW (S : MS) (s : Nat) (w : Nat → Int) : Prop := (S.I s 7 = w 0 ∧ S.I s 8 = w 1 ∧ S.I s 9 = w 2 ∧ S.I s 10 = w 3) ∧ (∀ t, t < 7 → S.I (s+1) t = w (4 + t)) ∧ (∀ i, i < sN w → S.I (s+2) i = w (11 + 3 * i) ∧ S.I (s+3) i = w (12 + 3 * i) ∧ S.I (s+4) i = w (13 + 3 * i)) ∧ (∀ i, i < nN w → S.I (s+5) i = w (23 + 3 * i) ∧ S.I (s+6) i = w (24 + 3 * i) ∧ S.I (s+7) i = w (25 + 3 * i))
def SS (S : MS) (s n : Nat) (w : Nat → Int) : Prop := SY S s ∧ SW S s w ∧ GW n w
theorem Fi.sy {lo hi s : Nat} {S S1 : MS} (h : Fi lo hi S S1) (k : SY S s) : SY S1 s := by
  unfold SY
  rw [h.1, h.2.1, h.2.2.1]
  exact k
theorem Fi.sw {lo hi s : Nat} {w : Nat → Int} {S S1 : MS} (h : Fi lo hi S S1) (ha : s + 8 ≤ lo ∨ hi ≤ s) (k : SW S s w) : SW S1 s w := by
  unfold SW
  rw [h.I (a := s) (by omega), h.I (a := s+1) (by omega), h.I (a := s+2) (by omega), h.I (a := s+3) (by omega), h.I (a := s+4) (by omega), h.I (a := s+5) (by omega), h.I (a := s+6) (by omega), h.I (a := s+7) (by omega)]
  exact k
theorem Fi.ss {lo hi s n : Nat} {w : Nat → Int} {S S1 : MS} (h : Fi lo hi S S1) (ha : s + 8 ≤ lo ∨ hi ≤ s) (k : SS S s n w) : SS S1 s n w := ⟨h.sy k.1, h.sw ha k.2.1, k.2.2⟩
theorem c_isThing {d s n : Nat} {w : Nat → Int} {S : MS} {Q : Out → MS → Prop} {x : Int} (hd : 1 ≤ d) (hS : SS S s n w) (hx : R32 x) (h : ∀ q, BI q (0 ≤ x ∧ x < (n : Int)) → Q (.inl (some (vI q))) S) : Mw hX7_isThing yX7_isThing d [vA s, vI x] S Q := by
  obtain ⟨hY, ⟨⟨w0, w1, w2, w3⟩, wt, wk, wn⟩, hg⟩ := hS
  have g0 := hg.1
  have g1 := hg.2.1
  have g2 := hg.2.2.1
  have g3 := hg.2.2.2.1
  have hl := hY
  unfold SY at hl
  obtain ⟨dd, rfl⟩ : ∃ e, d = e + 1 := ⟨d - 1, by omega⟩
  refine MX7_isThing ?_
  unfold VX7_isThing_0
  simp only [hl, sI_K, sI_N, sI_R, sI_J, sJ_K, sJ_N, sJ_R, sJ_I, sR_K, sR_N, sR_I, sR_J, Option.some.injEq, exists_eq_left', true_and, and_true, and_self_left, Int.toNat_natCast, Int.toNat_zero, Int.reduceToNat, Int.reduceLT, Int.reduceLE, Nat.reduceLeDiff, Nat.reduceLT, Int.cast_ofNat_Int, forall_eq, ge_iff_le, Int.reduceNeg, Int.reduceAdd, Int.reduceSub, Int.reduceMul, Int.reduceEq, r32_0, r32_1, r32_m1, b01_0, b01_1, not_true_eq_false, not_false_eq_true, false_implies, true_implies, implies_true, forall_const]
  rw [w0, g0.2.2]
  exact ⟨hx, fun c => h _ (.n (by omega)), fun c => ⟨⟨hx, (by unfold R32; omega)⟩, fun c2 => h _ (.n (by omega)), fun c2 => h _ (.y (by omega))⟩⟩
theorem c_isSet {d s n k : Nat} {w : Nat → Int} {S : MS} {Q : Out → MS → Prop} {x y : Int} (hd : 2 ≤ d) (hS : SS S s n w) (hx : R32 x) (hy : y = (k : Int)) (hk : k < 100) (h : ∀ q, BI q (IsSet n k x) → Q (.inl (some (vI q))) S) : Mw hX7_isSet yX7_isSet d [vA s, vI x, vI y] S Q := by
  subst hy
  obtain ⟨hY, ⟨⟨w0, w1, w2, w3⟩, wt, wk, wn⟩, hg⟩ := hS
  have g0 := hg.1
  have g1 := hg.2.1
  have g2 := hg.2.2.1
  have g3 := hg.2.2.2.1
  have hl := hY
  unfold SY at hl
  have p7 := p2_7 g0.2.1
  obtain ⟨dd, rfl⟩ : ∃ e, d = e + 1 := ⟨d - 1, by omega⟩
  refine MX7_isSet ?_
  unfold VX7_isSet_0
  simp only [hl, sI_K, sI_N, sI_R, sI_J, sJ_K, sJ_N, sJ_R, sJ_I, sR_K, sR_N, sR_I, sR_J, Option.some.injEq, exists_eq_left', true_and, and_true, and_self_left, Int.toNat_natCast, Int.toNat_zero, Int.reduceToNat, Int.reduceLT, Int.reduceLE, Nat.reduceLeDiff, Nat.reduceLT, Int.cast_ofNat_Int, forall_eq, ge_iff_le, Int.reduceNeg, Int.reduceAdd, Int.reduceSub, Int.reduceMul, Int.reduceEq, r32_0, r32_1, r32_m1, b01_0, b01_1, not_true_eq_false, not_false_eq_true, false_implies, true_implies, implies_true, forall_const]
  rw [w0, g0.2.2, i1_shl (by omega)]
  unfold IsSet at h
  have p0 : (0 : Int) ≤ ((2 ^ n : Nat) : Int) := Int.natCast_nonneg _
  refine ⟨hx, fun c => h _ (.n (by omega)), fun c => ⟨⟨hx, (by unfold R32; omega)⟩, fun c2 => h _ (.n (by omega)), fun c2 => c_bitCount (x := x.toNat) (by omega) (by omega) (by omega) (oI_i ?_)⟩⟩
  have := cntB_le (fun t => x.toNat.testBit t) 7
  have e : pc x.toNat = cntB (fun t => x.toNat.testBit t) 7 := rfl
  refine ⟨⟨(by unfold R32; omega), (by unfold R32; omega)⟩, fun c3 => h _ (.n (fun k => c3 (by omega))), fun c3 => h _ (.y ⟨by omega, by omega, by omega⟩)⟩
theorem k_kindOf {d s n i : Nat} {w : Nat → Int} {S : MS} {Q : Out → MS → Prop} {x : Int} (hd : 1 ≤ d) (hS : SS S s n w) (hx : x = (i : Int)) (hi : i < nN w) (h : Q (.inl (some (vI (kd w (nS w i) : Nat)))) S) : Mw hX7_kindOfNote yX7_kindOfNote d [vA s, vI x] S Q := by
  subst hx
  obtain ⟨hY, ⟨⟨w0, w1, w2, w3⟩, wt, wk, wn⟩, hg⟩ := hS
  have g0 := hg.1
  have g1 := hg.2.1
  have g2 := hg.2.2.1
  have g3 := hg.2.2.2.1
  have hl := hY
  unfold SY at hl
  have n1 := (hg.nt hi).1
  have k1 := (hg.sc n1.2).1
  obtain ⟨dd, rfl⟩ : ∃ e, d = e + 1 := ⟨d - 1, by omega⟩
  refine MX7_kindOfNote ?_
  unfold VX7_kindOfNote_0
  simp only [hl, sI_K, sI_N, sI_R, sI_J, sJ_K, sJ_N, sJ_R, sJ_I, sR_K, sR_N, sR_I, sR_J, Option.some.injEq, exists_eq_left', true_and, and_true, and_self_left, Int.toNat_natCast, Int.toNat_zero, Int.reduceToNat, Int.reduceLT, Int.reduceLE, Nat.reduceLeDiff, Nat.reduceLT, Int.cast_ofNat_Int, forall_eq, ge_iff_le, Int.reduceNeg, Int.reduceAdd, Int.reduceSub, Int.reduceMul, Int.reduceEq, r32_0, r32_1, r32_m1, b01_0, b01_1, not_true_eq_false, not_false_eq_true, false_implies, true_implies, implies_true, forall_const]
  rw [(wn i hi).1, n1.1, Int.toNat_natCast, (wk _ n1.2).1, k1.1]
  exact ⟨by omega, by omega, h⟩
theorem c_kOut {d s n a b : Nat} {w : Nat → Int} {S : MS} {Q : Out → MS → Prop} {x y : Int} (hd : 1 ≤ d) (hS : SS S s n w) (ex : x = (a : Int)) (ey : y = (b : Int)) (ha : a < 7) (hb : b < 7) (h : ∀ q, BI q (ow w a b) → Q (.inl (some (vI q))) S) : Mw hX7_outweighs yX7_outweighs d [vA s, vI x, vI y] S Q := by
  subst ex ey
  obtain ⟨hY, ⟨⟨w0, w1, w2, w3⟩, wt, wk, wn⟩, hg⟩ := hS
  have g0 := hg.1
  have g1 := hg.2.1
  have g2 := hg.2.2.1
  have g3 := hg.2.2.2.1
  have hl := hY
  unfold SY at hl
  have wa := hg.wt ha
  have wb := hg.wt hb
  obtain ⟨dd, rfl⟩ : ∃ e, d = e + 1 := ⟨d - 1, by omega⟩
  refine MX7_outweighs ?_
  unfold VX7_outweighs_0
  unfold VX7_outweighs_35
  simp only [hl, sI_K, sI_N, sI_R, sI_J, sJ_K, sJ_N, sJ_R, sJ_I, sR_K, sR_N, sR_I, sR_J, Option.some.injEq, exists_eq_left', true_and, and_true, and_self_left, Int.toNat_natCast, Int.toNat_zero, Int.reduceToNat, Int.reduceLT, Int.reduceLE, Nat.reduceLeDiff, Nat.reduceLT, Int.cast_ofNat_Int, forall_eq, ge_iff_le, Int.reduceNeg, Int.reduceAdd, Int.reduceSub, Int.reduceMul, Int.reduceEq, r32_0, r32_1, r32_m1, b01_0, b01_1, not_true_eq_false, not_false_eq_true, false_implies, true_implies, implies_true, forall_const]
  rw [wt a ha, wt b hb]
  refine ⟨by omega, by omega, ⟨(by unfold R32; omega), (by unfold R32; omega)⟩, fun c => h _ (.y ?_), fun c => ⟨by omega, by omega, ⟨(by unfold R32; omega), (by unfold R32; omega)⟩, fun c2 => h _ (.n ?_), fun c2 => ⟨⟨(by unfold R32; omega), (by unfold R32; omega)⟩, fun c3 => h _ (.n ?_), fun c3 => h _ (.y ?_)⟩⟩⟩
  · unfold ow; omega
  · unfold ow; omega
  · unfold ow; omega
  · unfold ow; omega
noncomputable def abB (w : Nat → Int) (x t u : Nat) : Bool := x.testBit u && dc (ow w u t)
noncomputable def abv (w : Nat → Int) (n x t : Nat) : Nat := cntB (abB w x t) n
theorem kf_heavierIn {d s n x t : Nat} {w : Nat → Int} {S : MS} {Q : Out → MS → Prop} (hd : 1 ≤ d) (hS : SS S s n w) (hx : x < 2147483648) (ht : t < 7) (h : Q (.inl (some (vI (abv w n x t : Nat)))) S) : ∀ (j : Nat) {u : Nat}, u + j = n → VX7_heavierIn_5 d Q (j + 1) s (x : Nat) (t : Nat) (cntB (abB w x t) u : Nat) (u : Nat) S := by
  have hS' := hS
  obtain ⟨hY, ⟨⟨w0, w1, w2, w3⟩, wt, wk, wn⟩, hg⟩ := hS
  have g0 := hg.1
  have g1 := hg.2.1
  have g2 := hg.2.2.1
  have g3 := hg.2.2.2.1
  have hl := hY
  unfold SY at hl
  intro j
  induction j with
  | zero =>
    intro u hu
    unfold VX7_heavierIn_5
    simp only [hl, sI_K, sI_N, sI_R, sI_J, sJ_K, sJ_N, sJ_R, sJ_I, sR_K, sR_N, sR_I, sR_J, Option.some.injEq, exists_eq_left', true_and, and_true, and_self_left, Int.toNat_natCast, Int.toNat_zero, Int.reduceToNat, Int.reduceLT, Int.reduceLE, Nat.reduceLeDiff, Nat.reduceLT, Int.cast_ofNat_Int, forall_eq, ge_iff_le, Int.reduceNeg, Int.reduceAdd, Int.reduceSub, Int.reduceMul, Int.reduceEq, r32_0, r32_1, r32_m1, b01_0, b01_1, not_true_eq_false, not_false_eq_true, false_implies, true_implies, implies_true, forall_const]
    rw [w0, g0.2.2]
    rw [show u = n by omega]
    exact ⟨⟨(by unfold R32; omega), (by unfold R32; omega)⟩, fun _ => h, fun c => by omega⟩
  | succ j ih =>
    intro u hu
    have cl := cntB_le (abB w x t) u
    unfold VX7_heavierIn_5 VX7_heavierIn_38 VX7_heavierIn_39
    simp only [hl, sI_K, sI_N, sI_R, sI_J, sJ_K, sJ_N, sJ_R, sJ_I, sR_K, sR_N, sR_I, sR_J, Option.some.injEq, exists_eq_left', true_and, and_true, and_self_left, Int.toNat_natCast, Int.toNat_zero, Int.reduceToNat, Int.reduceLT, Int.reduceLE, Nat.reduceLeDiff, Nat.reduceLT, Int.cast_ofNat_Int, forall_eq, ge_iff_le, Int.reduceNeg, Int.reduceAdd, Int.reduceSub, Int.reduceMul, Int.reduceEq, r32_0, r32_1, r32_m1, b01_0, b01_1, not_true_eq_false, not_false_eq_true, false_implies, true_implies, implies_true, forall_const]
    rw [w0, g0.2.2]
    have ih' := ih (u := u + 1) (by omega)
    have e : cntB (abB w x t) (u + 1) = cntB (abB w x t) u + (if abB w x t u then 1 else 0) := rfl
    refine ⟨⟨(by unfold R32; omega), (by unfold R32; omega)⟩, fun c => by omega, fun _ => c_holds hd rfl rfl hx (by omega) (fun q hq => oI_i ⟨hq.r, fun c => ?_, fun c => ⟨hl.1, c_kOut hd hS' rfl rfl (by omega) ht (fun q2 hq2 => oI_i ⟨hq2.r, fun c2 => ?_, fun c2 => ?_⟩)⟩⟩)⟩
    · have f : abB w x t u = false := by
        unfold abB
        rcases hq with ⟨rfl, -⟩ | ⟨-, k⟩
        · exact absurd c (by decide)
        · simp [k]
      rw [f, if_neg (by decide), Nat.add_zero] at e
      rw [e] at ih'
      rw [Int.add_zero]
      exact ih'
    · have f : abB w x t u = false := by
        unfold abB
        rcases hq2 with ⟨rfl, -⟩ | ⟨-, k⟩
        · exact absurd c2 (by decide)
        · rw [dc_n k, Bool.and_false]
      rw [f, if_neg (by decide), Nat.add_zero] at e
      rw [e] at ih'
      rw [Int.add_zero]
      exact ih'
    · have f : abB w x t u = true := by
        unfold abB
        rcases hq with ⟨-, k1⟩ | ⟨rfl, -⟩
        · rcases hq2 with ⟨-, k⟩ | ⟨rfl, -⟩
          · rw [dc_y k, k1]; rfl
          · exact absurd rfl c2
        · exact absurd rfl c
      rw [f, if_pos rfl] at e
      rw [e] at ih'
      exact ih'
theorem k_heavierIn {d s n x t : Nat} {w : Nat → Int} {S : MS} {Q : Out → MS → Prop} {a b : Int} (hd : 2 ≤ d) (hS : SS S s n w) (ea : a = (x : Int)) (eb : b = (t : Int)) (hx : x < 2147483648) (ht : t < 7) (h : Q (.inl (some (vI (abv w n x t : Nat)))) S) : Mw hX7_heavierIn yX7_heavierIn d [vA s, vI a, vI b] S Q := by
  subst ea eb
  obtain ⟨dd, rfl⟩ : ∃ e, d = e + 1 := ⟨d - 1, by omega⟩
  refine MX7_heavierIn ?_
  unfold VX7_heavierIn_0
  exact ⟨_, kf_heavierIn (by omega) hS hx ht h n (u := 0) (by omega)⟩
theorem cnt_dis {p q r : Nat → Bool} : ∀ {n : Nat}, (∀ k, k < n → p k = (q k || r k) ∧ (q k && r k) = false) → cntB p n = cntB q n + cntB r n
  | 0, _ => rfl
  | n + 1, h => by
    have ih := cnt_dis (p := p) (q := q) (r := r) (n := n) (fun k hk => h k (by omega))
    have e := h n (by omega)
    show cntB p n + _ = cntB q n + _ + (cntB r n + _)
    rw [ih, e.1]
    cases h1 : q n <;> cases h2 : r n <;> simp [h1, h2] at e ⊢ <;> omega
theorem abv_sum {w : Nat → Int} {n x t : Nat} (h7 : n ≤ 7) (hx : x < 2 ^ n) (ht : t < n) (hb : x.testBit t = true) : abv w n x t + owC w n x t + 1 = pc x := by
  rw [pc_n h7 hx]
  have e1 : cntB (fun u => x.testBit u) n = cntB (fun u => (abB w x t u || dc (u ≠ t ∧ x.testBit u = true ∧ ow w t u)) || decide (u = t)) n := by
    refine cntB_cong (fun u hu => ?_)
    unfold abB
    by_cases c : u = t
    · rw [c, hb]; simp
    · cases hu : x.testBit u
      · rw [dc_n (P := u ≠ t ∧ false = true ∧ ow w t u) (fun k => absurd k.2.1 (by decide)), decide_eq_false c]; rfl
      · rcases ow_tot (w := w) c with g | g
        · rw [dc_y g]; rfl
        · rw [dc_y (P := u ≠ t ∧ true = true ∧ ow w t u) ⟨c, rfl, g⟩]; simp
  have e2 : cntB (fun u => abB w x t u || dc (u ≠ t ∧ x.testBit u = true ∧ ow w t u)) n = abv w n x t + owC w n x t := by
    refine cnt_dis (fun u hu => ⟨rfl, ?_⟩)
    unfold abB
    by_cases g : ow w u t
    · rw [dc_n (P := u ≠ t ∧ x.testBit u = true ∧ ow w t u) (fun k => ow_as g k.2.2), Bool.and_false]
    · rw [dc_n g, Bool.and_false, Bool.false_and]
  rw [e1, cntB_upd _ ht, e2, if_neg]
  unfold abB
  rw [dc_n ow_irr, dc_n (P := t ≠ t ∧ x.testBit t = true ∧ ow w t t) (fun k => k.1 rfl)]
  simp
theorem abo_bel {kn : Nat} (hk : kn < 3) : aboK kn + belK kn + 1 = pansK kn := by
  unfold aboK belK pansK
  rcases (show kn = 0 ∨ kn = 1 ∨ kn = 2 by omega) with h | h | h <;> subst h <;> rfl
theorem abv_rs {w : Nat → Int} {n kn x t : Nat} (h3 : 3 ≤ n) (h7 : n ≤ 7) (hk : kn < 3) (hx : x < 2 ^ n) (hp : pc x = pansK kn) (ht : t < n) (hb : x.testBit t = true) : abv w n x t = aboK kn ↔ t = rsN n kn x (rW w n) := by
  have a := abv_sum (w := w) h7 hx ht hb
  have b := abo_bel hk
  have r := trF_rs (w := w) h3 h7 hk hx hp
  have hr := rW_lt (w := w) h3 h7
  have key : owC w n x t = bfr n (rW w n) x t := by
    rw [bfr_u h3 h7 hr ht]
    unfold owC
    refine cntB_cong (fun u hu => ?_)
    by_cases c : x.testBit u = true
    · by_cases g : ow w t u
      · rw [dc_y ⟨fun e => ow_irr (by rw [e] at g; exact g), c, g⟩, c, rW_plc h3 h7 hu, rW_plc h3 h7 ht]
        simp [rk_lt hu g]
      · rw [dc_n (fun k => g k.2.2), c, rW_plc h3 h7 hu, rW_plc h3 h7 ht, decide_eq_false (fun k => g ((rk_iff ht hu).mp k))]
        rfl
    · rw [dc_n (fun k => c k.2.1)]
      simp [c]
  have i := rs_iff (kn := kn) h3 h7 hr hx (by rw [hp]; exact belK_pans hk) ht hb
  constructor
  · intro e
    exact (i.mpr (by omega)).symm
  · intro e
    have := i.mp e.symm
    omega
theorem kf_riser {d s n kn x : Nat} {w : Nat → Int} {S : MS} {Q : Out → MS → Prop} (hd : 2 ≤ d) (hS : SS S s n w) (hk : kn < 3) (hx : x < 2 ^ n) (hp : pc x = pansK kn) (h : Q (.inl (some (vI (rsN n kn x (rW w n) : Nat)))) S) : ∀ (j : Nat) {u : Nat}, u + j = n → VX7_riser_5 d Q (j + 1) s (kn : Nat) (x : Nat) ((if rsN n kn x (rW w n) < u then rsN n kn x (rW w n) else 0 : Nat) : Int) (u : Nat) S := by
  have hS' := hS
  obtain ⟨hY, ⟨⟨w0, w1, w2, w3⟩, wt, wk, wn⟩, hg⟩ := hS
  have g0 := hg.1
  have g1 := hg.2.1
  have g2 := hg.2.2.1
  have g3 := hg.2.2.2.1
  have hl := hY
  unfold SY at hl
  have p7 := p2_7 g0.2.1
  have r := trF_rs (w := w) g0.1 g0.2.1 hk hx hp
  intro j
  induction j with
  | zero =>
    intro u hu
    unfold VX7_riser_5
    simp only [hl, sI_K, sI_N, sI_R, sI_J, sJ_K, sJ_N, sJ_R, sJ_I, sR_K, sR_N, sR_I, sR_J, Option.some.injEq, exists_eq_left', true_and, and_true, and_self_left, Int.toNat_natCast, Int.toNat_zero, Int.reduceToNat, Int.reduceLT, Int.reduceLE, Nat.reduceLeDiff, Nat.reduceLT, Int.cast_ofNat_Int, forall_eq, ge_iff_le, Int.reduceNeg, Int.reduceAdd, Int.reduceSub, Int.reduceMul, Int.reduceEq, r32_0, r32_1, r32_m1, b01_0, b01_1, not_true_eq_false, not_false_eq_true, false_implies, true_implies, implies_true, forall_const]
    rw [w0, g0.2.2, show u = n by omega, if_pos r.2.1]
    exact ⟨⟨(by unfold R32; omega), (by unfold R32; omega)⟩, fun _ => h, fun c => by omega⟩
  | succ j ih =>
    intro u hu
    unfold VX7_riser_5 VX7_riser_40
    simp only [hl, sI_K, sI_N, sI_R, sI_J, sJ_K, sJ_N, sJ_R, sJ_I, sR_K, sR_N, sR_I, sR_J, Option.some.injEq, exists_eq_left', true_and, and_true, and_self_left, Int.toNat_natCast, Int.toNat_zero, Int.reduceToNat, Int.reduceLT, Int.reduceLE, Nat.reduceLeDiff, Nat.reduceLT, Int.cast_ofNat_Int, forall_eq, ge_iff_le, Int.reduceNeg, Int.reduceAdd, Int.reduceSub, Int.reduceMul, Int.reduceEq, r32_0, r32_1, r32_m1, b01_0, b01_1, not_true_eq_false, not_false_eq_true, false_implies, true_implies, implies_true, forall_const]
    rw [w0, g0.2.2]
    have ih' := ih (u := u + 1) (by omega)
    refine ⟨⟨(by unfold R32; omega), (by unfold R32; omega)⟩, fun c => by omega, fun _ => c_holds (by omega) rfl rfl (by omega) (by omega) (fun q hq => oI_i ⟨hq.r, fun c => ?_, fun c => ⟨hl.1, k_heavierIn hd hS' rfl rfl (by omega) (by omega) (oI_i (c_aboveRiser (d := d) (by omega) rfl hk (oI_i ?_)))⟩⟩)⟩
    · have nb : ¬ x.testBit u = true := by
        rcases hq with ⟨rfl, -⟩ | ⟨-, k⟩
        · exact absurd c (by decide)
        · exact k
      have ne : rsN n kn x (rW w n) ≠ u := fun e => nb (by rw [← e]; exact r.2.2)
      rw [show (if rsN n kn x (rW w n) < u + 1 then rsN n kn x (rW w n) else 0) = (if rsN n kn x (rW w n) < u then rsN n kn x (rW w n) else 0) by by_cases g : rsN n kn x (rW w n) < u; rw [if_pos g, if_pos (by omega)]; rw [if_neg g, if_neg (by omega)]] at ih'
      exact ih'
    · have hb : x.testBit u = true := by
        rcases hq with ⟨-, k⟩ | ⟨rfl, -⟩
        · exact k
        · exact absurd rfl c
      have i := abv_rs (w := w) (t := u) g0.1 g0.2.1 hk hx hp (by omega) hb
      have c1 := cntB_le (abB w x u) n
      have c2 : abv w n x u = cntB (abB w x u) n := rfl
      have c3 : aboK kn ≤ 1 := by unfold aboK; split <;> omega
      refine ⟨⟨(by unfold R32; omega), (by unfold R32; omega)⟩, fun c => ?_, fun c => ?_⟩
      · have ne : rsN n kn x (rW w n) ≠ u := fun e => c (by rw [i.mpr e.symm])
        rw [show (if rsN n kn x (rW w n) < u + 1 then rsN n kn x (rW w n) else 0) = (if rsN n kn x (rW w n) < u then rsN n kn x (rW w n) else 0) by by_cases g : rsN n kn x (rW w n) < u; rw [if_pos g, if_pos (by omega)]; rw [if_neg g, if_neg (by omega)]] at ih'
        exact ih'
      · have e := i.mp (by omega)
        rw [if_pos (by omega), ← e] at ih'
        exact ih'
theorem k_riser {d s n kn x : Nat} {w : Nat → Int} {S : MS} {Q : Out → MS → Prop} {a b : Int} (hd : 3 ≤ d) (hS : SS S s n w) (ea : a = (kn : Int)) (eb : b = (x : Int)) (hk : kn < 3) (hx : x < 2 ^ n) (hp : pc x = pansK kn) (h : Q (.inl (some (vI (rsN n kn x (rW w n) : Nat)))) S) : Mw hX7_riser yX7_riser d [vA s, vI a, vI b] S Q := by
  subst ea eb
  obtain ⟨dd, rfl⟩ : ∃ e, d = e + 1 := ⟨d - 1, by omega⟩
  refine MX7_riser ?_
  unfold VX7_riser_0
  have := kf_riser (d := dd) (by omega) hS hk hx hp h n (u := 0) (by omega)
  exact ⟨_, this⟩
