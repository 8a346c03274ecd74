/-- rows below k, in order -/
def lsR (p : Nat → Bool) (k : Nat) : List Nat := (List.range k).filter p
theorem lsR_s (p : Nat → Bool) (k : Nat) : lsR p (k + 1) = lsR p k ++ (if p k then [k] else []) := rng_s p k
theorem lsR_len (p : Nat → Bool) (k : Nat) : (lsR p k).length = cntB p k := len_cnt p k
theorem lsR_tail {p : Nat → Bool} {k : Nat} : ∀ j, (∀ r, k ≤ r → r < k + j → p r = false) → lsR p (k + j) = lsR p k
  | 0, _ => rfl
  | j + 1, h => by
    rw [show k + (j + 1) = k + j + 1 by omega, lsR_s, lsR_tail j (fun r h1 h2 => h r h1 (by omega)), if_neg (by rw [h (k + j) (by omega) (by omega)]; decide), List.append_nil]
theorem lsR_at {p : Nat → Bool} {k i : Nat} (h : i < k) (hp : p i = true) : (lsR p k).getD (cntB p i) 0 = i ∧ cntB p i < (lsR p k).length := by
  obtain ⟨j, rfl⟩ : ∃ j, k = i + 1 + j := ⟨k - (i + 1), by omega⟩
  have e : ∀ j, ∃ T, lsR p (i + 1 + j) = lsR p i ++ [i] ++ T := by
    intro j
    induction j with
    | zero => exact ⟨[], by rw [Nat.add_zero, lsR_s, if_pos hp, List.append_nil]⟩
    | succ j ih =>
      obtain ⟨T, hT⟩ := ih
      exact ⟨T ++ (if p (i + 1 + j) then [i + 1 + j] else []), by rw [← Nat.add_assoc, lsR_s, hT, List.append_assoc (lsR p i ++ [i])]⟩
  obtain ⟨T, hT⟩ := e j
  rw [hT, ← lsR_len, List.getD_eq_getElem?_getD, List.append_assoc, List.getElem?_append_right (Nat.le_refl _), Nat.sub_self]
  refine ⟨rfl, ?_⟩
  rw [List.length_append, List.length_append, List.length_singleton]
  omega
/-- the rows of the words up to w, and of the next one's first b bits -/
theorem f_rList15 {d a c cap n : Nat} {p : Nat → Bool} {Q : Out → MS → Prop} {c4 : Nat → Nat → Int → Int → MS → Prop} {i : Nat} (hi : i < (lvs p 79).length) (hp : ∀ r, 5056 ≤ r → p r = false) (hcap : cntB p 5056 ≤ cap) (hac : c < a ∨ a + 3 ≤ c) (hcm : cap < 100000) : ∀ (j : Nat) {S : MS} {b : Nat}, RS_ S a p → S.K c = 13 → S.N c = cap → b + j = 64 → (∀ k, k < (lsR p (64 * (lvs p 79).getD i 0 + b)).length → S.I c k = ((lsR p (64 * (lvs p 79).getD i 0 + b)).getD k 0 : Nat)) → (∀ S', Fi c (c+1) S S' → (∀ k, k < (lsR p (64 * ((lvs p 79).getD i 0 + 1))).length → S'.I c k = ((lsR p (64 * ((lvs p 79).getD i 0 + 1))).getD k 0 : Nat)) → c4 a c ((lsR p (64 * ((lvs p 79).getD i 0 + 1))).length : Nat) ((i : Int) + 1) S') → VX5_list_15 d c4 Q (j + 1) a c ((lsR p (64 * (lvs p 79).getD i 0 + b)).length : Nat) (i : Nat) (b : Nat) S := by
  have hlen := lvs_len p 79
  have hwi := lvs_lt (getD_mem (L := lvs p 79) (k := i) hi)
  generalize hw : (lvs p 79).getD i 0 = w at *
  intro j
  induction j with
  | zero =>
    intro S b hA hK hN hb h1 h
    rw [show b = 64 by omega, show 64 * w + 64 = 64 * (w + 1) by omega] at h1 ⊢
    unfold VX5_list_15 VX5_list_73
    exact ⟨⟨(by unfold R32; omega), (by unfold R32; omega)⟩, fun _ => h S Fi.rf h1, fun c => absurd (by decide) c⟩
  | succ j ih =>
    intro S b hA hK hN hb h1 h
    obtain ⟨hY, b1, b2, b3, b4⟩ := hA
    have hl := hY
    unfold RY at hl
    have hle : (lsR p (64 * w + b)).length ≤ cntB p 5056 := by rw [lsR_len]; exact cntB_mono p (by omega)
    have c0 := lCmp_0 (x := lUshr (wdv p w) (b : Int) &&& 1#64) (z := 1#64)
    have bt : (lUshr (wdv p w) (b : Int) &&& 1#64 = 1#64) ↔ p (64 * w + b) = true := by
      rw [bit_at (by omega), wdv_bit]
      simp
      omega
    have ls := lsR_s p (64 * w + b)
    have b3i := b3 i hi
    rw [hw] at b3i
    unfold VX5_list_15 VX5_list_67 VX5_list_73
    simp only [hl, sI_K, sI_N, sI_R, sI_J, sJ_K, sJ_N, sJ_R, sJ_I, sR_K, sR_N, sR_I, sR_J, Option.some.injEq, exists_eq_left', true_and, and_true, and_self_left, Int.toNat_natCast, Int.toNat_zero, Int.reduceToNat, Int.reduceLT, Int.reduceLE, Nat.reduceLeDiff, Nat.reduceLT, Int.cast_ofNat_Int, forall_eq, ge_iff_le, Int.reduceNeg, Int.reduceAdd, Int.reduceSub, Int.reduceMul, Int.reduceEq, r32_0, r32_1, r32_m1, b01_0, b01_1, not_true_eq_false, not_false_eq_true, false_implies, true_implies, implies_true, forall_const]
    rw [hK, hN, b3i, Int.toNat_natCast, b1 w hwi.1]
    refine ⟨⟨(by unfold R32; omega), (by unfold R32; omega)⟩, fun _ => by omega, fun _ => ⟨by omega, ⟨(by unfold R32; omega), (by unfold R32; omega)⟩, fun g => ?_, fun _ => ⟨by omega, by omega, c0.1, fun nz => ?_, fun z => ⟨by omega, ⟨rfl, by omega⟩, ?_⟩⟩⟩⟩
    · -- full: then nothing is left
      have full : (lsR p (64 * w + b)).length = cntB p 5056 := by omega
      have rest : ∀ r, 64 * w + b ≤ r → p r = false := by
        intro r hr
        cases e : p r
        · rfl
        · exfalso
          have hr5 : r < 5056 := by
            rcases Nat.lt_or_ge r 5056 with g | g
            · exact g
            · rw [hp r g] at e; exact absurd e (by decide)
          have m1 := cntB_mono p (show 64 * w + b ≤ r from hr)
          have m2 := cntB_mono p (show r + 1 ≤ 5056 from hr5)
          have : cntB p (r + 1) = cntB p r + 1 := by show cntB p r + _ = _; rw [if_pos e]
          rw [lsR_len] at full
          omega
      have e : lsR p (64 * (w + 1)) = lsR p (64 * w + b) := by
        rw [show 64 * (w + 1) = 64 * w + b + (64 - b) by omega]
        exact lsR_tail _ (fun r h1 _ => rest r h1)
      rw [e] at h
      exact h S Fi.rf h1
    · have np : p (64 * w + b) = false := by
        cases e : p (64 * w + b)
        · rfl
        · exact absurd (c0.2.mpr (bt.mpr e)) nz
      rw [np, if_neg (by decide), List.append_nil] at ls
      have := ih (S := S) (b := b + 1) ⟨hY, b1, b2, b3, b4⟩ hK hN (by omega) (by rw [show 64 * w + (b + 1) = 64 * w + b + 1 by omega, ls]; exact h1) h
      rw [show 64 * w + (b + 1) = 64 * w + b + 1 by omega, ls] at this
      exact this
    · have pp := bt.mp (c0.2.mp z)
      rw [pp, if_pos rfl] at ls
      have f1 : Fi c (c+1) S (S.setI c (lsR p (64 * w + b)).length ((w : Int) * 64 + (b : Int))) := Fi.sI (by omega)
      have hlt : (lsR p (64 * w + b)).length < cap := by
        have : (lsR p (64 * w + b + 1)).length ≤ cntB p 5056 := by rw [lsR_len]; exact cntB_mono p (by omega)
        rw [ls, List.length_append, List.length_singleton] at this
        omega
      have hA' : RS_ (S.setI c (lsR p (64 * w + b)).length ((w : Int) * 64 + (b : Int))) a p := f1.rs (by omega) ⟨hY, b1, b2, b3, b4⟩
      have := ih (S := S.setI c (lsR p (64 * w + b)).length ((w : Int) * 64 + (b : Int))) (b := b + 1) hA' (by exact hK) (by exact hN) (by omega) (fun k hk => ?_) (fun S' f => h S' (f1.tr f))
      · rw [show 64 * w + (b + 1) = 64 * w + b + 1 by omega, ls, List.length_append, List.length_singleton] at this
        exact this
      · rw [show 64 * w + (b + 1) = 64 * w + b + 1 by omega, ls] at hk ⊢
        rw [List.length_append, List.length_singleton] at hk
        rw [sI_I, List.getD_eq_getElem?_getD]
        by_cases g : k = (lsR p (64 * w + b)).length
        · rw [if_pos ⟨rfl, g⟩, g, List.getElem?_append_right (Nat.le_refl _), Nat.sub_self]
          show _ = ((64 * w + b : Nat) : Int)
          omega
        · rw [if_neg (fun k => g k.2), List.getElem?_append_left (by omega), ← List.getD_eq_getElem?_getD]
          exact h1 k (by omega)
theorem cut_lsR {p : Nat → Bool} {k l : Nat} (h : cut p k = cut p l) (hk : k ≤ 79) (hl : l ≤ 79) : lsR p (64 * k) = lsR p (64 * l) := by
  have e : ∀ m, m ≤ 79 → lsR p (64 * m) = lsR (cut p m) 5056 := by
    intro m hm
    obtain ⟨j, hj⟩ : ∃ j, 5056 = 64 * m + j := ⟨5056 - 64 * m, by omega⟩
    rw [hj, lsR_tail (p := cut p m) (k := 64 * m) j (fun r h1 _ => by unfold cut; rw [decide_eq_false (by omega)]; rfl)]
    unfold lsR
    refine List.filter_congr (fun r hr => ?_)
    rw [List.mem_range] at hr
    unfold cut
    rw [decide_eq_true hr]
    rfl
  rw [e k hk, e l hl, h]
theorem f_rList4 {d a c cap : Nat} {p : Nat → Bool} {Q : Out → MS → Prop} (hp : ∀ r, 5056 ≤ r → p r = false) (hcap : cntB p 5056 ≤ cap) (hac : c < a ∨ a + 3 ≤ c) (hcm : cap < 100000) : ∀ (j : Nat) {S : MS} {i : Nat}, RS_ S a p → S.K c = 13 → S.N c = cap → i + j = (lvs p 79).length → (∀ k, k < (lsR p (64 * lvE p i)).length → S.I c k = ((lsR p (64 * lvE p i)).getD k 0 : Nat)) → (∀ S', Fi c (c+1) S S' → (∀ k, k < (lsR p 5056).length → S'.I c k = ((lsR p 5056).getD k 0 : Nat)) → Q (.inl (some (vI ((lsR p 5056).length : Nat)))) S') → VX5_list_4 d Q (j + 1) a c ((lsR p (64 * lvE p i)).length : Nat) (i : Nat) S := by
  have hlen := lvs_len p 79
  intro j
  induction j with
  | zero =>
    intro S i hA hK hN hi h1 h
    have hl := hA.1
    unfold RY at hl
    have e79 : lvE p i = 79 := by unfold lvE; rw [if_neg (by omega)]
    rw [e79] at h1 ⊢
    unfold VX5_list_4
    simp only [hl, sI_K, sI_N, sI_R, sI_J, sJ_K, sJ_N, sJ_R, sJ_I, sR_K, sR_N, sR_I, sR_J, Option.some.injEq, exists_eq_left', true_and, and_true, and_self_left, Int.toNat_natCast, Int.toNat_zero, Int.reduceToNat, Int.reduceLT, Int.reduceLE, Nat.reduceLeDiff, Nat.reduceLT, Int.cast_ofNat_Int, forall_eq, ge_iff_le, Int.reduceNeg, Int.reduceAdd, Int.reduceSub, Int.reduceMul, Int.reduceEq, r32_0, r32_1, r32_m1, b01_0, b01_1, not_true_eq_false, not_false_eq_true, false_implies, true_implies, implies_true, forall_const]
    rw [hA.2.2.1]
    exact ⟨⟨(by unfold R32; omega), (by unfold R32; omega)⟩, fun _ => h S Fi.rf h1, fun c => by omega⟩
  | succ j ih =>
    intro S i hA hK hN hi h1 h
    have hl := hA.1
    unfold RY at hl
    obtain ⟨e1, e2, e3⟩ := lvE_s (p := p) (q := p) (i := i) (fun r h => h) (by omega)
    have el := cut_lsR e3 (by omega) (lvE_le p (i + 1))
    unfold VX5_list_4
    simp only [hl, sI_K, sI_N, sI_R, sI_J, sJ_K, sJ_N, sJ_R, sJ_I, sR_K, sR_N, sR_I, sR_J, Option.some.injEq, exists_eq_left', true_and, and_true, and_self_left, Int.toNat_natCast, Int.toNat_zero, Int.reduceToNat, Int.reduceLT, Int.reduceLE, Nat.reduceLeDiff, Nat.reduceLT, Int.cast_ofNat_Int, forall_eq, ge_iff_le, Int.reduceNeg, Int.reduceAdd, Int.reduceSub, Int.reduceMul, Int.reduceEq, r32_0, r32_1, r32_m1, b01_0, b01_1, not_true_eq_false, not_false_eq_true, false_implies, true_implies, implies_true, forall_const]
    rw [hA.2.2.1]
    refine ⟨⟨(by unfold R32; omega), (by unfold R32; omega)⟩, fun _ => by omega, fun _ => ⟨65, ?_⟩⟩
    rw [e1] at h1 el ⊢
    have := f_rList15 (n := 0) (d := d) (Q := Q) (c4 := VX5_list_4 d Q (j + 1)) (i := i) (c := c) (by omega) hp hcap hac hcm 64 (b := 0) hA hK hN (by omega) h1 (fun S' f k1 => ?_)
    · exact this
    · rw [el] at k1 ⊢
      exact ih (i := i + 1) (f.rs (by omega) hA) (by rw [f.1]; exact hK) (by rw [f.2.1]; exact hN) (by omega) k1 (fun S'' f2 => h S'' (f.tr f2))
theorem lsR_lv0 {p : Nat → Bool} : lsR p (64 * lvE p 0) = [] := by
  have := cut_lsR (p := p) (k := lvE p 0) (l := 0) (by rw [lvE_0 (fun r h => h), cut_0]) (lvE_le p 0) (by omega)
  rw [this]
  rfl
theorem c_rList {d a c cap : Nat} {p : Nat → Bool} {S : MS} {Q : Out → MS → Prop} (hd : 1 ≤ d) (hp : ∀ r, 5056 ≤ r → p r = false) (hcap : cntB p 5056 ≤ cap) (hac : c < a ∨ a + 3 ≤ c) (hcm : cap < 100000) (hA : RS_ S a p) (hK : S.K c = 13) (hN : S.N c = cap) (h : ∀ S', Fi c (c+1) S S' → (∀ k, k < (lsR p 5056).length → S'.I c k = ((lsR p 5056).getD k 0 : Nat)) → Q (.inl (some (vI ((lsR p 5056).length : Nat)))) S') : Mw hX5_list yX5_list d [vA a, vA c] S Q := by
  obtain ⟨dd, rfl⟩ : ∃ e, d = e + 1 := ⟨d - 1, by omega⟩
  refine MX5_list ?_
  unfold VX5_list_0
  have := f_rList4 (d := dd) (Q := Q) hp hcap hac hcm (lvs p 79).length (i := 0) hA hK hN (by omega) (by rw [lsR_lv0]; intro k hk; exact absurd hk (Nat.not_lt_zero k)) h
  rw [lsR_lv0] at this
  exact ⟨_, this⟩
/-! the k-th bit of a word -/
theorem low_bit {x : BitVec 64} (h : x ≠ 0#64) : ∃ i, i < 64 ∧ x.getLsbD i = true ∧ ∀ j, j < i → x.getLsbD j = false := by
  have : ∃ i, i < 64 ∧ x.getLsbD i = true := by
    apply Classical.byContradiction
    intro c
    apply h
    apply BitVec.eq_of_getLsbD_eq
    intro i hi
    cases e : x.getLsbD i
    · simp
    · exact absurd ⟨i, hi, e⟩ c
  obtain ⟨i, hi, e⟩ := this
  have hc : 0 < cntB (fun b => x.getLsbD b) 64 := by
    have := cntB_mono (fun b => x.getLsbD b) (show i + 1 ≤ 64 by omega)
    have e2 : cntB (fun b => x.getLsbD b) (i + 1) = cntB (fun b => x.getLsbD b) i + 1 := by show _ + _ = _; rw [if_pos e]
    omega
  obtain ⟨k, k1, k2, k3⟩ := cntB_kth hc
  refine ⟨k, k1, k2, fun j hj => ?_⟩
  cases ej : x.getLsbD j
  · rfl
  · have := cntB_mono (fun b => x.getLsbD b) (show j + 1 ≤ k by omega)
    have e2 : cntB (fun b => x.getLsbD b) (j + 1) = cntB (fun b => x.getLsbD b) j + 1 := by show _ + _ = _; rw [if_pos ej]
    omega
theorem dec_bit {x : BitVec 64} {i : Nat} (hi : i < 64) (h1 : x.getLsbD i = true) (h0 : ∀ j, j < i → x.getLsbD j = false) : ∀ j, j < 64 → (x - 1#64).getLsbD j = if j < i then true else if j = i then false else x.getLsbD j := by
  have e : x.toNat = 2 ^ i * (2 * (x.toNat / 2 ^ (i + 1)) + 1) := by
    apply Nat.eq_of_testBit_eq
    intro j
    rw [Nat.mul_comm (2 ^ i), ← Nat.shiftLeft_eq, Nat.testBit_shiftLeft]
    by_cases c : j < i
    · have : x.toNat.testBit j = false := h0 j c
      rw [this, decide_eq_false (by omega)]
      rfl
    · by_cases c2 : j = i
      · subst c2
        have : x.toNat.testBit j = true := h1
        rw [this, Nat.sub_self]
        simp [Nat.testBit_zero]
      · obtain ⟨k, rfl⟩ : ∃ k, j = i + 1 + k := ⟨j - (i + 1), by omega⟩
        rw [show i + 1 + k - i = k + 1 by omega, Nat.testBit_succ, show (2 * (x.toNat / 2 ^ (i + 1)) + 1) / 2 = x.toNat / 2 ^ (i + 1) by omega, Nat.testBit_div_two_pow]
        rw [decide_eq_true (by omega), Nat.add_comm k]
        rfl
  have hpos : 0 < 2 ^ i := Nat.two_pow_pos i
  have et : (x - 1#64).toNat = 2 ^ i * (2 * (x.toNat / 2 ^ (i + 1))) + (2 ^ i - 1) := by
    have l := x.isLt
    have : (1#64).toNat = 1 := rfl
    have hx1 : 1 ≤ x.toNat := by
      rw [e]
      exact Nat.mul_pos hpos (by omega)
    rw [BitVec.toNat_sub, this]
    generalize x.toNat / 2 ^ (i + 1) = q at *
    rw [Nat.mul_add, Nat.mul_one] at e
    omega
  intro j hj
  show (x - 1#64).toNat.testBit j = _
  rw [et, Nat.testBit_two_pow_mul_add _ (by omega)]
  by_cases c : j < i
  · rw [if_pos c, if_pos c, Nat.testBit_two_pow_sub_one, decide_eq_true c]
  · rw [if_neg c, if_neg c]
    by_cases c2 : j = i
    · subst c2
      rw [if_pos rfl, Nat.sub_self]
      simp [Nat.testBit_zero]
    · rw [if_neg c2]
      obtain ⟨k, rfl⟩ : ∃ k, j = i + 1 + k := ⟨j - (i + 1), by omega⟩
      rw [show i + 1 + k - i = k + 1 by omega, Nat.testBit_succ, Nat.mul_div_cancel_left _ (by decide), Nat.testBit_div_two_pow, Nat.add_comm k]
      rfl
theorem clr_bit {x : BitVec 64} {i : Nat} (hi : i < 64) (h1 : x.getLsbD i = true) (h0 : ∀ j, j < i → x.getLsbD j = false) : ∀ j, j < 64 → (x &&& (x - 1#64)).getLsbD j = (decide (j ≠ i) && x.getLsbD j) := by
  intro j hj
  rw [BitVec.getLsbD_and, dec_bit hi h1 h0 j hj]
  by_cases c : j < i
  · rw [if_pos c, h0 j c]; simp
  · rw [if_neg c]
    by_cases c2 : j = i
    · rw [if_pos c2, c2]; simp
    · rw [if_neg c2]; simp [c2]
theorem iso_bit {x : BitVec 64} {i : Nat} (hi : i < 64) (h1 : x.getLsbD i = true) (h0 : ∀ j, j < i → x.getLsbD j = false) : lc ((x &&& -x) - 1#64) = i := by
  have en : -x = ~~~(x - 1#64) := by rw [BitVec.neg_eq_not_add, BitVec.not_sub_eq_not_add]
  have ei : ∀ j, j < 64 → (x &&& -x).getLsbD j = decide (j = i) := by
    intro j hj
    rw [en, BitVec.getLsbD_and, BitVec.getLsbD_not, dec_bit hi h1 h0 j hj]
    by_cases c : j < i
    · rw [if_pos c, h0 j c]; simp; omega
    · rw [if_neg c]
      by_cases c2 : j = i
      · subst c2; rw [if_pos rfl, h1]; simp [hj]
      · rw [if_neg c2]; simp [c2]; try (intro h _; exact h)
  unfold lc
  have e : ∀ j, j < 64 → ((x &&& -x) - 1#64).getLsbD j = decide (j < i) := by
    intro j hj
    rw [dec_bit hi (by rw [ei i hi]; simp) (fun k hk => by rw [ei k (by omega)]; simp; omega) j hj]
    by_cases c : j < i
    · rw [if_pos c, decide_eq_true c]
    · rw [if_neg c, decide_eq_false c]
      by_cases c2 : j = i
      · rw [if_pos c2]
      · rw [if_neg c2, ei j hj, decide_eq_false c2]
  rw [cntB_cong e]
  obtain ⟨q, hq⟩ : ∃ q, 64 = i + q := ⟨64 - i, by omega⟩
  rw [hq, cntB_split, cntB_0 (n := q) (fun k _ => by rw [decide_eq_false (by omega)]), Nat.add_zero]
  have : cntB (fun k => decide (k < i)) i = cntB (fun _ => true) i := cntB_cong (fun k hk => decide_eq_true hk)
  rw [this, cntB_allT]
/-- which bit is the k-th -/
theorem f_rBit {d : Nat} {k : Nat} {S : MS} {Q : Out → MS → Prop} (hd : 1 ≤ d) (hk : k < 64) : ∀ (j : Nat) {x : BitVec 64} {q b : Nat}, q + j = k → b < 64 → x.getLsbD b = true → cntB (fun i => x.getLsbD i) b = j → Q (.inl (some (vI (b : Nat)))) S → VX5_bitAt_5 d Q (j + 1) (k : Nat) x (q : Nat) S := by
  intro j
  induction j with
  | zero =>
    intro x q b hq hb h1 h2 h
    have h0 : ∀ i, i < b → x.getLsbD i = false := by
      intro i hi
      cases e : x.getLsbD i
      · rfl
      · have := cntB_mono (fun b => x.getLsbD b) (show i + 1 ≤ b by omega)
        have e2 : cntB (fun b => x.getLsbD b) (i + 1) = cntB (fun b => x.getLsbD b) i + 1 := by show _ + _ = _; rw [if_pos e]
        omega
    unfold VX5_bitAt_5
    refine ⟨⟨(by unfold R32; omega), (by unfold R32; omega)⟩, fun _ => c_lbits hd (oI_i ?_), fun c => by omega⟩
    rw [iso_bit hb h1 h0]
    exact h
  | succ j ih =>
    intro x q b hq hb h1 h2 h
    have nz : x ≠ 0#64 := by
      intro e
      rw [e] at h1
      simp at h1
    obtain ⟨i, i1, i2, i3⟩ := low_bit nz
    have hib : i < b := by
      rcases Nat.lt_trichotomy i b with g | g | g
      · exact g
      · subst g
        rw [cntB_0 (fun k hk => i3 k hk)] at h2
        omega
      · rw [i3 b g] at h1; exact absurd h1 (by decide)
    have cb := clr_bit i1 i2 i3
    unfold VX5_bitAt_5
    refine ⟨⟨(by unfold R32; omega), (by unfold R32; omega)⟩, fun _ => by omega, fun _ => ih (q := q + 1) (b := b) (by omega) hb ?_ ?_ h⟩
    · rw [cb b hb, h1]; simp; omega
    · have e1 : cntB (fun i => x.getLsbD i) b = cntB (fun u => (x &&& (x - 1#64)).getLsbD u || decide (u = i)) b := by
        refine cntB_cong (fun u hu => ?_)
        rw [cb u (by omega)]
        by_cases g : u = i
        · rw [g, i2]; simp
        · simp [g]
      rw [cntB_upd _ hib, cb i i1, if_neg (by simp)] at e1
      have e3 : cntB (fun i => x.getLsbD i) b = cntB (fun u => (x &&& (x - 1#64)).getLsbD u) b + 1 := e1
      show cntB (fun u => (x &&& (x - 1#64)).getLsbD u) b = j
      omega
theorem c_rBitAt {d : Nat} {k b : Nat} {x : BitVec 64} {v : Int} {S : MS} {Q : Out → MS → Prop} (hd : 2 ≤ d) (hv : v = (k : Int)) (hk : k < 64) (hb : b < 64) (h1 : x.getLsbD b = true) (h2 : cntB (fun i => x.getLsbD i) b = k) (h : Q (.inl (some (vI (b : Nat)))) S) : Mw hX5_bitAt yX5_bitAt d [vL x, vI v] S Q := by
  subst hv
  obtain ⟨dd, rfl⟩ : ∃ e, d = e + 1 := ⟨d - 1, by omega⟩
  refine MX5_bitAt ?_
  unfold VX5_bitAt_0
  exact ⟨_, f_rBit (by omega) hk k (q := 0) (by omega) hb h1 h2 h⟩
theorem f_rNum {d a : Nat} {p : Nat → Bool} {S : MS} {Q : Out → MS → Prop} {k0 : Nat} (hd : 2 ≤ d) (hA : RS_ S a p) (hp : ∀ r, 5056 ≤ r → p r = false) (hk0 : k0 < 2147483648) (h : Q (.inl (some (vI (if k0 < (lsR p 5056).length then ((lsR p 5056).getD k0 0 : Int) else -1)))) S) : ∀ (j : Nat) {i k : Nat}, i + j = (lvs p 79).length → k + cntB p (64 * lvE p i) = k0 → VX5_numberAt_4 d Q (j + 1) a (k : Nat) (i : Nat) S := by
  have hlen := lvs_len p 79
  obtain ⟨hY, b1, b2, b3, b4⟩ := hA
  have hl := hY
  unfold RY at hl
  intro j
  induction j with
  | zero =>
    intro i k hi hk
    have e79 : lvE p i = 79 := by unfold lvE; rw [if_neg (by omega)]
    rw [e79, show 64 * 79 = 5056 from rfl] at hk
    rw [if_neg (by rw [lsR_len]; omega)] at h
    unfold VX5_numberAt_4
    simp only [hl, sI_K, sI_N, sI_R, sI_J, sJ_K, sJ_N, sJ_R, sJ_I, sR_K, sR_N, sR_I, sR_J, Option.some.injEq, exists_eq_left', true_and, and_true, and_self_left, Int.toNat_natCast, Int.toNat_zero, Int.reduceToNat, Int.reduceLT, Int.reduceLE, Nat.reduceLeDiff, Nat.reduceLT, Int.cast_ofNat_Int, forall_eq, ge_iff_le, Int.reduceNeg, Int.reduceAdd, Int.reduceSub, Int.reduceMul, Int.reduceEq, r32_0, r32_1, r32_m1, b01_0, b01_1, not_true_eq_false, not_false_eq_true, false_implies, true_implies, implies_true, forall_const]
    rw [b2]
    exact ⟨⟨(by unfold R32; omega), (by unfold R32; omega)⟩, fun _ => h, fun c => by omega⟩
  | succ j ih =>
    intro i k hi hk
    obtain ⟨e1, e2, e3⟩ := lvE_s (p := p) (q := p) (i := i) (fun r h => h) (by omega)
    have cn1 : cntB p (64 * lvE p (i + 1)) = cntB p (64 * lvE p i) + lc (wdv p (lvE p i)) := by
      rw [← cnt_cut (lvE_le p (i + 1)), ← e3, cnt_cut (by omega), lc_wdv, show 64 * (lvE p i + 1) = 64 * lvE p i + 64 by omega, cntB_split]
    have l64 : lc (wdv p (lvE p i)) ≤ 64 := cntB_le _ 64
    unfold VX5_numberAt_4
    simp only [hl, sI_K, sI_N, sI_R, sI_J, sJ_K, sJ_N, sJ_R, sJ_I, sR_K, sR_N, sR_I, sR_J, Option.some.injEq, exists_eq_left', true_and, and_true, and_self_left, Int.toNat_natCast, Int.toNat_zero, Int.reduceToNat, Int.reduceLT, Int.reduceLE, Nat.reduceLeDiff, Nat.reduceLT, Int.cast_ofNat_Int, forall_eq, ge_iff_le, Int.reduceNeg, Int.reduceAdd, Int.reduceSub, Int.reduceMul, Int.reduceEq, r32_0, r32_1, r32_m1, b01_0, b01_1, not_true_eq_false, not_false_eq_true, false_implies, true_implies, implies_true, forall_const]
    rw [b2, b3 i (by omega), Int.toNat_natCast, ← e1, b1 _ e2]
    refine ⟨⟨(by unfold R32; omega), (by unfold R32; omega)⟩, fun _ => by omega, fun _ => ⟨(by unfold R32; omega), fun c => by omega, fun _ => ⟨by omega, by omega, c_lbits (by omega) (oI_i ⟨⟨(by unfold R32; omega), (by unfold R32; omega)⟩, fun c => ?_, fun c => ?_⟩)⟩⟩⟩
    · rw [show (k : Int) - (lc (wdv p (lvE p i)) : Int) = ((k - lc (wdv p (lvE p i)) : Nat) : Int) by omega]
      exact ih (i := i + 1) (by omega) (by omega)
    · have hkl : k < cntB (fun b => p (64 * lvE p i + b)) 64 := by rw [← lc_wdv]; omega
      obtain ⟨b, hb1, hb2, hb3⟩ := cntB_kth hkl
      have at' := lsR_at (p := p) (k := 5056) (i := 64 * lvE p i + b) (by omega) hb2
      rw [cntB_split, hb3, show cntB p (64 * lvE p i) + k = k0 by omega] at at'
      rw [if_pos at'.2, at'.1] at h
      simp only [hl, sI_K, sI_N, sI_R, sI_J, sJ_K, sJ_N, sJ_R, sJ_I, sR_K, sR_N, sR_I, sR_J, Option.some.injEq, exists_eq_left', true_and, and_true, and_self_left, Int.toNat_natCast, Int.toNat_zero, Int.reduceToNat, Int.reduceLT, Int.reduceLE, Nat.reduceLeDiff, Nat.reduceLT, Int.cast_ofNat_Int, forall_eq, ge_iff_le, Int.reduceNeg, Int.reduceAdd, Int.reduceSub, Int.reduceMul, Int.reduceEq, r32_0, r32_1, r32_m1, b01_0, b01_1, not_true_eq_false, not_false_eq_true, false_implies, true_implies, implies_true, forall_const]
      rw [b3 i (by omega), ← e1]
      refine ⟨by omega, c_rBitAt (k := k) (b := b) (by omega) rfl (by omega) hb1 (by rw [wdv_bit]; simp [hb1, hb2]) ?_ (oI_i ?_)⟩
      · rw [← hb3]
        refine cntB_cong (fun u hu => ?_)
        rw [wdv_bit]
        simp
        omega
      · rw [show (lvE p i : Int) * 64 + (b : Int) = ((64 * lvE p i + b : Nat) : Int) by omega]
        exact h
theorem c_rNumAt {d a : Nat} {p : Nat → Bool} {S : MS} {Q : Out → MS → Prop} {x : Int} (hd : 3 ≤ d) (hA : RS_ S a p) (hp : ∀ r, 5056 ≤ r → p r = false) (hx : R32 x) (h : Q (.inl (some (vI (if 0 ≤ x ∧ x < ((lsR p 5056).length : Int) then ((lsR p 5056).getD x.toNat 0 : Int) else -1)))) S) : Mw hX5_numberAt yX5_numberAt d [vA a, vI x] S Q := by
  have hA' := hA
  have hlen := lvs_len p 79
  obtain ⟨dd, rfl⟩ : ∃ e, d = e + 1 := ⟨d - 1, by omega⟩
  refine MX5_numberAt ?_
  unfold VX5_numberAt_0
  by_cases c : 0 ≤ x
  · have hx2 := hx.2
    refine ⟨(lvs p 79).length + 1, ?_⟩
    rw [show x = (x.toNat : Int) by omega]
    refine f_rNum (k0 := x.toNat) (by omega) hA hp (by omega) ?_ (lvs p 79).length (i := 0) (by omega) ?_
    · by_cases g : x.toNat < (lsR p 5056).length
      · rw [if_pos (by omega)] at h; rw [if_pos g]; exact h
      · rw [if_neg (by omega)] at h; rw [if_neg g]; exact h
    · rw [← lsR_len, lsR_lv0]; rfl
  · obtain ⟨hY, b1, b2, b3, b4⟩ := hA'
    have hl := hY
    unfold RY at hl
    rw [if_neg (by omega)] at h
    refine ⟨1, ?_⟩
    unfold VX5_numberAt_4
    simp only [hl, sI_K, sI_N, sI_R, sI_J, sJ_K, sJ_N, sJ_R, sJ_I, sR_K, sR_N, sR_I, sR_J, Option.some.injEq, exists_eq_left', true_and, and_true, and_self_left, Int.toNat_natCast, Int.toNat_zero, Int.reduceToNat, Int.reduceLT, Int.reduceLE, Nat.reduceLeDiff, Nat.reduceLT, Int.cast_ofNat_Int, forall_eq, ge_iff_le, Int.reduceNeg, Int.reduceAdd, Int.reduceSub, Int.reduceMul, Int.reduceEq, r32_0, r32_1, r32_m1, b01_0, b01_1, not_true_eq_false, not_false_eq_true, false_implies, true_implies, implies_true, forall_const]
    rw [b2]
    exact ⟨(by unfold R32; omega), fun _ => h, fun _ => ⟨hx, fun _ => h, fun g => by omega⟩⟩
