/-! sets of rows as words of bits -/
def wdv (p : Nat → Bool) (w : Nat) : BitVec 64 := BitVec.ofNat 64 (mskN (fun b => p (64 * w + b)) 64)
theorem wdv_bit (p : Nat → Bool) (w b : Nat) : (wdv p w).getLsbD b = (decide (b < 64) && p (64 * w + b)) := by
  unfold wdv
  rw [BitVec.getLsbD_ofNat, mskN_bit]
  by_cases c : b < 64 <;> simp [c]
theorem wdv_eq {p q : Nat → Bool} {v w : Nat} (h : ∀ b, b < 64 → p (64 * v + b) = q (64 * w + b)) : wdv p v = wdv q w := by
  apply BitVec.eq_of_getLsbD_eq
  intro i hi
  rw [wdv_bit, wdv_bit, h i hi]
theorem wdv_and (p q : Nat → Bool) (w : Nat) : wdv p w &&& wdv q w = wdv (fun r => p r && q r) w := by
  apply BitVec.eq_of_getLsbD_eq
  intro i hi
  rw [BitVec.getLsbD_and, wdv_bit, wdv_bit, wdv_bit]
  cases decide (i < 64) <;> simp
theorem wdv_or (p q : Nat → Bool) (w : Nat) : wdv p w ||| wdv q w = wdv (fun r => p r || q r) w := by
  apply BitVec.eq_of_getLsbD_eq
  intro i hi
  rw [BitVec.getLsbD_or, wdv_bit, wdv_bit, wdv_bit]
  cases decide (i < 64) <;> simp
theorem wdv_not (p : Nat → Bool) (w : Nat) : wdv p w ^^^ 18446744073709551615#64 = wdv (fun r => !p r) w := by
  apply BitVec.eq_of_getLsbD_eq
  intro i hi
  have e : (18446744073709551615#64).getLsbD i = true := by
    have : (18446744073709551615#64) = BitVec.allOnes 64 := by decide
    rw [this, BitVec.getLsbD_allOnes]
    simp [hi]
  rw [BitVec.getLsbD_xor, wdv_bit, wdv_bit, e]
  simp [hi]
theorem wdv_no (w : Nat) : wdv (fun _ => false) w = 0#64 := by
  apply BitVec.eq_of_getLsbD_eq
  intro i hi
  rw [wdv_bit]
  simp
theorem wdv_0 {p : Nat → Bool} {w : Nat} : wdv p w = 0#64 ↔ ∀ b, b < 64 → p (64 * w + b) = false := by
  constructor
  · intro h b hb
    have := wdv_bit p w b
    rw [h] at this
    simp [hb] at this
    exact this
  · intro h
    rw [← wdv_no w]
    exact wdv_eq h
theorem lc_wdv (p : Nat → Bool) (w : Nat) : lc (wdv p w) = cntB (fun b => p (64 * w + b)) 64 := by
  unfold lc
  refine cntB_cong (fun i hi => ?_)
  rw [wdv_bit]
  simp [hi]
theorem lCmp_0 {x z : BitVec 64} : R32 (lCmp x z) ∧ (lCmp x z = 0 ↔ x = z) := by
  refine ⟨⟨Int32.le_toInt _, Int32.toInt_lt _⟩, ?_⟩
  unfold lCmp lg_cmp
  have e : Int64.ofBitVec x = Int64.ofBitVec z ↔ x = z := ⟨fun h => congrArg Int64.toBitVec h, fun h => by rw [h]⟩
  by_cases c : x = z
  · subst c
    have : ¬ (Int64.ofBitVec x > Int64.ofBitVec x) := fun h => by
      have := Int64.lt_iff_toInt_lt.mp h
      omega
    rw [if_neg this, if_pos rfl]
    simp
  · rw [if_neg (fun k => c (e.mp k))]
    simp only [c, iff_false]
    split <;> decide
/-- what a change of some addresses leaves -/
def Fi (lo hi : Nat) (S S' : MS) : Prop := S'.K = S.K ∧ S'.N = S.N ∧ S'.R = S.R ∧ S'.T = S.T ∧ S'.nx = S.nx ∧ S'.us = S.us ∧ ∀ a, (a < lo ∨ hi ≤ a) → S'.I a = S.I a ∧ S'.J a = S.J a
theorem Fi.rf {lo hi : Nat} {S : MS} : Fi lo hi S S := ⟨rfl, rfl, rfl, rfl, rfl, rfl, fun _ _ => ⟨rfl, rfl⟩⟩
theorem Fi.tr {lo hi : Nat} {S S1 S2 : MS} (h : Fi lo hi S S1) (k : Fi lo hi S1 S2) : Fi lo hi S S2 :=
  ⟨k.1.trans h.1, k.2.1.trans h.2.1, k.2.2.1.trans h.2.2.1, k.2.2.2.1.trans h.2.2.2.1, k.2.2.2.2.1.trans h.2.2.2.2.1, k.2.2.2.2.2.1.trans h.2.2.2.2.2.1, fun a ha => ⟨(k.2.2.2.2.2.2 a ha).1.trans (h.2.2.2.2.2.2 a ha).1, (k.2.2.2.2.2.2 a ha).2.trans (h.2.2.2.2.2.2 a ha).2⟩⟩
theorem Fi.wk {lo hi lo' hi' : Nat} {S S1 : MS} (h : Fi lo hi S S1) (h1 : lo' ≤ lo) (h2 : hi ≤ hi') : Fi lo' hi' S S1 := ⟨h.1, h.2.1, h.2.2.1, h.2.2.2.1, h.2.2.2.2.1, h.2.2.2.2.2.1, fun a ha => h.2.2.2.2.2.2 a (by omega)⟩
theorem Fi.I {lo hi a : Nat} {S S1 : MS} (h : Fi lo hi S S1) (ha : a < lo ∨ hi ≤ a) : S1.I a = S.I a := (h.2.2.2.2.2.2 a ha).1
theorem Fi.J {lo hi a : Nat} {S S1 : MS} (h : Fi lo hi S S1) (ha : a < lo ∨ hi ≤ a) : S1.J a = S.J a := (h.2.2.2.2.2.2 a ha).2
theorem Fi.sI {lo hi a k : Nat} {v : Int} {S : MS} (ha : lo ≤ a ∧ a < hi) : Fi lo hi S (S.setI a k v) := ⟨rfl, rfl, rfl, rfl, rfl, rfl, fun b hb => ⟨sI_Ia (by omega), rfl⟩⟩
theorem Fi.sJ {lo hi a k : Nat} {v : BitVec 64} {S : MS} (ha : lo ≤ a ∧ a < hi) : Fi lo hi S (S.setJ a k v) := ⟨rfl, rfl, rfl, rfl, rfl, rfl, fun b hb => ⟨rfl, sJ_Ja (by omega)⟩⟩
/-- live words -/
def lvs (p : Nat → Bool) (k : Nat) : List Nat := (List.range k).filter (fun w => decide (wdv p w ≠ 0#64))
def RY (S : MS) (a : Nat) : Prop := S.K a = 5 ∧ S.R a 1 = some (a+1) ∧ S.R a 2 = some (a+2) ∧ S.K (a+1) = 14 ∧ S.N (a+1) = 79 ∧ S.K (a+2) = 13 ∧ S.N (a+2) = 79
def RC (S : MS) (a : Nat) (p : Nat → Bool) : Prop := (∀ w, w < 79 → S.J (a+1) w = wdv p w) ∧ S.I a 3 = ((lvs p 79).length : Nat) ∧ (∀ i, i < (lvs p 79).length → S.I (a+2) i = ((lvs p 79).getD i 0 : Nat)) ∧ S.I a 0 = (cntB p 5056 : Nat)
def RS_ (S : MS) (a : Nat) (p : Nat → Bool) : Prop := RY S a ∧ RC S a p
theorem Fi.ry {lo hi a : Nat} {S S1 : MS} (h : Fi lo hi S S1) (k : RY S a) : RY S1 a := by
  unfold RY
  rw [h.1, h.2.1, h.2.2.1]
  exact k
theorem Fi.rc {lo hi a : Nat} {p : Nat → Bool} {S S1 : MS} (h : Fi lo hi S S1) (ha : a + 3 ≤ lo ∨ hi ≤ a) (k : RC S a p) : RC S1 a p := by
  unfold RC
  rw [h.I (a := a) (by omega), h.I (a := a + 2) (by omega), h.J (a := a + 1) (by omega)]
  exact k
theorem Fi.rs {lo hi a : Nat} {p : Nat → Bool} {S S1 : MS} (h : Fi lo hi S S1) (ha : a + 3 ≤ lo ∨ hi ≤ a) (k : RS_ S a p) : RS_ S1 a p := ⟨h.ry k.1, h.rc ha k.2⟩
theorem RC.cong {S : MS} {a : Nat} {p q : Nat → Bool} (h : RC S a p) (e : ∀ r, p r = q r) : RC S a q := by
  have : p = q := funext e
  rw [← this]
  exact h
theorem lvs_len (p : Nat → Bool) (k : Nat) : (lvs p k).length ≤ k := rng_le _ _
theorem lvs_lt {p : Nat → Bool} {k w : Nat} (h : w ∈ lvs p k) : w < k ∧ wdv p w ≠ 0#64 := by
  unfold lvs at h
  rw [List.mem_filter, List.mem_range] at h
  exact ⟨h.1, by simpa using h.2⟩
theorem lvs_mem {p : Nat → Bool} {k w : Nat} (h : w < k) (h2 : wdv p w ≠ 0#64) : w ∈ lvs p k := by
  unfold lvs
  rw [List.mem_filter, List.mem_range]
  exact ⟨h, by simpa using h2⟩
theorem lvs_s (p : Nat → Bool) (k : Nat) : lvs p (k + 1) = lvs p k ++ (if wdv p k = 0#64 then [] else [k]) := by
  unfold lvs
  rw [List.range_succ, List.filter_append, List.filter_cons, List.filter_nil]
  congr 1
  by_cases c : wdv p k = 0#64
  · rw [if_pos c, if_neg (by simp [c])]
  · rw [if_neg c, if_pos (by simp [c])]
theorem lvs_cong {p q : Nat → Bool} : ∀ {k : Nat}, (∀ w, w < k → wdv p w = wdv q w) → lvs p k = lvs q k
  | 0, _ => rfl
  | k + 1, h => by rw [lvs_s, lvs_s, lvs_cong (k := k) (fun w hw => h w (by omega)), h k (by omega)]
theorem lvs_tail {p : Nat → Bool} {k : Nat} : ∀ j, (∀ w, k ≤ w → w < k + j → wdv p w = 0#64) → lvs p (k + j) = lvs p k
  | 0, _ => rfl
  | j + 1, h => by
    rw [show k + (j + 1) = k + j + 1 by omega, lvs_s, lvs_tail j (fun w h1 h2 => h w h1 (by omega)), if_pos (h (k + j) (by omega) (by omega)), List.append_nil]
/-- the rows of the words below k -/
def cut (p : Nat → Bool) (k : Nat) : Nat → Bool := fun r => decide (r < 64 * k) && p r
theorem wdv_cut (p : Nat → Bool) (k w : Nat) : wdv (cut p k) w = if w < k then wdv p w else 0#64 := by
  by_cases c : w < k
  · rw [if_pos c]
    refine wdv_eq (fun b hb => ?_)
    unfold cut
    rw [decide_eq_true (by omega)]
    rfl
  · rw [if_neg c, wdv_0]
    intro b hb
    unfold cut
    rw [decide_eq_false (by omega)]
    rfl
theorem lvs_cut {p : Nat → Bool} {k : Nat} (hk : k ≤ 79) : lvs (cut p k) 79 = lvs p k := by
  obtain ⟨j, hj⟩ : ∃ j, 79 = k + j := ⟨79 - k, by omega⟩
  rw [hj, lvs_tail (p := cut p k) (k := k) j (fun w h1 h2 => by rw [wdv_cut, if_neg (by omega)])]
  exact lvs_cong (fun w hw => by rw [wdv_cut, if_pos hw])
theorem cnt_cut {p : Nat → Bool} {k : Nat} (hk : k ≤ 79) : cntB (cut p k) 5056 = cntB p (64 * k) := by
  obtain ⟨j, hj⟩ : ∃ j, 5056 = 64 * k + j := ⟨5056 - 64 * k, by omega⟩
  rw [hj, cntB_split, cntB_0 (n := j) (fun i _ => by unfold cut; rw [decide_eq_false (by omega)]; rfl), Nat.add_zero]
  exact cntB_cong (fun i hi => by unfold cut; rw [decide_eq_true hi]; rfl)
theorem cut_same {p : Nat → Bool} {k j : Nat} (h : ∀ w, k ≤ w → w < k + j → wdv p w = 0#64) : cut p (k + j) = cut p k := by
  funext r
  unfold cut
  by_cases c : r < 64 * k
  · rw [decide_eq_true c, decide_eq_true (show r < 64 * (k + j) by omega)]
  · rw [decide_eq_false c]
    by_cases c2 : r < 64 * (k + j)
    · have := wdv_0.mp (h (r / 64) (by omega) (by omega)) (r % 64) (by omega)
      rw [Nat.div_add_mod] at this
      rw [this]
      simp
    · rw [decide_eq_false c2]
theorem cut_all {p : Nat → Bool} (h : ∀ r, 5056 ≤ r → p r = false) : cut p 79 = p := by
  funext r
  unfold cut
  by_cases c : r < 64 * 79
  · rw [decide_eq_true c]; rfl
  · rw [h r (by omega)]; simp
theorem cut_0 (p : Nat → Bool) : cut p 0 = fun _ => false := by
  funext r
  unfold cut
  rw [decide_eq_false (by omega)]
  rfl
theorem c_rAdd {d a k : Nat} {p : Nat → Bool} {v : BitVec 64} {x : Int} {S : MS} {Q : Out → MS → Prop} (hd : 2 ≤ d) (hR : RS_ S a (cut p k)) (hx : x = (k : Int)) (hk : k < 79) (hv : v = wdv p k) (h : ∀ S', Fi a (a+3) S S' → RS_ S' a (cut p (k + 1)) → Q (.inl none) S') : Mw hX5_add yX5_add d [vA a, vI x, vL v] S Q := by
  subst hx hv
  obtain ⟨hY, b1, b2, b3, b4⟩ := hR
  rw [lvs_cut (by omega)] at b2 b3
  rw [cnt_cut (by omega)] at b4
  have hlen := lvs_len p k
  have hl := hY
  unfold RY at hl
  have c0 := lCmp_0 (x := wdv p k) (z := 0#64)
  obtain ⟨dd, rfl⟩ : ∃ e, d = e + 1 := ⟨d - 1, by omega⟩
  refine MX5_add ?_
  unfold VX5_add_0
  refine ⟨c0.1, fun c => ?_, fun c => ?_⟩
  · have e := cut_same (p := p) (k := k) (j := 1) (fun w h1 h2 => by rw [show w = k by omega]; exact c0.2.mp c)
    refine h S Fi.rf ⟨hY, ?_⟩
    rw [e]
    exact ⟨b1, by rw [lvs_cut (by omega)]; exact b2, by rw [lvs_cut (by omega)]; exact b3, by rw [cnt_cut (by omega)]; exact b4⟩
  · have nz : wdv p k ≠ 0#64 := fun e => c (c0.2.mpr e)
    simp only [hl, sI_K, sI_N, sI_R, sI_J, sJ_K, sJ_N, sJ_R, sJ_I, sR_K, sR_N, sR_I, sR_J, Option.some.injEq, exists_eq_left', true_and, and_true, and_self_left, Int.toNat_natCast, Int.toNat_zero, Int.reduceToNat, Int.reduceLT, Int.reduceLE, Nat.reduceLeDiff, Nat.reduceLT, Int.cast_ofNat_Int, forall_eq, ge_iff_le, Int.reduceNeg, Int.reduceAdd, Int.reduceSub, Int.reduceMul, Int.reduceEq, r32_0, r32_1, r32_m1, b01_0, b01_1, not_true_eq_false, not_false_eq_true, false_implies, true_implies, implies_true, forall_const]
    rw [b2]
    refine ⟨(by unfold R32; omega), fun c => by omega, fun _ => ⟨⟨(by unfold R32; omega), (by unfold R32; omega)⟩, fun c => by omega, fun _ => ⟨⟨(by unfold R32; omega), (by unfold R32; omega)⟩, fun c => by omega, fun _ => ?_⟩⟩⟩
    rw [show (((S.setJ (a+1) k (wdv p k)).setI (a+2) ((lvs p k).length : Int).toNat (k : Int)).I a 3) = ((lvs p k).length : Int) by rw [sI_Ia (by omega)]; exact b2, Int.toNat_natCast]
    refine ⟨by omega, by omega, c_lbits (by omega) (oI_i ⟨hY.1, ?_⟩)⟩
    rw [show ((((S.setJ (a+1) k (wdv p k)).setI (a+2) (lvs p k).length (k : Int)).setI a 3 (((lvs p k).length : Int) + 1)).I a 0) = (cntB p (64 * k) : Int) by rw [sI_I, if_neg (by omega), sI_Ia (by omega)]; exact b4]
    refine h _ ((Fi.sJ (by omega)).tr ((Fi.sI (by omega)).tr ((Fi.sI (by omega)).tr (Fi.sI (by omega))))) ⟨by exact hY, fun w hw => ?_, ?_, fun i hi => ?_, ?_⟩
    · rw [sI_J, sI_J, sI_J, sJ_J, wdv_cut]
      by_cases e : w = k
      · rw [if_pos ⟨rfl, e⟩, if_pos (by omega), e]
      · rw [if_neg (fun k => e k.2), b1 w hw, wdv_cut]
        by_cases e2 : w < k
        · rw [if_pos e2, if_pos (by omega)]
        · rw [if_neg e2, if_neg (by omega)]
    · rw [sI_I, if_neg (by omega), sI_I, if_pos ⟨rfl, rfl⟩, lvs_cut (by omega), lvs_s, if_neg nz, List.length_append]
      rfl
    · rw [lvs_cut (by omega), lvs_s, if_neg nz] at hi ⊢
      rw [List.length_append, List.length_singleton] at hi
      rw [sI_Ia (by omega), sI_Ia (by omega), sI_I, List.getD_eq_getElem?_getD]
      by_cases e : i = (lvs p k).length
      · rw [if_pos ⟨rfl, e⟩, e, List.getElem?_append_right (Nat.le_refl _), Nat.sub_self]
        rfl
      · rw [if_neg (fun k => e k.2), List.getElem?_append_left (by omega), ← List.getD_eq_getElem?_getD]
        exact b3 i (by omega)
    · rw [sI_I, if_pos ⟨rfl, rfl⟩, cnt_cut (by omega), lc_wdv, show 64 * (k + 1) = 64 * k + 64 by omega, cntB_split]
      rw [Int.natCast_add]
theorem f_rClear {d a : Nat} {p : Nat → Bool} {Q : Out → MS → Prop} : ∀ (j : Nat) {S : MS} {i : Nat}, RY S a → i + j = (lvs p 79).length → S.I a 3 = ((lvs p 79).length : Nat) → (∀ q, q < (lvs p 79).length → S.I (a+2) q = ((lvs p 79).getD q 0 : Nat)) → (∀ w, w < 79 → S.J (a+1) w = if w ∈ (lvs p 79).take i then 0#64 else wdv p w) → (∀ S', Fi a (a+3) S S' → RS_ S' a (fun _ => false) → Q (.inl none) S') → VX5_clear_2 d Q (j + 1) a (i : Nat) S := by
  have hlen := lvs_len p 79
  intro j
  induction j with
  | zero =>
    intro S i hY hi h3 h2 h1 h
    have hl := hY
    unfold RY at hl
    unfold VX5_clear_2
    simp only [hl, sI_K, sI_N, sI_R, sI_J, sJ_K, sJ_N, sJ_R, sJ_I, sR_K, sR_N, sR_I, sR_J, Option.some.injEq, exists_eq_left', true_and, and_true, and_self_left, Int.toNat_natCast, Int.toNat_zero, Int.reduceToNat, Int.reduceLT, Int.reduceLE, Nat.reduceLeDiff, Nat.reduceLT, Int.cast_ofNat_Int, forall_eq, ge_iff_le, Int.reduceNeg, Int.reduceAdd, Int.reduceSub, Int.reduceMul, Int.reduceEq, r32_0, r32_1, r32_m1, b01_0, b01_1, not_true_eq_false, not_false_eq_true, false_implies, true_implies, implies_true, forall_const]
    rw [h3]
    refine ⟨⟨(by unfold R32; omega), (by unfold R32; omega)⟩, fun _ => h _ ((Fi.sI (by omega)).tr (Fi.sI (by omega))) ⟨by exact hY, fun w hw => ?_, ?_, fun i hi => ?_, ?_⟩, fun c => by omega⟩
    · rw [sI_J, sI_J, h1 w hw, wdv_no, show i = (lvs p 79).length by omega, List.take_length]
      by_cases e : w ∈ lvs p 79
      · rw [if_pos e]
      · rw [if_neg e]
        apply Classical.byContradiction
        intro c
        exact e (lvs_mem hw c)
    · rw [sI_I, if_pos ⟨rfl, rfl⟩]
      have : lvs (fun _ => false) 79 = [] := by
        have := lvs_tail (p := fun _ => false) (k := 0) 79 (fun w _ _ => wdv_no w)
        rw [Nat.zero_add] at this
        exact this
      rw [this]
      rfl
    · have : lvs (fun _ => false) 79 = [] := by
        have := lvs_tail (p := fun _ => false) (k := 0) 79 (fun w _ _ => wdv_no w)
        rw [Nat.zero_add] at this
        exact this
      rw [this] at hi
      exact absurd hi (Nat.not_lt_zero i)
    · rw [sI_I, if_neg (by omega), sI_I, if_pos ⟨rfl, rfl⟩, cntB_0 (fun _ _ => rfl)]
      rfl
  | succ j ih =>
    intro S i hY hi h3 h2 h1 h
    have hl := hY
    unfold RY at hl
    have hwi := lvs_lt (getD_mem (L := lvs p 79) (k := i) (by omega))
    unfold VX5_clear_2
    simp only [hl, sI_K, sI_N, sI_R, sI_J, sJ_K, sJ_N, sJ_R, sJ_I, sR_K, sR_N, sR_I, sR_J, Option.some.injEq, exists_eq_left', true_and, and_true, and_self_left, Int.toNat_natCast, Int.toNat_zero, Int.reduceToNat, Int.reduceLT, Int.reduceLE, Nat.reduceLeDiff, Nat.reduceLT, Int.cast_ofNat_Int, forall_eq, ge_iff_le, Int.reduceNeg, Int.reduceAdd, Int.reduceSub, Int.reduceMul, Int.reduceEq, r32_0, r32_1, r32_m1, b01_0, b01_1, not_true_eq_false, not_false_eq_true, false_implies, true_implies, implies_true, forall_const]
    rw [h3, h2 i (by omega), Int.toNat_natCast]
    refine ⟨⟨(by unfold R32; omega), (by unfold R32; omega)⟩, fun _ => by omega, fun _ => ⟨by omega, by omega, ih (i := i + 1) (by exact hY) (by omega) (by exact h3) (by exact h2) (fun w hw => ?_) (fun S' f => h S' ((Fi.sJ (by omega)).tr f))⟩⟩
    rw [sJ_J, take_s (by omega)]
    by_cases e : w = (lvs p 79).getD i 0
    · rw [if_pos ⟨rfl, e⟩, if_pos (by rw [e]; exact List.mem_append_right _ (List.mem_singleton.mpr rfl))]
    · rw [if_neg (fun k => e k.2), h1 w hw]
      by_cases e2 : w ∈ (lvs p 79).take i
      · rw [if_pos e2, if_pos (List.mem_append_left _ e2)]
      · rw [if_neg e2, if_neg]
        intro g
        rcases List.mem_append.mp g with g | g
        · exact e2 g
        · exact e (List.mem_singleton.mp g)
theorem c_rClear {d a : Nat} {p : Nat → Bool} {S : MS} {Q : Out → MS → Prop} (hd : 1 ≤ d) (hR : RS_ S a p) (h : ∀ S', Fi a (a+3) S S' → RS_ S' a (fun _ => false) → Q (.inl none) S') : Mw hX5_clear yX5_clear d [vA a] S Q := by
  obtain ⟨hY, b1, b2, b3, b4⟩ := hR
  obtain ⟨dd, rfl⟩ : ∃ e, d = e + 1 := ⟨d - 1, by omega⟩
  refine MX5_clear ?_
  unfold VX5_clear_0
  exact ⟨_, f_rClear (p := p) (lvs p 79).length (i := 0) hY (by omega) b2 b3 (fun w hw => by rw [b1 w hw, List.take_zero, if_neg (by simp)]) h⟩
/-- an array of bits of rows -/
def LA (S : MS) (b W : Nat) (q : Nat → Bool) : Prop := S.K b = 14 ∧ S.N b = W ∧ ∀ w, w < W → S.J b w = wdv q w
theorem Fi.la {lo hi b W : Nat} {q : Nat → Bool} {S S1 : MS} (h : Fi lo hi S S1) (hb : b < lo ∨ hi ≤ b) (k : LA S b W q) : LA S1 b W q := by
  unfold LA
  rw [h.1, h.2.1, h.J hb]
  exact k
/-- words between two live ones hold nothing -/
theorem lvs_gap {p : Nat → Bool} {k i : Nat} (h : i + 1 < (lvs p k).length) : (lvs p k).getD i 0 < (lvs p k).getD (i + 1) 0 ∧ ∀ w, (lvs p k).getD i 0 < w → w < (lvs p k).getD (i + 1) 0 → wdv p w = 0#64 := by
  have hs : (lvs p k).Pairwise (· < ·) := List.Pairwise.filter _ List.pairwise_lt_range
  have e : ∀ {j}, (hj : j < (lvs p k).length) → (lvs p k).getD j 0 = (lvs p k)[j] := fun hj => by rw [List.getD_eq_getElem?_getD, List.getElem?_eq_getElem hj]; rfl
  have pw := List.pairwise_iff_getElem.mp hs
  rw [e (by omega), e h]
  refine ⟨pw i (i + 1) (by omega) h (by omega), fun w h1 h2 => ?_⟩
  apply Classical.byContradiction
  intro c
  have hk := (lvs_lt (List.getElem_mem h)).1
  obtain ⟨j, hj, ej⟩ := List.getElem_of_mem (lvs_mem (p := p) (k := k) (w := w) (by omega) c)
  rcases Nat.lt_trichotomy j (i + 1) with g | g | g
  · rcases Nat.lt_trichotomy j i with g2 | g2 | g2
    · have := pw j i hj (by omega) g2; omega
    · subst g2; omega
    · omega
  · subst g; omega
  · have := pw (i + 1) j h hj g; omega
theorem lvs_first {p : Nat → Bool} {k : Nat} (h : 0 < (lvs p k).length) : ∀ w, w < (lvs p k).getD 0 0 → wdv p w = 0#64 := by
  have hs : (lvs p k).Pairwise (· < ·) := List.Pairwise.filter _ List.pairwise_lt_range
  have pw := List.pairwise_iff_getElem.mp hs
  intro w hw
  rw [List.getD_eq_getElem?_getD, List.getElem?_eq_getElem h] at hw
  have hw' : w < (lvs p k)[0] := hw
  apply Classical.byContradiction
  intro c
  have hk := (lvs_lt (List.getElem_mem h)).1
  obtain ⟨j, hj, ej⟩ := List.getElem_of_mem (lvs_mem (p := p) (k := k) (w := w) (by omega) c)
  rcases Nat.eq_zero_or_pos j with g | g
  · subst g; omega
  · have := pw 0 j h hj g; omega
theorem lvs_last {p : Nat → Bool} {k i : Nat} (h : i + 1 = (lvs p k).length) : ∀ w, (lvs p k).getD i 0 < w → w < k → wdv p w = 0#64 := by
  have hs : (lvs p k).Pairwise (· < ·) := List.Pairwise.filter _ List.pairwise_lt_range
  have pw := List.pairwise_iff_getElem.mp hs
  intro w h1 h2
  rw [List.getD_eq_getElem?_getD, List.getElem?_eq_getElem (by omega)] at h1
  have h1' : (lvs p k)[i] < w := h1
  apply Classical.byContradiction
  intro c
  obtain ⟨j, hj, ej⟩ := List.getElem_of_mem (lvs_mem (p := p) (k := k) (w := w) h2 c)
  rcases Nat.lt_trichotomy j i with g | g | g
  · have := pw j i hj (by omega) g; omega
  · subst g; omega
  · omega
/-- where the i-th live word lies, or the end -/
def lvE (p : Nat → Bool) (i : Nat) : Nat := if i < (lvs p 79).length then (lvs p 79).getD i 0 else 79
theorem lvE_0 {p q : Nat → Bool} (hq : ∀ r, q r = true → p r = true) : cut q (lvE p 0) = fun _ => false := by
  have z : ∀ w, w < lvE p 0 → wdv q w = 0#64 := by
    intro w hw
    unfold lvE at hw
    have : wdv p w = 0#64 := by
      by_cases c : 0 < (lvs p 79).length
      · rw [if_pos c] at hw; exact lvs_first c w hw
      · rw [if_neg c] at hw
        apply Classical.byContradiction
        intro g
        have := lvs_mem (p := p) hw g
        rw [List.eq_nil_of_length_eq_zero (by omega : (lvs p 79).length = 0)] at this
        exact absurd this (by simp)
    rw [wdv_0] at this ⊢
    intro b hb
    have t := this b hb
    cases e : q (64 * w + b)
    · rfl
    · rw [hq _ e] at t; exact absurd t (by decide)
  have := cut_same (p := q) (k := 0) (j := lvE p 0) (fun w _ h => z w (by omega))
  rw [Nat.zero_add] at this
  rw [this, cut_0]
theorem lvE_s {p q : Nat → Bool} {i : Nat} (hq : ∀ r, q r = true → p r = true) (hi : i < (lvs p 79).length) : lvE p i = (lvs p 79).getD i 0 ∧ lvE p i < 79 ∧ cut q (lvE p i + 1) = cut q (lvE p (i + 1)) := by
  have e0 : lvE p i = (lvs p 79).getD i 0 := by unfold lvE; rw [if_pos hi]
  have h79 := (lvs_lt (getD_mem hi)).1
  refine ⟨e0, by omega, ?_⟩
  have z : ∀ w, lvE p i + 1 ≤ w → w < lvE p (i + 1) → wdv q w = 0#64 := by
    intro w h1 h2
    have : wdv p w = 0#64 := by
      unfold lvE at h2
      by_cases c : i + 1 < (lvs p 79).length
      · rw [if_pos c] at h2
        exact (lvs_gap c).2 w (by omega) h2
      · rw [if_neg c] at h2
        exact lvs_last (i := i) (by omega) w (by omega) h2
    rw [wdv_0] at this ⊢
    intro b hb
    have t := this b hb
    cases e : q (64 * w + b)
    · rfl
    · rw [hq _ e] at t; exact absurd t (by decide)
  have hle : lvE p i + 1 ≤ lvE p (i + 1) := by
    unfold lvE at e0 ⊢
    by_cases c : i + 1 < (lvs p 79).length
    · rw [if_pos c, if_pos hi]
      have := (lvs_gap c).1
      omega
    · rw [if_neg c, if_pos hi]
      omega
  obtain ⟨j, hj⟩ : ∃ j, lvE p (i + 1) = lvE p i + 1 + j := ⟨lvE p (i + 1) - (lvE p i + 1), by omega⟩
  rw [hj]
  exact (cut_same (fun w h1 h2 => z w h1 (by omega))).symm
theorem f_rCopy {d a b : Nat} {p : Nat → Bool} {Q : Out → MS → Prop} (hd : 2 ≤ d) (hab : a + 3 ≤ b ∨ b + 3 ≤ a) (hp : ∀ r, 5056 ≤ r → p r = false) : ∀ (j : Nat) {S : MS} {i : Nat}, RS_ S b p → RS_ S a (cut p (lvE p i)) → i + j = (lvs p 79).length → (∀ S', Fi a (a+3) S S' → RS_ S' a p → Q (.inl none) S') → VX5_copy_6 d Q (j + 1) a b (i : Nat) S := by
  have hlen := lvs_len p 79
  intro j
  induction j with
  | zero =>
    intro S i hB hA hi h
    have hl := hB.1
    unfold RY at hl
    unfold VX5_copy_6
    simp only [hl, sI_K, sI_N, sI_R, sI_J, sJ_K, sJ_N, sJ_R, sJ_I, sR_K, sR_N, sR_I, sR_J, Option.some.injEq, exists_eq_left', true_and, and_true, and_self_left, Int.toNat_natCast, Int.toNat_zero, Int.reduceToNat, Int.reduceLT, Int.reduceLE, Nat.reduceLeDiff, Nat.reduceLT, Int.cast_ofNat_Int, forall_eq, ge_iff_le, Int.reduceNeg, Int.reduceAdd, Int.reduceSub, Int.reduceMul, Int.reduceEq, r32_0, r32_1, r32_m1, b01_0, b01_1, not_true_eq_false, not_false_eq_true, false_implies, true_implies, implies_true, forall_const]
    rw [hB.2.2.1]
    have : lvE p i = 79 := by unfold lvE; rw [if_neg (by omega)]
    rw [this, cut_all hp] at hA
    exact ⟨⟨(by unfold R32; omega), (by unfold R32; omega)⟩, fun _ => h S Fi.rf hA, fun c => by omega⟩
  | succ j ih =>
    intro S i hB hA hi h
    have hl := hB.1
    unfold RY at hl
    obtain ⟨e1, e2, e3⟩ := lvE_s (p := p) (q := p) (i := i) (fun r h => h) (by omega)
    unfold VX5_copy_6
    simp only [hl, sI_K, sI_N, sI_R, sI_J, sJ_K, sJ_N, sJ_R, sJ_I, sR_K, sR_N, sR_I, sR_J, Option.some.injEq, exists_eq_left', true_and, and_true, and_self_left, Int.toNat_natCast, Int.toNat_zero, Int.reduceToNat, Int.reduceLT, Int.reduceLE, Nat.reduceLeDiff, Nat.reduceLT, Int.cast_ofNat_Int, forall_eq, ge_iff_le, Int.reduceNeg, Int.reduceAdd, Int.reduceSub, Int.reduceMul, Int.reduceEq, r32_0, r32_1, r32_m1, b01_0, b01_1, not_true_eq_false, not_false_eq_true, false_implies, true_implies, implies_true, forall_const]
    rw [hB.2.2.1, hB.2.2.2.1 i (by omega), Int.toNat_natCast, ← e1, hB.2.1 _ e2]
    refine ⟨⟨(by unfold R32; omega), (by unfold R32; omega)⟩, fun _ => by omega, fun _ => ⟨by omega, by omega, hA.1.1, c_rAdd (k := lvE p i) (p := p) hd hA rfl e2 rfl (fun S1 f1 r1 => oV_i ?_)⟩⟩
    rw [e3] at r1
    exact ih (i := i + 1) (f1.rs (by omega) hB) r1 (by omega) (fun S' f2 => h S' (f1.tr f2))
theorem c_rCopy {d a b : Nat} {p q : Nat → Bool} {S : MS} {Q : Out → MS → Prop} (hd : 3 ≤ d) (hab : a + 3 ≤ b ∨ b + 3 ≤ a) (hp : ∀ r, 5056 ≤ r → p r = false) (hB : RS_ S b p) (hA : RS_ S a q) (h : ∀ S', Fi a (a+3) S S' → RS_ S' a p → Q (.inl none) S') : Mw hX5_copy yX5_copy d [vA a, vA b] S Q := by
  obtain ⟨dd, rfl⟩ : ∃ e, d = e + 1 := ⟨d - 1, by omega⟩
  refine MX5_copy ?_
  unfold VX5_copy_0
  refine ⟨hA.1.1, c_rClear (by omega) hA (fun S1 f1 r1 => oV_i ⟨_, f_rCopy (p := p) (by omega) hab hp (lvs p 79).length (i := 0) (f1.rs (by omega) hB) (by rw [lvE_0 (fun r h => h)]; exact r1) (by omega) (fun S' f2 => h S' (f1.tr f2))⟩)⟩
theorem f_rTake {d a b c W : Nat} {p q : Nat → Bool} {Q : Out → MS → Prop} (hd : 2 ≤ d) (hab : a + 3 ≤ b ∨ b + 3 ≤ a) (hac : c < a ∨ a + 3 ≤ c) (hW : W ≤ 79) (hp : ∀ r, 64 * W ≤ r → p r = false) : ∀ (j : Nat) {S : MS} {i : Nat}, RS_ S b p → LA S c W q → RS_ S a (cut (fun r => p r && q r) (lvE p i)) → i + j = (lvs p 79).length → (∀ S', Fi a (a+3) S S' → RS_ S' a (fun r => p r && q r) → Q (.inl none) S') → VX5_take_6 d Q (j + 1) a b c (i : Nat) S := by
  have hlen := lvs_len p 79
  have hq : ∀ r, (p r && q r) = true → p r = true := fun r h => by rw [Bool.and_eq_true] at h; exact h.1
  intro j
  induction j with
  | zero =>
    intro S i hB hC hA hi h
    have hl := hB.1
    unfold RY at hl
    unfold VX5_take_6
    simp only [hl, sI_K, sI_N, sI_R, sI_J, sJ_K, sJ_N, sJ_R, sJ_I, sR_K, sR_N, sR_I, sR_J, Option.some.injEq, exists_eq_left', true_and, and_true, and_self_left, Int.toNat_natCast, Int.toNat_zero, Int.reduceToNat, Int.reduceLT, Int.reduceLE, Nat.reduceLeDiff, Nat.reduceLT, Int.cast_ofNat_Int, forall_eq, ge_iff_le, Int.reduceNeg, Int.reduceAdd, Int.reduceSub, Int.reduceMul, Int.reduceEq, r32_0, r32_1, r32_m1, b01_0, b01_1, not_true_eq_false, not_false_eq_true, false_implies, true_implies, implies_true, forall_const]
    rw [hB.2.2.1]
    have : lvE p i = 79 := by unfold lvE; rw [if_neg (by omega)]
    rw [this, cut_all (fun r hr => by rw [hp r (by omega)]; rfl)] at hA
    exact ⟨⟨(by unfold R32; omega), (by unfold R32; omega)⟩, fun _ => h S Fi.rf hA, fun c => by omega⟩
  | succ j ih =>
    intro S i hB hC hA hi h
    have hl := hB.1
    unfold RY at hl
    obtain ⟨e1, e2, e3⟩ := lvE_s (p := p) (q := fun r => p r && q r) (i := i) hq (by omega)
    have hwW : lvE p i < W := by
      have := (lvs_lt (getD_mem (L := lvs p 79) (k := i) (by omega))).2
      rw [← e1] at this
      rcases Nat.lt_or_ge (lvE p i) W with g | g
      · exact g
      · exact absurd (wdv_0.mpr (fun b _ => hp _ (by omega))) this
    obtain ⟨k1, k2, k3⟩ := hC
    unfold VX5_take_6 VX5_take_48
    simp only [hl, sI_K, sI_N, sI_R, sI_J, sJ_K, sJ_N, sJ_R, sJ_I, sR_K, sR_N, sR_I, sR_J, Option.some.injEq, exists_eq_left', true_and, and_true, and_self_left, Int.toNat_natCast, Int.toNat_zero, Int.reduceToNat, Int.reduceLT, Int.reduceLE, Nat.reduceLeDiff, Nat.reduceLT, Int.cast_ofNat_Int, forall_eq, ge_iff_le, Int.reduceNeg, Int.reduceAdd, Int.reduceSub, Int.reduceMul, Int.reduceEq, r32_0, r32_1, r32_m1, b01_0, b01_1, not_true_eq_false, not_false_eq_true, false_implies, true_implies, implies_true, forall_const]
    rw [hB.2.2.1, hB.2.2.2.1 i (by omega), Int.toNat_natCast, ← e1, hB.2.1 _ e2, k1, k2, k3 _ hwW, wdv_and]
    refine ⟨⟨(by unfold R32; omega), (by unfold R32; omega)⟩, fun _ => by omega, fun _ => ⟨by omega, by omega, ⟨(by unfold R32; omega), (by unfold R32; omega)⟩, fun c => by omega, fun _ => ⟨by omega, ⟨rfl, by omega⟩, hA.1.1, c_rAdd (k := lvE p i) (p := fun r => p r && q r) hd hA rfl e2 rfl (fun S1 f1 r1 => oV_i ?_)⟩⟩⟩
    rw [e3] at r1
    exact ih (i := i + 1) (f1.rs (by omega) hB) (f1.la (by omega) ⟨k1, k2, k3⟩) r1 (by omega) (fun S' f2 => h S' (f1.tr f2))
theorem c_rTake {d a b c W : Nat} {p q p0 : Nat → Bool} {S : MS} {Q : Out → MS → Prop} (hd : 3 ≤ d) (hab : a + 3 ≤ b ∨ b + 3 ≤ a) (hac : c < a ∨ a + 3 ≤ c) (hW : W ≤ 79) (hp : ∀ r, 64 * W ≤ r → p r = false) (hB : RS_ S b p) (hC : LA S c W q) (hA : RS_ S a p0) (h : ∀ S', Fi a (a+3) S S' → RS_ S' a (fun r => p r && q r) → Q (.inl none) S') : Mw hX5_take yX5_take d [vA a, vA b, vA c] S Q := by
  have hq : ∀ r, (p r && q r) = true → p r = true := fun r h => by rw [Bool.and_eq_true] at h; exact h.1
  obtain ⟨dd, rfl⟩ : ∃ e, d = e + 1 := ⟨d - 1, by omega⟩
  refine MX5_take ?_
  unfold VX5_take_0
  exact ⟨hA.1.1, c_rClear (by omega) hA (fun S1 f1 r1 => oV_i ⟨_, f_rTake (p := p) (q := q) (by omega) hab hac hW hp (lvs p 79).length (i := 0) (f1.rs (by omega) hB) (f1.la (by omega) hC) (by rw [lvE_0 hq]; exact r1) (by omega) (fun S' f2 => h S' (f1.tr f2))⟩)⟩
theorem f_rCopyAll {d a b W : Nat} {p : Nat → Bool} {Q : Out → MS → Prop} (hd : 2 ≤ d) (hab : b < a ∨ a + 3 ≤ b) (hW : W ≤ 79) (hp : ∀ r, 64 * W ≤ r → p r = false) : ∀ (j : Nat) {S : MS} {i : Nat}, LA S b W p → RS_ S a (cut p i) → i + j = W → (∀ S', Fi a (a+3) S S' → RS_ S' a p → Q (.inl none) S') → VX5_copyAll_6 d Q (j + 1) a b (i : Nat) S := by
  intro j
  induction j with
  | zero =>
    intro S i hB hA hi h
    unfold VX5_copyAll_6
    rw [hB.1, hB.2.1]
    have e : cut p i = p := by
      funext r
      unfold cut
      by_cases c : r < 64 * i
      · rw [decide_eq_true c]; rfl
      · rw [hp r (by omega)]; simp
    rw [e] at hA
    exact ⟨by omega, ⟨(by unfold R32; omega), (by unfold R32; omega)⟩, fun _ => h S Fi.rf hA, fun c => by omega⟩
  | succ j ih =>
    intro S i hB hA hi h
    unfold VX5_copyAll_6
    rw [hB.1, hB.2.1, Int.toNat_natCast, hB.2.2 i (by omega)]
    exact ⟨by omega, ⟨(by unfold R32; omega), (by unfold R32; omega)⟩, fun _ => by omega, fun _ => ⟨by omega, hA.1.1, c_rAdd (k := i) (p := p) hd hA rfl (by omega) rfl (fun S1 f1 r1 => oV_i (ih (i := i + 1) (f1.la (by omega) hB) r1 (by omega) (fun S' f2 => h S' (f1.tr f2))))⟩⟩
theorem c_rCopyAll {d a b W : Nat} {p q : Nat → Bool} {S : MS} {Q : Out → MS → Prop} (hd : 3 ≤ d) (hab : b < a ∨ a + 3 ≤ b) (hW : W ≤ 79) (hp : ∀ r, 64 * W ≤ r → p r = false) (hB : LA S b W p) (hA : RS_ S a q) (h : ∀ S', Fi a (a+3) S S' → RS_ S' a p → Q (.inl none) S') : Mw hX5_copyAll yX5_copyAll d [vA a, vA b] S Q := by
  obtain ⟨dd, rfl⟩ : ∃ e, d = e + 1 := ⟨d - 1, by omega⟩
  refine MX5_copyAll ?_
  unfold VX5_copyAll_0
  exact ⟨hA.1.1, c_rClear (by omega) hA (fun S1 f1 r1 => oV_i ⟨_, f_rCopyAll (p := p) (by omega) hab hW hp W (i := 0) (f1.la (by omega) hB) (by rw [cut_0]; exact r1) (by omega) (fun S' f2 => h S' (f1.tr f2))⟩)⟩
