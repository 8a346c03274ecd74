/-! bytes -/
def sB (v : Nat) : Int := if v < 128 then (v : Int) else (v : Int) - 256
def byt (v : Int) (j : Nat) : Nat := ((Int32.ofInt v).toBitVec >>> (24 - 8 * j)).toNat % 256
theorem byt_lt (v : Int) (j : Nat) : byt v j < 256 := Nat.mod_lt _ (by decide)
theorem i2B_i (x : Int) : i2B (i2B x) = i2B x := by
  unfold i2B
  rw [Int32.ofInt_toInt, Int8.toInt8_toInt32]
theorem low8 (b : BitVec 32) {s : Nat} (hs : s ≤ 24) : (b.sshiftRight s).setWidth 8 = (b >>> s).setWidth 8 := by
  apply BitVec.eq_of_getLsbD_eq
  intro i hi
  rw [BitVec.getLsbD_setWidth, BitVec.getLsbD_setWidth, BitVec.getLsbD_sshiftRight, BitVec.getLsbD_ushiftRight]
  have h1 : s + i < 32 := by omega
  have h2 : ¬ 32 ≤ i := by omega
  simp [h1, h2]
theorem byt_s {v : Int} {j : Nat} (hj : j < 4) : i2B (i2B (iShr v (24 - 8 * (j : Int)))) = sB (byt v j) := by
  rw [i2B_i]
  have e : (24 - 8 * (j : Int)) = ((24 - 8 * j : Nat) : Int) := by omega
  rw [e]
  unfold i2B iShr
  rw [Int32.ofInt_toInt, q_n, Int8.toInt_toInt32]
  have e2 : (Int32.ofInt v >>> (nI (24 - 8 * j) &&& 31)).toInt8.toBitVec = ((Int32.ofInt v).toBitVec >>> (24 - 8 * j)).setWidth 8 := by
    rw [Int32.toBitVec_toInt8, Int32.toBitVec_shiftRight, BitVec.signExtend_eq_setWidth_of_le _ (by decide)]
    show ((Int32.ofInt v).toBitVec.sshiftRight ((nI (24 - 8 * j) &&& 31).toBitVec.smod 32).toNat).setWidth 8 = _
    rw [q_sl _ (by omega), low8 _ (by omega)]
  show (Int32.ofInt v >>> (nI (24 - 8 * j) &&& 31)).toInt8.toBitVec.toInt = _
  rw [e2, BitVec.toInt_eq_toNat_cond, BitVec.toNat_setWidth]
  unfold sB byt
  generalize ((Int32.ofInt v).toBitVec >>> (24 - 8 * j)).toNat % 2 ^ 8 = q
  split <;> split <;> omega
theorem q_sx : ∀ n, n < 32 → (nI n).toBitVec.toNat = n := by decide +kernel
theorem byt_u {v : Int} {j : Nat} (hj : j < 4) : iAnd (iUshr v (24 - 8 * (j : Int))) 255 = (byt v j : Nat) := by
  have e : (24 - 8 * (j : Int)) = ((24 - 8 * j : Nat) : Int) := by omega
  rw [e]
  unfold iAnd iUshr
  rw [Int32.ofInt_toInt, q_n]
  show (((Int32.ofInt v).toUInt32 >>> ((nI (24 - 8 * j)).toUInt32 &&& Int32.toUInt32 31)).toInt32 &&& Int32.ofInt 255).toBitVec.toInt = _
  rw [Int32.toBitVec_and]
  have e2 : ((Int32.ofInt v).toUInt32 >>> ((nI (24 - 8 * j)).toUInt32 &&& Int32.toUInt32 31)).toInt32.toBitVec = (Int32.ofInt v).toBitVec >>> (24 - 8 * j) := by
    show ((Int32.ofInt v).toUInt32 >>> ((nI (24 - 8 * j)).toUInt32 &&& Int32.toUInt32 31)).toBitVec = _
    rw [UInt32.toBitVec_shiftRight]
    show (Int32.ofInt v).toBitVec >>> (((nI (24 - 8 * j)).toUInt32 &&& Int32.toUInt32 31).toBitVec % 32).toNat = _
    rw [q_su _ (by omega)]
  rw [e2]
  have e3 : ((Int32.ofInt v).toBitVec >>> (24 - 8 * j) &&& (Int32.ofInt 255).toBitVec).toNat = byt v j := by
    rw [BitVec.toNat_and]
    show _ &&& 255 = _
    rw [show (255 : Nat) = 2 ^ 8 - 1 by decide, Nat.and_two_pow_sub_one_eq_mod]
    rfl
  have := byt_lt v j
  rw [BitVec.toInt_eq_toNat_cond, e3, if_pos (by omega)]
/-- the tape -/
def Tp (S : MS) (m : Nat) (tb : Nat → Nat) (len : Nat) : Prop := S.I m 6 = (len : Int) ∧ len ≤ 400 ∧ ∀ i, i < len → tb i < 256 ∧ S.I (m+4) i = sB (tb i)
def fdT (tb : Nat → Nat) (len : Nat) (a : Nat → Int) : Nat → Nat := fun i => if i < len then tb i else byt (a ((i - len) / 4)) ((i - len) % 4)
theorem f_feed {d m len : Nat} {tb : Nat → Nat} {a : Nat → Int} {Q : Out → MS → Prop} (hlen : len + 20 ≤ 400) : ∀ (j : Nat) {S : MS} {k : Nat}, RLay S m → S.I m 6 = (len : Int) → (∀ i, i < 5 → S.I (m+5) i = a i) → k + j = 20 → (∀ i, i < len + k → fdT tb len a i < 256 ∧ S.I (m+4) i = sB (fdT tb len a i)) → (∀ S', Fr m [4] [6] S S' → Tp S' m (fdT tb len a) (len + 20) → Q (.inl (some (vI ((len + 20 : Nat) : Int)))) S') → VX11_feed_60 d Q (j + 1) m (k : Nat) S := by
  intro j
  induction j with
  | zero =>
    intro S k hL h6 ha hk ht h
    have hl := hL
    unfold RLay at hl
    unfold VX11_feed_60
    refine ⟨⟨(by unfold R32; omega), (by unfold R32; omega)⟩, fun _ => ?_, fun c => by omega⟩
    simp only [hl, sI_K, sI_N, sI_R, sI_J, Option.some.injEq, exists_eq_left', true_and, and_true, Int.toNat_zero, Int.reduceToNat, Int.reduceLT, Int.reduceLE, Int.cast_ofNat_Int, forall_eq, ge_iff_le, Int.reduceNeg, Int.reduceAdd, Int.reduceSub, Int.reduceMul, Int.reduceEq, r32_0, r32_1, r32_m1, b01_0, b01_1, not_true_eq_false, not_false_eq_true, false_implies, true_implies, implies_true, forall_const]
    rw [h6, sI_I, if_pos ⟨rfl, rfl⟩]
    refine h _ (Fr.sB (by decide)) ⟨by rw [sI_I, if_pos ⟨rfl, rfl⟩]; omega, hlen, fun i hi => ?_⟩
    rw [sI_Ia (by omega)]
    exact ht i (by omega)
  | succ j ih =>
    intro S k hL h6 ha hk ht h
    have hl := hL
    unfold RLay at hl
    unfold VX11_feed_60
    refine ⟨⟨(by unfold R32; omega), (by unfold R32; omega)⟩, fun _ => by omega, fun c => ?_⟩
    simp only [hl, sI_K, sI_N, sI_R, sI_J, Option.some.injEq, exists_eq_left', true_and, and_true, Int.toNat_zero, Int.reduceToNat, Int.reduceLT, Int.reduceLE, Int.cast_ofNat_Int, forall_eq, ge_iff_le, Int.reduceNeg, Int.reduceAdd, Int.reduceSub, Int.reduceMul, Int.reduceEq, r32_0, r32_1, r32_m1, b01_0, b01_1, not_true_eq_false, not_false_eq_true, false_implies, true_implies, implies_true, forall_const]
    have e4 : (4 : Int) = ((4 : Nat) : Int) := rfl
    rw [h6, e4, iDiv_n (by omega) (by omega), iRem_n (by omega) (by omega), Int.toNat_natCast, ha _ (by omega), byt_s (by omega), show ((len : Int) + (k : Int)).toNat = len + k by omega]
    refine ⟨⟨(by unfold R32; omega), by decide⟩, by omega, ⟨(by unfold R32; omega), by decide⟩, by omega, ih (k := k + 1) (by exact hL) (by rw [sI_Ia (by omega)]; exact h6) (fun i hi => by rw [sI_Ia (by omega)]; exact ha i hi) (by omega) (fun i hi => ?_) (fun S' f => h S' ((Fr.sA (by decide) (by decide)).tr f))⟩
    rw [sI_I]
    by_cases g : i = len + k
    · rw [if_pos ⟨rfl, g⟩]
      unfold fdT
      rw [if_neg (by omega), g, show len + k - len = k by omega]
      exact ⟨byt_lt _ _, rfl⟩
    · rw [if_neg (fun k => g k.2)]
      exact ht i (by omega)
def arg5 (a b c e f : Int) : Nat → Int := fun i => if i = 0 then a else if i = 1 then b else if i = 2 then c else if i = 3 then e else f
theorem c_feed {d m len : Nat} {tb : Nat → Nat} {S : MS} {Q : Out → MS → Prop} {a b c e f : Int} (hd : 1 ≤ d) (hL : RLay S m) (hT : Tp S m tb len) (h0 : 400 < len + 20 → Q (.inl (some (vI (-1)))) (S.setI m 0 0)) (h1 : len + 20 ≤ 400 → ∀ S', Fr m [4, 5] [0, 6] S S' → S'.I m 0 = 0 → Tp S' m (fdT tb len (arg5 a b c e f)) (len + 20) → Q (.inl (some (vI ((len + 20 : Nat) : Int)))) S') : Mw hX11_feed yX11_feed d [vA m, vI a, vI b, vI c, vI e, vI f] S Q := by
  obtain ⟨h6, hlen, ht⟩ := hT
  obtain ⟨dd, rfl⟩ : ∃ e, d = e + 1 := ⟨d - 1, by omega⟩
  refine MX11_feed ?_
  have hl := hL
  unfold RLay at hl
  unfold VX11_feed_0
  simp only [hl, sI_K, sI_N, sI_R, sI_J, Option.some.injEq, exists_eq_left', true_and, and_true, Int.toNat_zero, Int.reduceToNat, Int.reduceLT, Int.reduceLE, Int.cast_ofNat_Int, forall_eq, ge_iff_le, Int.reduceNeg, Int.reduceAdd, Int.reduceSub, Int.reduceMul, Int.reduceEq, r32_0, r32_1, r32_m1, b01_0, b01_1, not_true_eq_false, not_false_eq_true, false_implies, true_implies, implies_true, forall_const]
  rw [sI_I, if_neg (by omega), h6]
  refine ⟨⟨(by unfold R32; omega), (by unfold R32; omega)⟩, fun c1 => ⟨21, ?_⟩, fun c1 => h0 (by omega)⟩
  have f0 : Fr m [4, 5] [0, 6] S ((((((S.setI m 0 0).setI (m+5) 0 a).setI (m+5) 1 b).setI (m+5) 2 c).setI (m+5) 3 e).setI (m+5) 4 f) := (Fr.sB (by decide)).tr ((Fr.sA (by decide) (by decide)).tr ((Fr.sA (by decide) (by decide)).tr ((Fr.sA (by decide) (by decide)).tr ((Fr.sA (by decide) (by decide)).tr (Fr.sA (by decide) (by decide))))))
  refine f_feed (len := len) (tb := tb) (a := arg5 a b c e f) (by omega) 20 (k := 0) (f0.lay hL) ?_ (fun i hi => ?_) (by omega) (fun i hi => ?_) (fun S' f2 k2 => h1 (by omega) S' (f0.tr (f2.wk (by decide) (by decide))) ?_ k2)
  · rw [sI_Ia (by omega), sI_Ia (by omega), sI_Ia (by omega), sI_Ia (by omega), sI_Ia (by omega), sI_I, if_neg (by omega)]; exact h6
  · have : i = 0 ∨ i = 1 ∨ i = 2 ∨ i = 3 ∨ i = 4 := by omega
    rcases this with rfl | rfl | rfl | rfl | rfl <;> simp [sI_I, arg5]
  · have := ht i (by omega)
    unfold fdT
    rw [if_pos (by omega), sI_Ia (by omega), sI_Ia (by omega), sI_Ia (by omega), sI_Ia (by omega), sI_Ia (by omega), sI_Ia (by omega)]
    exact this
  · rw [f2.fld (by decide), sI_Ia (by omega), sI_Ia (by omega), sI_Ia (by omega), sI_Ia (by omega), sI_Ia (by omega), sI_I, if_pos ⟨rfl, rfl⟩]
theorem c_uses {d m : Nat} {S : MS} {Q : Out → MS → Prop} (hd : 1 ≤ d) (hL : RLay S m) (h : ∀ S', Fr m [] [0, 6, 7, 8] S S' → S'.I m 0 = 0 → S'.I m 6 = 0 → S'.I m 7 = 0 → S'.I m 8 = S.I m 6 → Q (.inl none) S') : Mw hX11_uses yX11_uses d [vA m] S Q := by
  obtain ⟨dd, rfl⟩ : ∃ e, d = e + 1 := ⟨d - 1, by omega⟩
  refine MX11_uses ?_
  have hl := hL
  unfold RLay at hl
  unfold VX11_uses_0
  simp only [hl, sI_K, sI_N, sI_R, sI_J, Option.some.injEq, exists_eq_left', true_and, and_true, Int.toNat_zero, Int.reduceToNat, Int.reduceLT, Int.reduceLE, Int.cast_ofNat_Int, forall_eq, ge_iff_le, Int.reduceNeg, Int.reduceAdd, Int.reduceSub, Int.reduceMul, Int.reduceEq, r32_0, r32_1, r32_m1, b01_0, b01_1, not_true_eq_false, not_false_eq_true, false_implies, true_implies, implies_true, forall_const]
  refine h _ ((Fr.sB (by decide)).tr ((Fr.sB (by decide)).tr ((Fr.sB (by decide)).tr (Fr.sB (by decide))))) ?_ ?_ ?_ ?_
  · rw [sI_I, if_neg (by omega), sI_I, if_neg (by omega), sI_I, if_neg (by omega), sI_I, if_pos ⟨rfl, rfl⟩]
  · rw [sI_I, if_neg (by omega), sI_I, if_pos ⟨rfl, rfl⟩]
  · rw [sI_I, if_pos ⟨rfl, rfl⟩]
  · rw [sI_I, if_neg (by omega), sI_I, if_neg (by omega), sI_I, if_pos ⟨rfl, rfl⟩, sI_I, if_neg (by omega)]
