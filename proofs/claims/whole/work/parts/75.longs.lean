/-! longs as sets of bits -/
theorem q_su6 : ∀ n : Nat, n < 64 → (((Int32.ofInt (n : Int)).toInt64.toUInt64 &&& Int64.toUInt64 63).toBitVec % 64).toNat = n := by decide +kernel
theorem q_sl6 : ∀ n : Nat, n < 64 → (((Int32.ofInt (n : Int)).toInt64 &&& 63).toBitVec.smod 64).toNat = n := by decide +kernel
theorem lUshr_n (x : BitVec 64) {k : Nat} (hk : k < 64) : lUshr x (k : Int) = x >>> k := by
  unfold lUshr
  show ((Int64.ofBitVec x).toUInt64 >>> ((Int32.ofInt (k : Int)).toInt64.toUInt64 &&& Int64.toUInt64 63)).toBitVec = _
  rw [UInt64.toBitVec_shiftRight]
  show x >>> (((Int32.ofInt (k : Int)).toInt64.toUInt64 &&& Int64.toUInt64 63).toBitVec % 64).toNat = _
  rw [q_su6 k hk]
theorem lShl_n (x : BitVec 64) {k : Nat} (hk : k < 64) : lShl x (k : Int) = x <<< k := by
  unfold lShl
  rw [Int64.toBitVec_shiftLeft]
  show x <<< (((Int32.ofInt (k : Int)).toInt64 &&& 63).toBitVec.smod 64).toNat = _
  rw [q_sl6 k hk]
theorem l2I_n {x : BitVec 64} : iAnd (l2I x) 127 = ((x.toNat % 128 : Nat) : Int) := by
  unfold iAnd l2I
  rw [Int32.ofInt_toInt]
  show ((Int64.ofBitVec x).toInt32 &&& Int32.ofInt 127).toBitVec.toInt = _
  rw [Int32.toBitVec_and]
  have e : ((Int64.ofBitVec x).toInt32.toBitVec &&& (Int32.ofInt 127).toBitVec).toNat = x.toNat % 128 := by
    rw [BitVec.toNat_and]
    show _ &&& 127 = _
    rw [show (127 : Nat) = 2 ^ 7 - 1 by decide, Nat.and_two_pow_sub_one_eq_mod, Int64.toBitVec_toInt32, BitVec.signExtend_eq_setWidth_of_le _ (by decide), BitVec.toNat_setWidth]
    show x.toNat % 2 ^ 32 % 2 ^ 7 = _
    omega
  have := Nat.mod_lt x.toNat (show 0 < 128 by decide)
  rw [BitVec.toInt_eq_toNat_cond, e, if_pos (by omega)]
/-- bytes of a number -/
def N8 (f : Nat → Nat) : Nat → Nat
  | 0 => 0
  | k + 1 => N8 f k + f k * 256 ^ k
theorem N8_lt {f : Nat → Nat} (h : ∀ i, f i < 256) : ∀ k, N8 f k < 256 ^ k
  | 0 => by unfold N8; decide
  | k + 1 => by
    have h1 := N8_lt h k
    have h2 := h k
    unfold N8
    rw [Nat.pow_succ]
    have : f k * 256 ^ k ≤ 255 * 256 ^ k := Nat.mul_le_mul_right _ (by omega)
    omega
theorem p256 (k : Nat) : 256 ^ k = 2 ^ (8 * k) := by rw [show 256 = 2 ^ 8 by decide, ← Nat.pow_mul]
theorem tb_N8 {f : Nat → Nat} (h : ∀ i, f i < 256) : ∀ (k i j : Nat), j < 8 → (N8 f k).testBit (8 * i + j) = (decide (i < k) && (f i).testBit j)
  | 0, i, j, hj => by simp [N8]
  | k + 1, i, j, hj => by
    have ih := tb_N8 h k i j hj
    have hl := N8_lt h k
    unfold N8
    rw [p256] at hl ⊢
    rw [Nat.add_comm, Nat.mul_comm, Nat.testBit_two_pow_mul_add _ hl]
    by_cases c : i < k
    · rw [if_pos (by omega), ih]
      simp [c, show i < k + 1 by omega]
    · rw [if_neg (by omega)]
      by_cases e : i = k
      · subst e
        rw [show 8 * i + j - 8 * i = j by omega]
        simp
      · have hz : (f k).testBit (8 * i + j - 8 * k) = false := Nat.testBit_lt_two_pow (Nat.lt_of_lt_of_le (h k) (Nat.pow_le_pow_right (by decide : 0 < 2) (show 8 ≤ 8 * i + j - 8 * k by omega) : 2 ^ 8 ≤ _))
        rw [hz]
        simp [show ¬ i < k + 1 by omega]
theorem eq8 {a b : Nat} (h : ∀ i j, j < 8 → a.testBit (8 * i + j) = b.testBit (8 * i + j)) : a = b := by
  apply Nat.eq_of_testBit_eq
  intro q
  have := h (q / 8) (q % 8) (Nat.mod_lt _ (by decide))
  rw [Nat.div_add_mod] at this
  exact this
theorem N8_of {x : Nat} {k : Nat} (h : x < 256 ^ k) : N8 (fun i => x / 256 ^ i % 256) k = x := by
  apply eq8
  intro i j hj
  rw [tb_N8 (fun i => Nat.mod_lt _ (by decide)) k i j hj]
  have e : (x / 256 ^ i % 256).testBit j = x.testBit (8 * i + j) := by
    rw [show (256 : Nat) = 2 ^ 8 by decide, Nat.testBit_mod_two_pow, ← Nat.pow_mul, Nat.testBit_div_two_pow]
    simp [hj, Nat.add_comm]
  rw [e]
  by_cases c : i < k
  · simp [c]
  · rw [p256] at h
    have : x.testBit (8 * i + j) = false := Nat.testBit_lt_two_pow (Nat.lt_of_lt_of_le h (Nat.pow_le_pow_right (by decide) (by omega)))
    simp [c, this]
theorem N8_and {f : Nat → Nat} {k s m : Nat} (h : ∀ i, f i < 256) (hm : m < 2 ^ (8 - s)) (hs : s ≤ 8) : (N8 f k / 2 ^ s) &&& N8 (fun _ => m) k = N8 (fun i => f i / 2 ^ s &&& m) k := by
  have hm8 : m < 256 := Nat.lt_of_lt_of_le hm (Nat.pow_le_pow_right (by decide : 0 < 2) (show 8 - s ≤ 8 by omega) : _ ≤ 2 ^ 8)
  apply eq8
  intro i j hj
  rw [Nat.testBit_and, Nat.testBit_div_two_pow, tb_N8 (fun _ => hm8) k i j hj, tb_N8 (fun i => Nat.lt_of_le_of_lt Nat.and_le_right hm8) k i j hj, Nat.testBit_and, Nat.testBit_div_two_pow]
  by_cases c : j + s < 8
  · rw [show 8 * i + j + s = 8 * i + (j + s) by omega, tb_N8 h k i (j + s) c]
    by_cases d : i < k <;> simp [d]
  · have hz : m.testBit j = false := Nat.testBit_lt_two_pow (Nat.lt_of_lt_of_le hm (Nat.pow_le_pow_right (by decide) (by omega)))
    rw [hz]
    simp
theorem N8_shr {f : Nat → Nat} {k s : Nat} (h : ∀ i, f i < 256) (hz : ∀ i, k ≤ i → f i = 0) : N8 f k / 2 ^ (8 * s) = N8 (fun i => f (i + s)) k := by
  apply eq8
  intro i j hj
  rw [Nat.testBit_div_two_pow, show 8 * i + j + 8 * s = 8 * (i + s) + j by omega, tb_N8 h k (i + s) j hj, tb_N8 (fun i => h (i + s)) k i j hj]
  by_cases c : i + s < k
  · simp [c, show i < k by omega]
  · rw [hz (i + s) (by omega)]
    simp
theorem N8_add (f g : Nat → Nat) : ∀ k, N8 f k + N8 g k = N8 (fun i => f i + g i) k
  | 0 => rfl
  | k + 1 => by
    unfold N8
    rw [← N8_add f g k, Nat.add_mul]
    omega
theorem N8_sub {f g : Nat → Nat} (h : ∀ i, g i ≤ f i) (k : Nat) : N8 f k - N8 g k = N8 (fun i => f i - g i) k ∧ N8 g k ≤ N8 f k := by
  have e := N8_add (fun i => f i - g i) g k
  have e2 : N8 (fun i => f i - g i + g i) k = N8 f k := by
    congr 1
    funext i
    have := h i
    omega
  rw [e2] at e
  omega
theorem N8_m (f : Nat → Nat) : ∀ k, N8 f (k + 1) % 256 = f 0 % 256
  | 0 => by simp [N8]
  | k + 1 => by
    show (N8 f (k + 1) + f (k + 1) * 256 ^ (k + 1)) % 256 = _
    rw [Nat.pow_succ, ← Nat.mul_assoc, Nat.add_mul_mod_self_right]
    exact N8_m f k
def pA (d : Nat) : Nat := d - (d / 2 ^ 1 &&& 85)
def pB (d : Nat) : Nat := (d / 2 ^ 0 &&& 51) + (d / 2 ^ 2 &&& 51)
def pC (d : Nat) : Nat := (d + d / 16) % 16
theorem pop8 : ∀ d, d < 256 → (d / 2 ^ 1 &&& 85) ≤ d ∧ pA d < 256 ∧ pB (pA d) < 69 ∧ pB (pA d) % 16 ≤ 4 ∧ pC (pB (pA d)) = cntB (fun t => d.testBit t) 8 := by decide +kernel
theorem N8_sh4 {f : Nat → Nat} {k : Nat} (h : ∀ i, f i < 256) (hz : ∀ i, k ≤ i → f i = 0) : N8 f k / 2 ^ 4 = N8 (fun i => f i / 16 + f (i + 1) % 16 * 16) k := by
  have hb : ∀ i, f i / 16 + f (i + 1) % 16 * 16 < 256 := fun i => by have := h i; omega
  apply eq8
  intro i j hj
  rw [Nat.testBit_div_two_pow, tb_N8 hb k i j hj]
  have e : f i / 16 + f (i + 1) % 16 * 16 = 2 ^ 4 * (f (i + 1) % 16) + f i / 16 := by omega
  rw [e, Nat.testBit_two_pow_mul_add _ (by have := h i; omega)]
  by_cases c : j < 4
  · rw [if_pos c, show 8 * i + j + 4 = 8 * i + (j + 4) by omega, tb_N8 h k i (j + 4) (by omega), show (16 : Nat) = 2 ^ 4 by decide, Nat.testBit_div_two_pow]
  · rw [if_neg c, show 8 * i + j + 4 = 8 * (i + 1) + (j - 4) by omega, tb_N8 h k (i + 1) (j - 4) (by omega), show (16 : Nat) = 2 ^ 4 by decide, Nat.testBit_mod_two_pow]
    by_cases c2 : i + 1 < k
    · simp [c2, show i < k by omega, show j - 4 < 4 by omega]
    · rw [hz (i + 1) (by omega)]
      simp
theorem tN_sh (x : BitVec 64) (k : Nat) : (x >>> k).toNat = x.toNat / 2 ^ k := by rw [BitVec.toNat_ushiftRight, Nat.shiftRight_eq_div_pow]
/-- the set bits of a long -/
def lc (x : BitVec 64) : Nat := cntB (fun i => x.getLsbD i) 64
theorem cntB_8 (p : Nat → Bool) : ∀ k, cntB p (8 * k) = smB (fun i => cntB (fun j => p (8 * i + j)) 8) k
  | 0 => rfl
  | k + 1 => by
    rw [show 8 * (k + 1) = 8 * k + 8 by omega, cntB_split, cntB_8 p k]
    rfl
theorem msk85 : (6148914691236517205#64).toNat = N8 (fun _ => 85) 8 := by decide +kernel
theorem msk51 : (3689348814741910323#64).toNat = N8 (fun _ => 51) 8 := by decide +kernel
theorem msk15 : (1085102592571150095#64).toNat = N8 (fun _ => 15) 8 := by decide +kernel
theorem p64 : (256 : Nat) ^ 8 = 2 ^ 64 := by decide
/-- a long by its bytes -/
def by8 (x : BitVec 64) (f : Nat → Nat) : Prop := x.toNat = N8 f 8
theorem by8_and {x : BitVec 64} {f : Nat → Nat} {m : BitVec 64} {c s : Nat} (h : by8 x f) (hf : ∀ i, f i < 256) (hm : m.toNat = N8 (fun _ => c) 8) (hc : c < 2 ^ (8 - s)) (hs : s ≤ 8) : by8 ((x >>> s) &&& m) (fun i => f i / 2 ^ s &&& c) := by
  unfold by8 at *
  rw [BitVec.toNat_and, tN_sh, h, hm, N8_and hf hc hs]
theorem by8_add {x y : BitVec 64} {f g : Nat → Nat} (h : by8 x f) (k : by8 y g) (hb : ∀ i, f i + g i < 256) : by8 (x + y) (fun i => f i + g i) := by
  unfold by8 at *
  have := N8_lt hb 8
  rw [p64] at this
  rw [BitVec.toNat_add, h, k, N8_add, Nat.mod_eq_of_lt this]
theorem by8_sub {x y : BitVec 64} {f g : Nat → Nat} (h : by8 x f) (k : by8 y g) (hb : ∀ i, g i ≤ f i) : by8 (x - y) (fun i => f i - g i) := by
  unfold by8 at *
  have e := N8_sub hb 8
  have l := x.isLt
  rw [BitVec.toNat_sub, h, k, ← e.1]
  rw [h] at l
  omega
theorem by8_shr {x : BitVec 64} {f : Nat → Nat} (h : by8 x f) (hf : ∀ i, f i < 256) (hz : ∀ i, 8 ≤ i → f i = 0) (s : Nat) : by8 (x >>> (8 * s)) (fun i => f (i + s)) := by
  unfold by8 at *
  rw [tN_sh, h, N8_shr hf hz]
theorem by8_sh4 {x : BitVec 64} {f : Nat → Nat} (h : by8 x f) (hf : ∀ i, f i < 256) (hz : ∀ i, 8 ≤ i → f i = 0) : by8 (x >>> 4) (fun i => f i / 16 + f (i + 1) % 16 * 16) := by
  unfold by8 at *
  rw [tN_sh, h, N8_sh4 hf hz]
theorem by8_and0 {x : BitVec 64} {f : Nat → Nat} {m : BitVec 64} {c : Nat} (h : by8 x f) (hf : ∀ i, f i < 256) (hm : m.toNat = N8 (fun _ => c) 8) (hc : c < 256) : by8 (x &&& m) (fun i => f i / 2 ^ 0 &&& c) := by
  have := by8_and (s := 0) h hf hm hc (by decide)
  rw [show x >>> 0 = x from BitVec.ushiftRight_zero x] at this
  exact this
theorem by8_cong {x : BitVec 64} {f g : Nat → Nat} (h : by8 x f) (e : ∀ i, f i = g i) : by8 x g := by
  have : f = g := funext e
  rw [← this]
  exact h
def dg8 (x : BitVec 64) (i : Nat) : Nat := x.toNat / 256 ^ i % 256
theorem dg8_z (x : BitVec 64) {i : Nat} (h : 8 ≤ i) : dg8 x i = 0 := by
  unfold dg8
  have l := x.isLt
  have : 256 ^ 8 ≤ 256 ^ i := Nat.pow_le_pow_right (by decide) h
  rw [p64] at this
  rw [Nat.div_eq_of_lt (by omega)]
theorem c_lbits {d : Nat} {x : BitVec 64} {S : MS} {Q : Out → MS → Prop} (hd : 1 ≤ d) (h : Q (.inl (some (vI (lc x : Nat)))) S) : Mw hJ13_bitCount_95d88 yJ13_bitCount_95d88 d [vL x] S Q := by
  have u1 : ∀ y, lUshr y 1 = y >>> 1 := fun y => lUshr_n y (k := 1) (by decide)
  have u2 : ∀ y, lUshr y 2 = y >>> 2 := fun y => lUshr_n y (k := 2) (by decide)
  have u4 : ∀ y, lUshr y 4 = y >>> 4 := fun y => lUshr_n y (k := 4) (by decide)
  have u8 : ∀ y, lUshr y 8 = y >>> (8 * 1) := fun y => lUshr_n y (k := 8) (by decide)
  have u16 : ∀ y, lUshr y 16 = y >>> (8 * 2) := fun y => lUshr_n y (k := 16) (by decide)
  have u32 : ∀ y, lUshr y 32 = y >>> (8 * 4) := fun y => lUshr_n y (k := 32) (by decide)
  have dl : ∀ i, dg8 x i < 256 := fun i => Nat.mod_lt _ (by decide)
  have dz : ∀ i, 8 ≤ i → dg8 x i = 0 := fun i hi => dg8_z x hi
  have hx : by8 x (dg8 x) := (N8_of (by rw [p64]; exact x.isLt)).symm
  obtain ⟨dd, rfl⟩ : ∃ e, d = e + 1 := ⟨d - 1, by omega⟩
  refine MJ13_bitCount_95d88 ?_
  unfold VJ13_bitCount_95d88_0
  simp only [u1, u2, u4, u8, u16, u32]
  have hA : by8 (x - (x >>> 1 &&& (6148914691236517205#64))) (fun i => pA (dg8 x i)) := by8_sub hx (by8_and (s := 1) hx dl msk85 (by decide) (by decide)) (fun i => (pop8 _ (dl i)).1)
  have lA : ∀ i, pA (dg8 x i) < 256 := fun i => (pop8 _ (dl i)).2.1
  generalize x - (x >>> 1 &&& (6148914691236517205#64)) = A at hA ⊢
  have lB : ∀ i, pB (pA (dg8 x i)) < 69 := fun i => (pop8 _ (dl i)).2.2.1
  have hB : by8 ((A &&& (3689348814741910323#64)) + (A >>> 2 &&& (3689348814741910323#64))) (fun i => pB (pA (dg8 x i))) := by8_add (by8_and0 hA lA msk51 (by decide)) (by8_and (s := 2) hA lA msk51 (by decide) (by decide)) (fun i => by have := lB i; unfold pB at this; omega)
  have zB : ∀ i, 8 ≤ i → pB (pA (dg8 x i)) = 0 := fun i hi => by rw [dz i hi]; rfl
  generalize (A &&& (3689348814741910323#64)) + (A >>> 2 &&& (3689348814741910323#64)) = B at hB ⊢
  have nB : ∀ i, pB (pA (dg8 x i)) % 16 ≤ 4 := fun i => (pop8 _ (dl i)).2.2.2.1
  have hS : by8 (B + B >>> 4) (fun i => pB (pA (dg8 x i)) + (pB (pA (dg8 x i)) / 16 + pB (pA (dg8 x (i + 1))) % 16 * 16)) := by8_add hB (by8_sh4 hB (fun i => by have := lB i; omega) zB) (fun i => by have := lB i; have := nB (i + 1); omega)
  have hC : by8 ((B + B >>> 4) &&& (1085102592571150095#64)) (fun i => cntB (fun t => (dg8 x i).testBit t) 8) := by
    refine by8_cong (by8_and0 hS (fun i => by have := lB i; have := nB (i + 1); omega) msk15 (by decide)) (fun i => ?_)
    rw [← (pop8 _ (dl i)).2.2.2.2]
    unfold pC
    rw [show (15 : Nat) = 2 ^ 4 - 1 by decide, Nat.and_two_pow_sub_one_eq_mod]
    generalize pB (pA (dg8 x i)) = a
    generalize pB (pA (dg8 x (i + 1))) = b
    omega
  generalize (B + B >>> 4) &&& (1085102592571150095#64) = C at hC ⊢
  generalize hP : (fun i => cntB (fun t => (dg8 x i).testBit t) 8) = P at hC
  have lP : ∀ i, P i ≤ 8 := fun i => by rw [← hP]; exact cntB_le _ 8
  have zP : ∀ i, 8 ≤ i → P i = 0 := fun i hi => by rw [← hP]; show cntB (fun t => (dg8 x i).testBit t) 8 = 0; rw [dz i hi]; exact cntB_0 (fun k _ => Nat.zero_testBit k)
  have hE : by8 (C + C >>> (8 * 1)) (fun i => P i + P (i + 1)) := by8_add hC (by8_shr hC (fun i => by have := lP i; omega) zP 1) (fun i => by have := lP i; have := lP (i + 1); omega)
  generalize C + C >>> (8 * 1) = E at hE ⊢
  have hF : by8 (E + E >>> (8 * 2)) (fun i => P i + P (i + 1) + (P (i + 2) + P (i + 2 + 1))) := by8_add hE (by8_shr hE (fun i => by have := lP i; have := lP (i + 1); omega) (fun i hi => by rw [zP i hi, zP (i + 1) (by omega)]) 2) (fun i => by have := lP i; have := lP (i + 1); have := lP (i + 2); have := lP (i + 2 + 1); omega)
  generalize E + E >>> (8 * 2) = F at hF ⊢
  have hG : by8 (F + F >>> (8 * 4)) (fun i => P i + P (i + 1) + (P (i + 2) + P (i + 2 + 1)) + (P (i + 4) + P (i + 4 + 1) + (P (i + 4 + 2) + P (i + 4 + 2 + 1)))) := by8_add hF (by8_shr hF (fun i => by have := lP i; have := lP (i + 1); have := lP (i + 2); have := lP (i + 2 + 1); omega) (fun i hi => by rw [zP i hi, zP (i + 1) (by omega), zP (i + 2) (by omega), zP (i + 2 + 1) (by omega)]) 4) (fun i => by have := lP i; have := lP (i + 1); have := lP (i + 2); have := lP (i + 2 + 1); have := lP (i + 4); have := lP (i + 4 + 1); have := lP (i + 4 + 2); have := lP (i + 4 + 2 + 1); omega)
  generalize F + F >>> (8 * 4) = G at hG ⊢
  have hGm : G.toNat % 128 = lc x := by
    have e := N8_m (fun i => P i + P (i + 1) + (P (i + 2) + P (i + 2 + 1)) + (P (i + 4) + P (i + 4 + 1) + (P (i + 4 + 2) + P (i + 4 + 2 + 1)))) 7
    unfold by8 at hG
    rw [← hG] at e
    have l : lc x = P 0 + P 1 + (P 2 + P 3) + (P 4 + P 5 + (P 6 + P 7)) := by
      unfold lc
      have := cntB_8 (fun i => x.getLsbD i) 8
      rw [show 8 * 8 = 64 by decide] at this
      rw [this]
      have q : ∀ i, cntB (fun j => x.getLsbD (8 * i + j)) 8 = P i := by
        intro i
        rw [← hP]
        refine cntB_cong (fun j hj => ?_)
        show x.toNat.testBit (8 * i + j) = (x.toNat / 256 ^ i % 256).testBit j
        rw [show (256 : Nat) = 2 ^ 8 by decide, Nat.testBit_mod_two_pow, ← Nat.pow_mul, Nat.testBit_div_two_pow]
        simp [hj, Nat.add_comm]
      simp only [smB, q]
      omega
    rw [l]
    have := lP 0
    have := lP 1
    have := lP 2
    have := lP 3
    have := lP 4
    have := lP 5
    have := lP 6
    have := lP 7
    simp only [Nat.zero_add, Nat.reduceAdd] at e
    omega
  rw [l2I_n, hGm]
  exact h
