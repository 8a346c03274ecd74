section JB
variable {Fz : FinT} {own : String} {cc : ByteArray} {nL : Nat} {ret : Option FieldType} {hh : List (Nat × Nat × Nat × Nat)} {y : MethodName} {d : Nat} {S0 S : MS} {pc : Nat} {lv : List (Nat × Value)} {st : List Value} {Q : Out → MS → Prop}
def iAnd (x z : Int) : Int := (Int32.ofInt x &&& Int32.ofInt z).toInt
def iOr (x z : Int) : Int := (Int32.ofInt x ||| Int32.ofInt z).toInt
def iXor (x z : Int) : Int := (Int32.ofInt x ^^^ Int32.ofInt z).toInt
def iShl (x z : Int) : Int := (Int32.ofInt x <<< (Int32.ofInt z &&& 31)).toInt
def iShr (x z : Int) : Int := (Int32.ofInt x >>> (Int32.ofInt z &&& 31)).toInt
def iUshr (x z : Int) : Int := ((Int32.ofInt x).toUInt32 >>> ((Int32.ofInt z).toUInt32 &&& Int32.toUInt32 31)).toInt32.toInt
def iDiv (x z : Int) : Int := (Int32.ofInt x / Int32.ofInt z).toInt
def iRem (x z : Int) : Int := (Int32.ofInt x - Int32.ofInt x / Int32.ofInt z * Int32.ofInt z).toInt
def i2B (x : Int) : Int := (Int32.ofInt x).toInt8.toInt32.toInt
def i2S (x : Int) : Int := (Int32.ofInt x).toInt16.toInt32.toInt
def i2C (x : Int) : Int := ((Int32.ofInt x).toUInt32 % 65536).toInt32.toInt
def i2L (x : Int) : BitVec 64 := (Int32.ofInt x).toInt64.toBitVec
def l2I (x : BitVec 64) : Int := (Int64.ofBitVec x).toInt32.toInt
def lShl (x : BitVec 64) (z : Int) : BitVec 64 := (Int64.ofBitVec x <<< ((Int32.ofInt z).toInt64 &&& 63)).toBitVec
def lUshr (x : BitVec 64) (z : Int) : BitVec 64 := ((Int64.ofBitVec x).toUInt64 >>> ((Int32.ofInt z).toInt64.toUInt64 &&& Int64.toUInt64 63)).toInt64.toBitVec
def lCmp (x z : BitVec 64) : Int := (lg_cmp (Int64.ofBitVec x) (Int64.ofBitVec z)).toInt
theorem j_iand {x z : Int} (hd : decode cc pc = .ok (.iand, 1)) (k : Jw Fz own cc nL ret hh y d S0 S (pc + 1) lv (vI (iAnd x z) :: st) Q) : Jw Fz own cc nL ret hh y d S0 S pc lv (vI z :: vI x :: st) Q :=
  j_step (fun hx hb _ _ _ w => lv_iand hx hb hd (by rw [← Int32.ofInt_toInt (Int32.ofInt x &&& Int32.ofInt z)]; exact w)) k
theorem j_ior {x z : Int} (hd : decode cc pc = .ok (.ior, 1)) (k : Jw Fz own cc nL ret hh y d S0 S (pc + 1) lv (vI (iOr x z) :: st) Q) : Jw Fz own cc nL ret hh y d S0 S pc lv (vI z :: vI x :: st) Q :=
  j_step (fun hx hb _ _ _ w => lv_ior hx hb hd (by rw [← Int32.ofInt_toInt (Int32.ofInt x ||| Int32.ofInt z)]; exact w)) k
theorem j_ixor {x z : Int} (hd : decode cc pc = .ok (.ixor, 1)) (k : Jw Fz own cc nL ret hh y d S0 S (pc + 1) lv (vI (iXor x z) :: st) Q) : Jw Fz own cc nL ret hh y d S0 S pc lv (vI z :: vI x :: st) Q :=
  j_step (fun hx hb _ _ _ w => lv_ixor hx hb hd (by rw [← Int32.ofInt_toInt (Int32.ofInt x ^^^ Int32.ofInt z)]; exact w)) k
theorem j_ishl {x z : Int} (hd : decode cc pc = .ok (.ishl, 1)) (k : Jw Fz own cc nL ret hh y d S0 S (pc + 1) lv (vI (iShl x z) :: st) Q) : Jw Fz own cc nL ret hh y d S0 S pc lv (vI z :: vI x :: st) Q :=
  j_step (fun hx hb _ _ _ w => lv_ishl hx hb hd (by rw [← Int32.ofInt_toInt (Int32.ofInt x <<< (Int32.ofInt z &&& 31))]; exact w)) k
theorem j_ishr {x z : Int} (hd : decode cc pc = .ok (.ishr, 1)) (k : Jw Fz own cc nL ret hh y d S0 S (pc + 1) lv (vI (iShr x z) :: st) Q) : Jw Fz own cc nL ret hh y d S0 S pc lv (vI z :: vI x :: st) Q :=
  j_step (fun hx hb _ _ _ w => lv_ishr hx hb hd (by rw [← Int32.ofInt_toInt (Int32.ofInt x >>> (Int32.ofInt z &&& 31))]; exact w)) k
theorem j_iushr {x z : Int} (hd : decode cc pc = .ok (.iushr, 1)) (k : Jw Fz own cc nL ret hh y d S0 S (pc + 1) lv (vI (iUshr x z) :: st) Q) : Jw Fz own cc nL ret hh y d S0 S pc lv (vI z :: vI x :: st) Q :=
  j_step (fun hx hb _ _ _ w => lv_iushr hx hb hd (Int32.ofInt_toInt _).symm w) k
theorem j_idiv {x z : Int} {P : Prop} (hd : decode cc pc = .ok (.idiv, 1)) (h : (R32 z ∧ z ≠ 0) ∧ P) (k : P → Jw Fz own cc nL ret hh y d S0 S (pc + 1) lv (vI (iDiv x z) :: st) Q) : Jw Fz own cc nL ret hh y d S0 S pc lv (vI z :: vI x :: st) Q :=
  j_step (fun hx hb _ _ _ w => lv_idiv hx hb hd (fun q => h.1.2 ((r32_eq h.1.1 r32_0).mp q)) (by rw [← Int32.ofInt_toInt (Int32.ofInt x / Int32.ofInt z)]; exact w)) (k h.2)
theorem j_irem {x z : Int} {P : Prop} (hd : decode cc pc = .ok (.irem, 1)) (h : (R32 z ∧ z ≠ 0) ∧ P) (k : P → Jw Fz own cc nL ret hh y d S0 S (pc + 1) lv (vI (iRem x z) :: st) Q) : Jw Fz own cc nL ret hh y d S0 S pc lv (vI z :: vI x :: st) Q :=
  j_step (fun hx hb _ _ _ w => lv_irem hx hb hd (fun q => h.1.2 ((r32_eq h.1.1 r32_0).mp q)) (by rw [← Int32.ofInt_toInt (Int32.ofInt x - Int32.ofInt x / Int32.ofInt z * Int32.ofInt z)]; exact w)) (k h.2)
theorem j_i2b {x : Int} (hd : decode cc pc = .ok (.i2b, 1)) (k : Jw Fz own cc nL ret hh y d S0 S (pc + 1) lv (vI (i2B x) :: st) Q) : Jw Fz own cc nL ret hh y d S0 S pc lv (vI x :: st) Q :=
  j_step (fun hx hb _ _ _ w => lv_i2b hx hb hd (Int32.ofInt_toInt _).symm w) k
theorem j_i2s {x : Int} (hd : decode cc pc = .ok (.i2s, 1)) (k : Jw Fz own cc nL ret hh y d S0 S (pc + 1) lv (vI (i2S x) :: st) Q) : Jw Fz own cc nL ret hh y d S0 S pc lv (vI x :: st) Q :=
  j_step (fun hx hb _ _ _ w => lv_i2s hx hb hd (Int32.ofInt_toInt _).symm w) k
theorem j_i2l {x : Int} (hd : decode cc pc = .ok (.i2l, 1)) (k : Jw Fz own cc nL ret hh y d S0 S (pc + 1) lv (vL (i2L x) :: st) Q) : Jw Fz own cc nL ret hh y d S0 S pc lv (vI x :: st) Q :=
  j_step (fun hx hb _ _ _ w => lv_i2l hx hb hd rfl w) k
theorem j_l2i {x : BitVec 64} (hd : decode cc pc = .ok (.l2i, 1)) (k : Jw Fz own cc nL ret hh y d S0 S (pc + 1) lv (vI (l2I x) :: st) Q) : Jw Fz own cc nL ret hh y d S0 S pc lv (vL x :: st) Q :=
  j_step (fun hx hb _ _ _ w => lv_l2i hx hb hd (Int32.ofInt_toInt _).symm w) k
theorem j_land {x z : BitVec 64} (hd : decode cc pc = .ok (.land, 1)) (k : Jw Fz own cc nL ret hh y d S0 S (pc + 1) lv (vL (x &&& z) :: st) Q) : Jw Fz own cc nL ret hh y d S0 S pc lv (vL z :: vL x :: st) Q :=
  j_step (fun hx hb _ _ _ w => lv_land hx hb hd w) k
theorem j_lor {x z : BitVec 64} (hd : decode cc pc = .ok (.lor, 1)) (k : Jw Fz own cc nL ret hh y d S0 S (pc + 1) lv (vL (x ||| z) :: st) Q) : Jw Fz own cc nL ret hh y d S0 S pc lv (vL z :: vL x :: st) Q :=
  j_step (fun hx hb _ _ _ w => lv_lor hx hb hd w) k
theorem j_lxor {x z : BitVec 64} (hd : decode cc pc = .ok (.lxor, 1)) (k : Jw Fz own cc nL ret hh y d S0 S (pc + 1) lv (vL (x ^^^ z) :: st) Q) : Jw Fz own cc nL ret hh y d S0 S pc lv (vL z :: vL x :: st) Q :=
  j_step (fun hx hb _ _ _ w => lv_lxor hx hb hd w) k
theorem j_ladd {x z : BitVec 64} (hd : decode cc pc = .ok (.ladd, 1)) (k : Jw Fz own cc nL ret hh y d S0 S (pc + 1) lv (vL (x + z) :: st) Q) : Jw Fz own cc nL ret hh y d S0 S pc lv (vL z :: vL x :: st) Q :=
  j_step (fun hx hb _ _ _ w => lv_ladd hx hb hd w) k
theorem j_lsub {x z : BitVec 64} (hd : decode cc pc = .ok (.lsub, 1)) (k : Jw Fz own cc nL ret hh y d S0 S (pc + 1) lv (vL (x - z) :: st) Q) : Jw Fz own cc nL ret hh y d S0 S pc lv (vL z :: vL x :: st) Q :=
  j_step (fun hx hb _ _ _ w => lv_lsub hx hb hd w) k
theorem j_lneg {x : BitVec 64} (hd : decode cc pc = .ok (.lneg, 1)) (k : Jw Fz own cc nL ret hh y d S0 S (pc + 1) lv (vL (-x) :: st) Q) : Jw Fz own cc nL ret hh y d S0 S pc lv (vL x :: st) Q :=
  j_step (fun hx hb _ _ _ w => lv_lneg hx hb hd w) k
theorem j_lshl {x : BitVec 64} {z : Int} (hd : decode cc pc = .ok (.lshl, 1)) (k : Jw Fz own cc nL ret hh y d S0 S (pc + 1) lv (vL (lShl x z) :: st) Q) : Jw Fz own cc nL ret hh y d S0 S pc lv (vI z :: vL x :: st) Q :=
  j_step (fun hx hb _ _ _ w => lv_lshl hx hb hd rfl w) k
theorem j_lushr {x : BitVec 64} {z : Int} (hd : decode cc pc = .ok (.lushr, 1)) (k : Jw Fz own cc nL ret hh y d S0 S (pc + 1) lv (vL (lUshr x z) :: st) Q) : Jw Fz own cc nL ret hh y d S0 S pc lv (vI z :: vL x :: st) Q :=
  j_step (fun hx hb _ _ _ w => lv_lushr hx hb hd rfl w) k
theorem j_lcmp {x z : BitVec 64} (hd : decode cc pc = .ok (.lcmp, 1)) (k : Jw Fz own cc nL ret hh y d S0 S (pc + 1) lv (vI (lCmp x z) :: st) Q) : Jw Fz own cc nL ret hh y d S0 S pc lv (vL z :: vL x :: st) Q :=
  j_step (fun hx hb _ _ _ w => W.lcmp hx hb hd (by rw [← Int32.ofInt_toInt (lg_cmp (Int64.ofBitVec x) (Int64.ofBitVec z))]; exact w)) k
theorem j_ldc {i : Nat} {v : Int32} {n : Int} (hd : decode cc pc = .ok (.ldc i, 2)) (hc : Cond.constant own i v ∈ TB) (hv : v = Int32.ofInt n) (k : Jw Fz own cc nL ret hh y d S0 S (pc + 2) lv (vI n :: st) Q) : Jw Fz own cc nL ret hh y d S0 S pc lv st Q :=
  j_step (fun hx hb ho ht _ w => lv_ldc hx hb ho (ht _ hc) hd (by rw [hv]; exact w)) k
theorem j_ldc_w {i : Nat} {v : Int32} {n : Int} (hd : decode cc pc = .ok (.ldc_w i, 3)) (hc : Cond.constant own i v ∈ TB) (hv : v = Int32.ofInt n) (k : Jw Fz own cc nL ret hh y d S0 S (pc + 3) lv (vI n :: st) Q) : Jw Fz own cc nL ret hh y d S0 S pc lv st Q :=
  j_step (fun hx hb ho ht _ w => lv_ldcw hx hb ho (ht _ hc) hd (by rw [hv]; exact w)) k
theorem j_ldc2 {i : Nat} {v : Int64} {n : BitVec 64} (hd : decode cc pc = .ok (.ldc2_w i, 3)) (hc : Cond.constantLong own i v ∈ TB) (hv : v = Int64.ofBitVec n) (k : Jw Fz own cc nL ret hh y d S0 S (pc + 3) lv (vL n :: st) Q) : Jw Fz own cc nL ret hh y d S0 S pc lv st Q :=
  j_step (fun hx hb ho ht _ w => lv_ldc2 hx hb ho (ht _ hc) hd (by rw [hv]; exact w)) k
theorem j_pop {v : Value} (hc : v.category = 1) (hd : decode cc pc = .ok (.pop, 1)) (k : Jw Fz own cc nL ret hh y d S0 S (pc + 1) lv st Q) : Jw Fz own cc nL ret hh y d S0 S pc lv (v :: st) Q :=
  j_step (fun hx hb _ _ _ w => lv_pop hx hb hd hc w) k
theorem j_dup2 {v u : Value} (hc : v.category = 1) (hu : u.category = 1) (hd : decode cc pc = .ok (.dup2, 1)) (k : Jw Fz own cc nL ret hh y d S0 S (pc + 1) lv (v :: u :: v :: u :: st) Q) : Jw Fz own cc nL ret hh y d S0 S pc lv (v :: u :: st) Q :=
  j_step (fun hx hb _ _ _ w => lv_dup2_11 hx hb hd hc hu w) k
theorem j_icmp_eq {x z : Int} {off : Int} {tgt : Nat} {A B : Prop} (hd : decode cc pc = .ok (.if_icmp .eq off, 3)) (ht : (pc : Int) + off = (tgt : Int)) (h : (R32 x ∧ R32 z) ∧ (x = z → A) ∧ (¬ (x = z) → B)) (k1 : A → Jw Fz own cc nL ret hh y d S0 S tgt lv st Q) (k2 : B → Jw Fz own cc nL ret hh y d S0 S (pc + 3) lv st Q) : Jw Fz own cc nL ret hh y d S0 S pc lv (vI z :: vI x :: st) Q := by
  have e := r32_eq h.1.1 h.1.2
  by_cases c : x = z
  · exact j_step (fun hx hb _ _ _ w => lv_icmp_eq hx hb hd ht (fun _ => w) (fun q => absurd (e.mpr c) q)) (k1 (h.2.1 c))
  · exact j_step (fun hx hb _ _ _ w => lv_icmp_eq hx hb hd ht (fun q => absurd (e.mp q) c) (fun _ => w)) (k2 (h.2.2 c))
theorem j_if_eq {x : Int} {off : Int} {tgt : Nat} {A B : Prop} (hd : decode cc pc = .ok (.ifCond .eq off, 3)) (ht : (pc : Int) + off = (tgt : Int)) (h : R32 x ∧ (x = 0 → A) ∧ (¬ (x = 0) → B)) (k1 : A → Jw Fz own cc nL ret hh y d S0 S tgt lv st Q) (k2 : B → Jw Fz own cc nL ret hh y d S0 S (pc + 3) lv st Q) : Jw Fz own cc nL ret hh y d S0 S pc lv (vI x :: st) Q := by
  have e := r32_eq h.1 r32_0
  by_cases c : x = 0
  · exact j_step (fun hx hb _ _ _ w => lv_if_eq hx hb hd ht (fun _ => w) (fun q => absurd (e.mpr c) q)) (k1 (h.2.1 c))
  · exact j_step (fun hx hb _ _ _ w => lv_if_eq hx hb hd ht (fun q => absurd (e.mp q) c) (fun _ => w)) (k2 (h.2.2 c))
theorem j_icmp_ne {x z : Int} {off : Int} {tgt : Nat} {A B : Prop} (hd : decode cc pc = .ok (.if_icmp .ne off, 3)) (ht : (pc : Int) + off = (tgt : Int)) (h : (R32 x ∧ R32 z) ∧ (¬ x = z → A) ∧ (x = z → B)) (k1 : A → Jw Fz own cc nL ret hh y d S0 S tgt lv st Q) (k2 : B → Jw Fz own cc nL ret hh y d S0 S (pc + 3) lv st Q) : Jw Fz own cc nL ret hh y d S0 S pc lv (vI z :: vI x :: st) Q := by
  have e := r32_eq h.1.1 h.1.2
  by_cases c : x = z
  · exact j_step (fun hx hb _ _ _ w => lv_icmp_ne hx hb hd ht (fun q => absurd (e.mpr c) q) (fun _ => w)) (k2 (h.2.2 c))
  · exact j_step (fun hx hb _ _ _ w => lv_icmp_ne hx hb hd ht (fun _ => w) (fun q => absurd (e.mp q) c)) (k1 (h.2.1 c))
theorem j_if_ne {x : Int} {off : Int} {tgt : Nat} {A B : Prop} (hd : decode cc pc = .ok (.ifCond .ne off, 3)) (ht : (pc : Int) + off = (tgt : Int)) (h : R32 x ∧ (¬ x = 0 → A) ∧ (x = 0 → B)) (k1 : A → Jw Fz own cc nL ret hh y d S0 S tgt lv st Q) (k2 : B → Jw Fz own cc nL ret hh y d S0 S (pc + 3) lv st Q) : Jw Fz own cc nL ret hh y d S0 S pc lv (vI x :: st) Q := by
  have e := r32_eq h.1 r32_0
  by_cases c : x = 0
  · exact j_step (fun hx hb _ _ _ w => lv_if_ne hx hb hd ht (fun q => absurd (e.mpr c) q) (fun _ => w)) (k2 (h.2.2 c))
  · exact j_step (fun hx hb _ _ _ w => lv_if_ne hx hb hd ht (fun _ => w) (fun q => absurd (e.mp q) c)) (k1 (h.2.1 c))
theorem j_icmp_lt {x z : Int} {off : Int} {tgt : Nat} {A B : Prop} (hd : decode cc pc = .ok (.if_icmp .lt off, 3)) (ht : (pc : Int) + off = (tgt : Int)) (h : (R32 x ∧ R32 z) ∧ (x < z → A) ∧ (¬ (x < z) → B)) (k1 : A → Jw Fz own cc nL ret hh y d S0 S tgt lv st Q) (k2 : B → Jw Fz own cc nL ret hh y d S0 S (pc + 3) lv st Q) : Jw Fz own cc nL ret hh y d S0 S pc lv (vI z :: vI x :: st) Q := by
  have e := r32_lt h.1.1 h.1.2
  by_cases c : x < z
  · exact j_step (fun hx hb _ _ _ w => lv_icmp_lt hx hb hd ht (fun _ => w) (fun q => absurd (e.mpr c) q)) (k1 (h.2.1 c))
  · exact j_step (fun hx hb _ _ _ w => lv_icmp_lt hx hb hd ht (fun q => absurd (e.mp q) c) (fun _ => w)) (k2 (h.2.2 c))
theorem j_if_lt {x : Int} {off : Int} {tgt : Nat} {A B : Prop} (hd : decode cc pc = .ok (.ifCond .lt off, 3)) (ht : (pc : Int) + off = (tgt : Int)) (h : R32 x ∧ (x < 0 → A) ∧ (¬ (x < 0) → B)) (k1 : A → Jw Fz own cc nL ret hh y d S0 S tgt lv st Q) (k2 : B → Jw Fz own cc nL ret hh y d S0 S (pc + 3) lv st Q) : Jw Fz own cc nL ret hh y d S0 S pc lv (vI x :: st) Q := by
  have e := r32_lt h.1 r32_0
  by_cases c : x < 0
  · exact j_step (fun hx hb _ _ _ w => lv_if_lt hx hb hd ht (fun _ => w) (fun q => absurd (e.mpr c) q)) (k1 (h.2.1 c))
  · exact j_step (fun hx hb _ _ _ w => lv_if_lt hx hb hd ht (fun q => absurd (e.mp q) c) (fun _ => w)) (k2 (h.2.2 c))
theorem j_icmp_ge {x z : Int} {off : Int} {tgt : Nat} {A B : Prop} (hd : decode cc pc = .ok (.if_icmp .ge off, 3)) (ht : (pc : Int) + off = (tgt : Int)) (h : (R32 x ∧ R32 z) ∧ (z ≤ x → A) ∧ (¬ (z ≤ x) → B)) (k1 : A → Jw Fz own cc nL ret hh y d S0 S tgt lv st Q) (k2 : B → Jw Fz own cc nL ret hh y d S0 S (pc + 3) lv st Q) : Jw Fz own cc nL ret hh y d S0 S pc lv (vI z :: vI x :: st) Q := by
  have e := r32_le h.1.2 h.1.1
  by_cases c : z ≤ x
  · exact j_step (fun hx hb _ _ _ w => lv_icmp_ge hx hb hd ht (fun _ => w) (fun q => absurd (e.mpr c) q)) (k1 (h.2.1 c))
  · exact j_step (fun hx hb _ _ _ w => lv_icmp_ge hx hb hd ht (fun q => absurd (e.mp q) c) (fun _ => w)) (k2 (h.2.2 c))
theorem j_if_ge {x : Int} {off : Int} {tgt : Nat} {A B : Prop} (hd : decode cc pc = .ok (.ifCond .ge off, 3)) (ht : (pc : Int) + off = (tgt : Int)) (h : R32 x ∧ (0 ≤ x → A) ∧ (¬ (0 ≤ x) → B)) (k1 : A → Jw Fz own cc nL ret hh y d S0 S tgt lv st Q) (k2 : B → Jw Fz own cc nL ret hh y d S0 S (pc + 3) lv st Q) : Jw Fz own cc nL ret hh y d S0 S pc lv (vI x :: st) Q := by
  have e := r32_le r32_0 h.1
  by_cases c : 0 ≤ x
  · exact j_step (fun hx hb _ _ _ w => lv_if_ge hx hb hd ht (fun _ => w) (fun q => absurd (e.mpr c) q)) (k1 (h.2.1 c))
  · exact j_step (fun hx hb _ _ _ w => lv_if_ge hx hb hd ht (fun q => absurd (e.mp q) c) (fun _ => w)) (k2 (h.2.2 c))
theorem j_icmp_gt {x z : Int} {off : Int} {tgt : Nat} {A B : Prop} (hd : decode cc pc = .ok (.if_icmp .gt off, 3)) (ht : (pc : Int) + off = (tgt : Int)) (h : (R32 x ∧ R32 z) ∧ (z < x → A) ∧ (¬ (z < x) → B)) (k1 : A → Jw Fz own cc nL ret hh y d S0 S tgt lv st Q) (k2 : B → Jw Fz own cc nL ret hh y d S0 S (pc + 3) lv st Q) : Jw Fz own cc nL ret hh y d S0 S pc lv (vI z :: vI x :: st) Q := by
  have e := r32_lt h.1.2 h.1.1
  by_cases c : z < x
  · exact j_step (fun hx hb _ _ _ w => lv_icmp_gt hx hb hd ht (fun _ => w) (fun q => absurd (e.mpr c) q)) (k1 (h.2.1 c))
  · exact j_step (fun hx hb _ _ _ w => lv_icmp_gt hx hb hd ht (fun q => absurd (e.mp q) c) (fun _ => w)) (k2 (h.2.2 c))
theorem j_if_gt {x : Int} {off : Int} {tgt : Nat} {A B : Prop} (hd : decode cc pc = .ok (.ifCond .gt off, 3)) (ht : (pc : Int) + off = (tgt : Int)) (h : R32 x ∧ (0 < x → A) ∧ (¬ (0 < x) → B)) (k1 : A → Jw Fz own cc nL ret hh y d S0 S tgt lv st Q) (k2 : B → Jw Fz own cc nL ret hh y d S0 S (pc + 3) lv st Q) : Jw Fz own cc nL ret hh y d S0 S pc lv (vI x :: st) Q := by
  have e := r32_lt r32_0 h.1
  by_cases c : 0 < x
  · exact j_step (fun hx hb _ _ _ w => lv_if_gt hx hb hd ht (fun _ => w) (fun q => absurd (e.mpr c) q)) (k1 (h.2.1 c))
  · exact j_step (fun hx hb _ _ _ w => lv_if_gt hx hb hd ht (fun q => absurd (e.mp q) c) (fun _ => w)) (k2 (h.2.2 c))
theorem j_icmp_le {x z : Int} {off : Int} {tgt : Nat} {A B : Prop} (hd : decode cc pc = .ok (.if_icmp .le off, 3)) (ht : (pc : Int) + off = (tgt : Int)) (h : (R32 x ∧ R32 z) ∧ (x ≤ z → A) ∧ (¬ (x ≤ z) → B)) (k1 : A → Jw Fz own cc nL ret hh y d S0 S tgt lv st Q) (k2 : B → Jw Fz own cc nL ret hh y d S0 S (pc + 3) lv st Q) : Jw Fz own cc nL ret hh y d S0 S pc lv (vI z :: vI x :: st) Q := by
  have e := r32_le h.1.1 h.1.2
  by_cases c : x ≤ z
  · exact j_step (fun hx hb _ _ _ w => lv_icmp_le hx hb hd ht (fun _ => w) (fun q => absurd (e.mpr c) q)) (k1 (h.2.1 c))
  · exact j_step (fun hx hb _ _ _ w => lv_icmp_le hx hb hd ht (fun q => absurd (e.mp q) c) (fun _ => w)) (k2 (h.2.2 c))
theorem j_if_le {x : Int} {off : Int} {tgt : Nat} {A B : Prop} (hd : decode cc pc = .ok (.ifCond .le off, 3)) (ht : (pc : Int) + off = (tgt : Int)) (h : R32 x ∧ (x ≤ 0 → A) ∧ (¬ (x ≤ 0) → B)) (k1 : A → Jw Fz own cc nL ret hh y d S0 S tgt lv st Q) (k2 : B → Jw Fz own cc nL ret hh y d S0 S (pc + 3) lv st Q) : Jw Fz own cc nL ret hh y d S0 S pc lv (vI x :: st) Q := by
  have e := r32_le h.1 r32_0
  by_cases c : x ≤ 0
  · exact j_step (fun hx hb _ _ _ w => lv_if_le hx hb hd ht (fun _ => w) (fun q => absurd (e.mpr c) q)) (k1 (h.2.1 c))
  · exact j_step (fun hx hb _ _ _ w => lv_if_le hx hb hd ht (fun q => absurd (e.mp q) c) (fun _ => w)) (k2 (h.2.2 c))
end JB
