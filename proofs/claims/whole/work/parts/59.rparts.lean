/-! those by which one rises -/
def prt (n kn x t : Nat) (L : List Nat) : List Nat := L.filter (fun r => decide (rsN n kn x r = t))
theorem prt_len (n kn x t : Nat) (L : List Nat) : (prt n kn x t L).length ≤ L.length := List.length_filter_le _ _
theorem prt_mem {n kn x t : Nat} {L : List Nat} {b : Nat} (h : ∀ r ∈ L, r < b) : ∀ r ∈ prt n kn x t L, r < b := fun r hr => h r (List.mem_filter.mp hr).1
theorem prt_s {n kn x t k : Nat} {L : List Nat} (h : k < L.length) : prt n kn x t (L.take (k + 1)) = if rsN n kn x (L.getD k 0) = t then prt n kn x t (L.take k) ++ [L.getD k 0] else prt n kn x t (L.take k) := by
  unfold prt
  rw [take_s h, List.filter_append, List.filter_cons, List.filter_nil]
  by_cases c : rsN n kn x (L.getD k 0) = t
  · rw [if_pos c, if_pos (by simpa using c)]
  · rw [if_neg c, if_neg (by simpa using c), List.append_nil]
/-- the other levels' rows are as they were -/
def KO (m l : Nat) (S S' : MS) : Prop := (∀ q, (q < 5040 * l ∨ 5040 * (l + 1) ≤ q) → S'.I (m+8) q = S.I (m+8) q) ∧ ∀ q, q ≠ l → S'.I (m+9) q = S.I (m+9) q
theorem KO.rf {m l : Nat} {S : MS} : KO m l S S := ⟨fun _ _ => rfl, fun _ _ => rfl⟩
theorem KO.tr {m l : Nat} {S S1 S2 : MS} (h : KO m l S S1) (k : KO m l S1 S2) : KO m l S S2 := ⟨fun q hq => (k.1 q hq).trans (h.1 q hq), fun q hq => (k.2 q hq).trans (h.2 q hq)⟩
theorem KO.lv {m n l l' : Nat} {L : List Nat} {S S1 : MS} (h : KO m l S S1) (hl : l' ≠ l) (k : LV S m n l' L) : LV S1 m n l' L := by
  obtain ⟨⟨k1, k2⟩, k3, k4, k5⟩ := k
  refine ⟨⟨by rw [h.2 l' hl]; exact k1, fun q hq => ?_⟩, k3, k4, k5⟩
  rw [h.1 _ ?_]
  · exact k2 q hq
  · rcases Nat.lt_or_ge l' l with c | c
    · left
      have : 5040 * (l' + 1) ≤ 5040 * l := Nat.mul_le_mul_left _ (by omega)
      omega
    · right
      have : 5040 * (l + 1) ≤ 5040 * l' := Nat.mul_le_mul_left _ (by omega)
      omega
theorem KO.push {m l k : Nat} {S : MS} {a b : Int} (hk : k < 5040) : KO m l S ((S.setI (m+8) (5040 * l + k) a).setI (m+9) l b) := by
  refine ⟨fun q hq => ?_, fun q hq => ?_⟩
  · rw [sI_Ia (by omega), sI_I, if_neg (by omega)]
  · rw [sI_I, if_neg (fun k => hq k.2), sI_Ia (by omega)]
theorem f_parts {d m n l kn x t : Nat} {L : List Nat} {Q : Out → MS → Prop} (hd : 2 ≤ d) (h3 : 3 ≤ n) (h7 : n ≤ 7) (hk : kn < 3) (hx : x < 2 ^ n) (hp : pc x = pansK kn) (hl35 : l < 35) (ht : t < 7) : ∀ (j : Nat) {S : MS} {k : Nat}, RLay S m → Tb S m n → LV S m n l L → KL S m (l+1) (prt n kn x t (L.take k)) → k + j = L.length →
    (∀ S', Fr m [8, 9] [] S S' → KO m (l+1) S S' → KL S' m (l+1) (prt n kn x t L) → Q (.inl none) S') → VX11_parts_12 d Q (j + 1) m (l : Nat) (kn : Nat) (x : Nat) (t : Nat) (k : Nat) S := by
  have p7 := p2_7 h7
  have hf := fct_le h3 h7
  intro j
  induction j with
  | zero =>
    intro S k hL hT hV hP hj h
    obtain ⟨hK, hrow, hlen, hl36⟩ := hV
    have hl := hL
    unfold RLay at hl
    unfold VX11_parts_12
    simp only [hl, sI_K, sI_N, sI_R, sI_J, Option.some.injEq, exists_eq_left', true_and, and_true, Int.toNat_zero, Int.reduceToNat, Int.reduceLT, Int.reduceLE, Int.cast_ofNat_Int, forall_eq, ge_iff_le, Int.reduceNeg, Int.reduceAdd, Int.reduceSub, Int.reduceMul, Int.reduceEq, r32_0, r32_1, r32_m1, b01_0, b01_1, not_true_eq_false, not_false_eq_true, false_implies, true_implies, implies_true, forall_const]
    rw [Int.toNat_natCast, hK.1]
    rw [show L.take k = L by rw [show k = L.length by omega]; exact List.take_length] at hP
    exact ⟨by omega, ⟨(by unfold R32; omega), (by unfold R32; omega)⟩, fun _ => h S Fr.rf KO.rf hP, fun c => by omega⟩
  | succ j ih =>
    intro S k hL hT hV hP hj h
    have hV' := hV
    obtain ⟨hK, hrow, hlen, hl36⟩ := hV
    have hl := hL
    unfold RLay at hl
    have hkl : k < L.length := by omega
    have hrk := hrow _ (getD_mem hkl)
    obtain ⟨e1, e2, -, -⟩ := rs_N (kn := kn) h3 h7 hrk hx (by rw [hp]; exact belK_pans hk)
    have hpl := prt_len n kn x t (L.take k)
    have htl := List.length_take_le k L
    have es := prt_s (n := n) (kn := kn) (x := x) (t := t) hkl
    unfold VX11_parts_12 VX11_parts_84
    simp only [hl, sI_K, sI_N, sI_R, sI_J, Option.some.injEq, exists_eq_left', true_and, and_true, Int.toNat_zero, Int.reduceToNat, Int.reduceLT, Int.reduceLE, Int.cast_ofNat_Int, forall_eq, ge_iff_le, Int.reduceNeg, Int.reduceAdd, Int.reduceSub, Int.reduceMul, Int.reduceEq, r32_0, r32_1, r32_m1, b01_0, b01_1, not_true_eq_false, not_false_eq_true, false_implies, true_implies, implies_true, forall_const]
    rw [Int.toNat_natCast, hK.1]
    refine ⟨by omega, ⟨(by unfold R32; omega), (by unfold R32; omega)⟩, fun _ => by omega, fun c => c_rowAt (r := l) (p := k) (by omega) hL rfl rfl (by omega) (oI_i ⟨hL.1, ?_⟩)⟩
    rw [hK.2 k hkl]
    refine c_riser (n := n) (kn := kn) (x := x) (by omega) hL h3 h7 hT rfl rfl rfl hk (by omega) hrk (oI_i ?_)
    rw [e1]
    refine ⟨⟨(by unfold R32; omega), (by unfold R32; omega)⟩, fun c2 => ?_, fun c2 => ?_⟩
    · simp only [hl, sI_K, sI_N, sI_R, sI_J, Option.some.injEq, exists_eq_left', true_and, and_true, Int.toNat_zero, Int.reduceToNat, Int.reduceLT, Int.reduceLE, Int.cast_ofNat_Int, forall_eq, ge_iff_le, Int.reduceNeg, Int.reduceAdd, Int.reduceSub, Int.reduceMul, Int.reduceEq, r32_0, r32_1, r32_m1, b01_0, b01_1, not_true_eq_false, not_false_eq_true, false_implies, true_implies, implies_true, forall_const]
      rw [show ((l : Int) + 1).toNat = l + 1 by omega, hP.1, show (5040 * ((l : Int) + 1) + ((prt n kn x t (L.take k)).length : Int)).toNat = 5040 * (l + 1) + (prt n kn x t (L.take k)).length by omega, i2S_n (by omega), i2S_n (by omega), sI_Ia (by omega), hP.1]
      refine ⟨by omega, by omega, by omega, by omega, ?_⟩
      have p := KL.push (r := L.getD k 0) hP
      rw [if_pos (by omega)] at es
      rw [← es] at p
      have f1 : Fr m [8, 9] [] S ((S.setI (m+8) (5040 * (l+1) + (prt n kn x t (L.take k)).length) (L.getD k 0 : Nat)).setI (m+9) (l+1) (((prt n kn x t (L.take k)).length : Int) + 1)) := (Fr.sA (by decide) (by decide)).tr (Fr.sA (by decide) (by decide))
      have o1 : KO m (l+1) S ((S.setI (m+8) (5040 * (l+1) + (prt n kn x t (L.take k)).length) (L.getD k 0 : Nat)).setI (m+9) (l+1) (((prt n kn x t (L.take k)).length : Int) + 1)) := KO.push (by omega)
      exact ih (k := k + 1) (f1.lay hL) (f1.tb (by decide) (by decide) (by decide) hT) (o1.lv (by omega) hV') p (by omega) (fun S' f o => h S' (f1.tr f) (o1.tr o))
    · rw [if_neg (by omega)] at es
      exact ih (k := k + 1) hL hT hV' (by rw [es]; exact hP) (by omega) h
theorem c_parts {d m n l kn x t : Nat} {L : List Nat} {S : MS} {Q : Out → MS → Prop} {x1 x2 x3 x4 : Int} (hd : 3 ≤ d) (hL : RLay S m) (h3 : 3 ≤ n) (h7 : n ≤ 7) (hT : Tb S m n) (hV : LV S m n l L) (e1 : x1 = (l : Int)) (e2 : x2 = (kn : Int)) (e3 : x3 = (x : Int)) (e4 : x4 = (t : Int)) (hk : kn < 3) (hx : x < 2 ^ n) (hp : pc x = pansK kn) (hl35 : l < 35) (ht : t < 7)
    (h : ∀ S', Fr m [8, 9] [] S S' → KO m (l+1) S S' → LV S' m n (l+1) (prt n kn x t L) → Q (.inl none) S') : Mw hX11_parts yX11_parts d [vA m, vI x1, vI x2, vI x3, vI x4] S Q := by
  subst e1 e2 e3 e4
  have hf := fct_le h3 h7
  obtain ⟨dd, rfl⟩ : ∃ e, d = e + 1 := ⟨d - 1, by omega⟩
  refine MX11_parts ?_
  have hl := hL
  unfold RLay at hl
  unfold VX11_parts_0
  simp only [hl, sI_K, sI_N, sI_R, sI_J, Option.some.injEq, exists_eq_left', true_and, and_true, Int.toNat_zero, Int.reduceToNat, Int.reduceLT, Int.reduceLE, Int.cast_ofNat_Int, forall_eq, ge_iff_le, Int.reduceNeg, Int.reduceAdd, Int.reduceSub, Int.reduceMul, Int.reduceEq, r32_0, r32_1, r32_m1, b01_0, b01_1, not_true_eq_false, not_false_eq_true, false_implies, true_implies, implies_true, forall_const]
  rw [show ((l : Int) + 1).toNat = l + 1 by omega]
  have o1 : KO m (l+1) S (S.setI (m+9) (l+1) 0) := ⟨fun q hq => by rw [sI_Ia (by omega)], fun q hq => by rw [sI_I, if_neg (fun k => hq k.2)]⟩
  refine ⟨by omega, L.length + 1, f_parts (L := L) (by omega) h3 h7 hk hx hp hl35 ht L.length (k := 0) (by exact hL) (Fr.tb (A := [9]) (B := []) (Fr.sA (by decide) (by decide)) (by decide) (by decide) (by decide) hT) (o1.lv (by omega) hV) ⟨?_, fun k hk => absurd hk (Nat.not_lt_zero k)⟩ (by omega) (fun S' f o k => h S' ((Fr.sA (by decide) (by decide)).tr f) (o1.tr o) ⟨k, prt_mem hV.2.1, Nat.le_trans (prt_len n kn x t L) hV.2.2.1, by omega⟩)⟩
  rw [sI_I, if_pos ⟨rfl, rfl⟩]
  rfl
/-! members of a set -/
def mbr (x k : Nat) : Int := ff (fun t => x.testBit t && decide (cntB (fun u => x.testBit u) t = k)) 7 0
def tzF (x : Nat) : Int := if x = 0 then 32 else ff (fun t => x.testBit t) 7 0
def ntY (x : Nat) : Int := iAnd (iXor (x : Int) (-1)) ((x : Int) - 1)
theorem nt_a : ∀ x : Nat, x < 128 → (-1 ≤ ntY x ∧ ntY x ≤ 127) ∧ (ntY x ≤ 0 → iAnd (ntY x) 32 = tzF x) := by decide +kernel
theorem nt_b : ∀ x : Nat, x < 128 → (0 < ntY x → ntY x ≤ 16 → ntY x ≤ 4 → 1 + iUshr (ntY x) 1 = tzF x) ∧ (0 < ntY x → ntY x ≤ 16 → ¬ ntY x ≤ 4 → 1 + 2 + iUshr (iUshr (ntY x) 2) 1 = tzF x) := by decide +kernel
theorem nt_c : ∀ x : Nat, x < 128 → (0 < ntY x → ¬ ntY x ≤ 16 → iUshr (ntY x) 4 ≤ 4 → 1 + 4 + iUshr (iUshr (ntY x) 4) 1 = tzF x) ∧ (0 < ntY x → ¬ ntY x ≤ 16 → ¬ iUshr (ntY x) 4 ≤ 4 → 1 + 4 + 2 + iUshr (iUshr (iUshr (ntY x) 4) 2) 1 = tzF x) := by decide +kernel
theorem iUshr_R (a b : Int) : R32 (iUshr a b) := ⟨Int32.le_toInt _, Int32.toInt_lt _⟩
theorem c_ntz {d x : Nat} {S : MS} {Q : Out → MS → Prop} {v : Int} (hd : 1 ≤ d) (e : v = (x : Int)) (hx : x < 128) (h : Q (.inl (some (vI (tzF x)))) S) : Mw hJ6_numberOfTrailingZeros_0f7a4 yJ6_numberOfTrailingZeros_0f7a4 d [vI v] S Q := by
  subst e
  obtain ⟨h0, h1⟩ := nt_a x hx
  obtain ⟨h2, h4⟩ := nt_b x hx
  obtain ⟨h5, h6⟩ := nt_c x hx
  obtain ⟨dd, rfl⟩ : ∃ e, d = e + 1 := ⟨d - 1, by omega⟩
  refine MJ6_numberOfTrailingZeros_0f7a4 ?_
  unfold VJ6_numberOfTrailingZeros_0f7a4_0
  have ey : iAnd (iXor (x : Int) (-1)) ((x : Int) - 1) = ntY x := rfl
  rw [ey]
  unfold VJ6_numberOfTrailingZeros_0f7a4_34 VJ6_numberOfTrailingZeros_0f7a4_49 VJ6_numberOfTrailingZeros_0f7a4_62 VJ6_numberOfTrailingZeros_0f7a4_74
  refine ⟨(by unfold R32; omega), fun c => ⟨⟨(by unfold R32; omega), (by unfold R32; omega)⟩, fun _ => ⟨⟨(by unfold R32; omega), (by unfold R32; omega)⟩, fun _ => ⟨⟨(by unfold R32; omega), (by unfold R32; omega)⟩, fun c2 => ⟨⟨(by unfold R32; omega), (by unfold R32; omega)⟩, fun c3 => ?_, fun c3 => ?_⟩, fun c2 => ⟨⟨iUshr_R _ _, (by unfold R32; omega)⟩, fun c3 => ?_, fun c3 => ?_⟩⟩, fun c => by omega⟩, fun c => by omega⟩, fun c => ?_⟩
  · rw [h2 c c2 c3]; exact h
  · rw [h4 c c2 c3]; exact h
  · rw [h5 c c2 c3]; exact h
  · rw [h6 c c2 c3]; exact h
  · rw [h1 (by omega)]; exact h
def clr (x : Nat) : Nat := x &&& (x - 1)
theorem mb_all : ∀ x : Nat, x < 128 → iAnd (x : Int) ((x : Int) - 1) = (clr x : Nat) ∧ clr x < 128 ∧ (mbr x 0 = if x = 0 then -1 else tzF x) ∧ ∀ k, k < 8 → mbr x (k + 1) = mbr (clr x) k := by decide +kernel
theorem f_mb {d k : Nat} {S : MS} {Q : Out → MS → Prop} (hd : 1 ≤ d) (hk : k ≤ 8) : ∀ (j : Nat) {x p : Nat}, x < 128 → p + j = k → Q (.inl (some (vI (mbr x j)))) S → VX11_memberOf_4 d Q (j + 1) (k : Nat) (x : Nat) (p : Nat) S := by
  intro j
  induction j with
  | zero =>
    intro x p hx hp h
    have a := (mb_all x hx).2.2.1
    unfold VX11_memberOf_4
    refine ⟨⟨(by unfold R32; omega), (by unfold R32; omega)⟩, fun _ => ⟨(by unfold R32; omega), fun c => c_ntz (x := x) hd rfl hx (oI_i ?_), fun c => ?_⟩, fun c => by omega⟩
    · rw [a, if_neg (by omega)] at h; exact h
    · rw [a, if_pos (by omega)] at h; exact h
  | succ j ih =>
    intro x p hx hp h
    obtain ⟨a1, a2, -, a4⟩ := mb_all x hx
    unfold VX11_memberOf_4
    refine ⟨⟨(by unfold R32; omega), (by unfold R32; omega)⟩, fun _ => by omega, fun c => ?_⟩
    rw [a1]
    exact ih (p := p + 1) a2 (by omega) (by rw [← a4 j (by omega)]; exact h)
theorem c_memberOf {d x k : Nat} {S : MS} {Q : Out → MS → Prop} {x1 x2 : Int} (hd : 2 ≤ d) (e1 : x1 = (x : Int)) (e2 : x2 = (k : Int)) (hx : x < 128) (hk : k ≤ 8) (h : Q (.inl (some (vI (mbr x k)))) S) : Mw hX11_memberOf yX11_memberOf d [vI x1, vI x2] S Q := by
  subst e1 e2
  obtain ⟨dd, rfl⟩ : ∃ e, d = e + 1 := ⟨d - 1, by omega⟩
  refine MX11_memberOf ?_
  unfold VX11_memberOf_0
  exact ⟨_, f_mb (by omega) hk k (p := 0) hx (by omega) h⟩
def mbN (x k : Nat) : Nat := (mbr x k).toNat
theorem mb_ok : ∀ x : Nat, x < 128 → ∀ k, k < 8 → (k < pc x → mbr x k = (mbN x k : Nat) ∧ mbN x k < 7 ∧ x.testBit (mbN x k) = true) ∧ (pc x ≤ k → mbr x k = -1) := by decide +kernel
/-! bounds -/
def bdF (p : Nat) : Nat → Nat
  | 0 => 2
  | k + 1 => min 5040 (bdF p k * p)
theorem bdF_le (p : Nat) : ∀ k, bdF p k ≤ 5040
  | 0 => by unfold bdF; decide
  | k + 1 => Nat.min_le_left _ _
theorem f_bd {d p k : Nat} {S : MS} {Q : Out → MS → Prop} (hp : p ≤ 4) (hk : k ≤ 1000) (h : Q (.inl (some (vI (bdF p k : Nat)))) S) : ∀ (j : Nat) {i : Nat}, i + j = k → VX11_boundFor_4 d Q (j + 1) (p : Nat) (k : Nat) (bdF p i : Nat) (i : Nat) S := by
  intro j
  induction j with
  | zero =>
    intro i hi
    unfold VX11_boundFor_4
    refine ⟨⟨(by unfold R32; omega), (by unfold R32; omega)⟩, fun _ => ?_, fun c => by omega⟩
    rw [show i = k by omega]
    exact h
  | succ j ih =>
    intro i hi
    have b := bdF_le p i
    have b2 : bdF p i * p ≤ 5040 * 4 := Nat.mul_le_mul b hp
    have e : (bdF p i : Int) * (p : Int) = ((bdF p i * p : Nat) : Int) := by rw [Int.natCast_mul]
    unfold VX11_boundFor_4
    rw [e]
    refine ⟨⟨(by unfold R32; omega), (by unfold R32; omega)⟩, fun _ => by omega, fun c => ⟨⟨(by unfold R32; omega), (by unfold R32; omega)⟩, ?_⟩⟩
    have e2 : min (5040 : Int) ((bdF p i * p : Nat) : Int) = (bdF p (i + 1) : Nat) := by
      show _ = ((min 5040 (bdF p i * p) : Nat) : Int)
      omega
    rw [e2]
    exact ih (i := i + 1) (by omega)
theorem c_boundFor {d p k : Nat} {S : MS} {Q : Out → MS → Prop} {x1 x2 : Int} (hd : 1 ≤ d) (e1 : x1 = (p : Int)) (e2 : x2 = (k : Int)) (hp : p ≤ 4) (hk : k ≤ 1000) (h : Q (.inl (some (vI (bdF p k : Nat)))) S) : Mw hX11_boundFor yX11_boundFor d [vI x1, vI x2] S Q := by
  subst e1 e2
  obtain ⟨dd, rfl⟩ : ∃ e, d = e + 1 := ⟨d - 1, by omega⟩
  refine MX11_boundFor ?_
  unfold VX11_boundFor_0
  exact ⟨_, f_bd hp hk h k (i := 0) (by omega)⟩
theorem f_takes {d m : Nat} {L : List Nat} {Q : Out → MS → Prop} (hlen : L.length ≤ 5040) (hrow : ∀ r ∈ L, r < 5040) : ∀ (j : Nat) {S : MS} {k : Nat}, RLay S m → k + j = L.length → S.I (m+9) 0 = (L.length : Int) → KL S m 1 L → (∀ q, q < k → S.I (m+8) q = (L.getD q 0 : Nat)) → (∀ S', Fr m [8] [] S S' → KL S' m 0 L → Q (.inl none) S') → VX11_takesNext_14 d Q (j + 1) m (k : Nat) S := by
  intro j
  induction j with
  | zero =>
    intro S k hL hj h0 h1 h2 h
    have hl := hL
    unfold RLay at hl
    unfold VX11_takesNext_14
    simp only [hl, sI_K, sI_N, sI_R, sI_J, Option.some.injEq, exists_eq_left', true_and, and_true, Int.toNat_zero, Int.reduceToNat, Int.reduceLT, Int.reduceLE, Int.cast_ofNat_Int, forall_eq, ge_iff_le, Int.reduceNeg, Int.reduceAdd, Int.reduceSub, Int.reduceMul, Int.reduceEq, r32_0, r32_1, r32_m1, b01_0, b01_1, not_true_eq_false, not_false_eq_true, false_implies, true_implies, implies_true, forall_const]
    rw [h0]
    exact ⟨⟨(by unfold R32; omega), (by unfold R32; omega)⟩, fun _ => h S Fr.rf ⟨h0, fun q hq => by rw [Nat.mul_zero, Nat.zero_add]; exact h2 q (by omega)⟩, fun c => by omega⟩
  | succ j ih =>
    intro S k hL hj h0 h1 h2 h
    have hl := hL
    unfold RLay at hl
    have hr := hrow _ (getD_mem (L := L) (k := k) (by omega))
    unfold VX11_takesNext_14
    simp only [hl, sI_K, sI_N, sI_R, sI_J, Option.some.injEq, exists_eq_left', true_and, and_true, Int.toNat_zero, Int.reduceToNat, Int.reduceLT, Int.reduceLE, Int.cast_ofNat_Int, forall_eq, ge_iff_le, Int.reduceNeg, Int.reduceAdd, Int.reduceSub, Int.reduceMul, Int.reduceEq, r32_0, r32_1, r32_m1, b01_0, b01_1, not_true_eq_false, not_false_eq_true, false_implies, true_implies, implies_true, forall_const]
    rw [h0, Int.toNat_natCast, show (5040 + (k : Int)).toNat = 5040 * 1 + k by omega, h1.2 k (by omega), i2S_n (by omega)]
    refine ⟨⟨(by unfold R32; omega), (by unfold R32; omega)⟩, fun _ => by omega, fun c => ⟨by omega, by omega, ih (k := k + 1) (by exact hL) (by omega) (by rw [sI_Ia (by omega)]; exact h0) ⟨by rw [sI_Ia (by omega)]; exact h1.1, fun q hq => ?_⟩ (fun q hq => ?_) (fun S' f => h S' ((Fr.sA (by decide) (by decide)).tr f))⟩⟩
    · rw [sI_I, if_neg (by omega)]
      exact h1.2 q hq
    · rw [sI_I]
      by_cases g : q = k
      · rw [if_pos ⟨rfl, g⟩, g]
      · rw [if_neg (fun k => g k.2)]
        exact h2 q (by omega)
theorem c_takesNext {d m n : Nat} {L : List Nat} {S : MS} {Q : Out → MS → Prop} (hd : 1 ≤ d) (hL : RLay S m) (h3 : 3 ≤ n) (h7 : n ≤ 7) (hV : LV S m n 1 L) (h : ∀ S', Fr m [8, 9] [] S S' → LV S' m n 0 L → Q (.inl none) S') : Mw hX11_takesNext yX11_takesNext d [vA m] S Q := by
  have hf := fct_le h3 h7
  obtain ⟨hK, hrow, hlen, -⟩ := hV
  obtain ⟨dd, rfl⟩ : ∃ e, d = e + 1 := ⟨d - 1, by omega⟩
  refine MX11_takesNext ?_
  have hl := hL
  unfold RLay at hl
  unfold VX11_takesNext_0
  simp only [hl, sI_K, sI_N, sI_R, sI_J, Option.some.injEq, exists_eq_left', true_and, and_true, Int.toNat_zero, Int.reduceToNat, Int.reduceLT, Int.reduceLE, Int.cast_ofNat_Int, forall_eq, ge_iff_le, Int.reduceNeg, Int.reduceAdd, Int.reduceSub, Int.reduceMul, Int.reduceEq, r32_0, r32_1, r32_m1, b01_0, b01_1, not_true_eq_false, not_false_eq_true, false_implies, true_implies, implies_true, forall_const]
  rw [hK.1]
  refine ⟨L.length + 1, f_takes hlen (fun r hr => by have := hrow r hr; omega) L.length (k := 0) (by exact hL) (by omega) (by rw [sI_I, if_pos ⟨rfl, rfl⟩]) ⟨by rw [sI_I, if_neg (by omega)]; exact hK.1, fun q hq => by rw [sI_Ia (by omega)]; exact hK.2 q hq⟩ (fun q hq => absurd hq (Nat.not_lt_zero q)) (fun S' f k => h S' ((Fr.sA (by decide) (by decide)).tr (f.wk (by decide) (by decide))) ⟨k, hrow, hlen, by decide⟩)⟩
