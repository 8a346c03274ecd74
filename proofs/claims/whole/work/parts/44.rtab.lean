/-! the reference's table of rows -/
theorem c_at {d m : Nat} {S : MS} {Q : Out → MS → Prop} {r p : Nat} {x1 x2 : Int} (hd : 1 ≤ d) (hL : RLay S m) (e1 : x1 = r) (e2 : x2 = p) (hr : 7 * r + p < 35280) (h : Q (.inl (some (vI (S.I (m+6) (7 * r + p))))) S) : Mw hX11_at yX11_at d [vA m, vI x1, vI x2] S Q := by
  subst e1 e2
  obtain ⟨e, rfl⟩ : ∃ e, d = e + 1 := ⟨d - 1, by omega⟩
  refine MX11_at ?_
  have hl := hL
  unfold RLay at hl
  unfold VX11_at_0
  simp only [hl, sI_K, sI_N, sI_R, sI_J, Option.some.injEq, exists_eq_left', true_and, and_true, Int.toNat_zero, Int.reduceToNat, Int.reduceLT, Int.reduceLE, Int.cast_ofNat_Int, forall_eq, ge_iff_le, Int.reduceNeg, Int.reduceAdd, Int.reduceSub, Int.reduceMul, Int.reduceEq, r32_0, r32_1, r32_m1, b01_0, b01_1, not_true_eq_false, not_false_eq_true, false_implies, true_implies, implies_true, forall_const]
  refine ⟨by omega, ?_⟩
  rw [show (7 * (r : Int) + (p : Int)).toNat = 7 * r + p by omega]
  exact h
theorem c_rowAt {d m : Nat} {S : MS} {Q : Out → MS → Prop} {r p : Nat} {x1 x2 : Int} (hd : 1 ≤ d) (hL : RLay S m) (e1 : x1 = r) (e2 : x2 = p) (hr : 5040 * r + p < 181440) (h : Q (.inl (some (vI (S.I (m+8) (5040 * r + p))))) S) : Mw hX11_rowAt yX11_rowAt d [vA m, vI x1, vI x2] S Q := by
  subst e1 e2
  obtain ⟨e, rfl⟩ : ∃ e, d = e + 1 := ⟨d - 1, by omega⟩
  refine MX11_rowAt ?_
  have hl := hL
  unfold RLay at hl
  unfold VX11_rowAt_0
  simp only [hl, sI_K, sI_N, sI_R, sI_J, Option.some.injEq, exists_eq_left', true_and, and_true, Int.toNat_zero, Int.reduceToNat, Int.reduceLT, Int.reduceLE, Int.cast_ofNat_Int, forall_eq, ge_iff_le, Int.reduceNeg, Int.reduceAdd, Int.reduceSub, Int.reduceMul, Int.reduceEq, r32_0, r32_1, r32_m1, b01_0, b01_1, not_true_eq_false, not_false_eq_true, false_implies, true_implies, implies_true, forall_const]
  refine ⟨by omega, ?_⟩
  rw [show (5040 * (r : Int) + (p : Int)).toNat = 5040 * r + p by omega]
  exact h
theorem f_158 {d m : Nat} {Q : Out → MS → Prop} {b2 n lo : Nat} {F : Nat → Nat} (hb : b2 + n ≤ 35280) (hF : ∀ p, p < n → F p < 128) (hlo : 0 < lo) : ∀ (j : Nat) {S : MS} {a b : Nat}, RLay S m → b + 1 - a ≤ j → lo ≤ a → a + b = lo + (n - 1) → a ≤ n → b < n →
    (∀ p, p < n → S.I (m+6) (b2 + p) = ((if (lo ≤ p ∧ p < a) ∨ (b < p ∧ p ≤ n - 1) then F (lo + (n - 1) - p) else F p : Nat) : Int)) →
    (∀ S', Fr m [6] [] S S' → (∀ p, p < n → S'.I (m+6) (b2 + p) = (rvs F lo (n - 1) p : Nat)) → (∀ k, (k < b2 ∨ b2 + n ≤ k) → S'.I (m+6) k = S.I (m+6) k) → Q (.inl (some (vI 1))) S') →
    VX11_follows_158 d Q (j + 1) m (b2 : Nat) (a : Nat) (b : Nat) S := by
  intro j
  induction j with
  | zero =>
    intro S a b hL hm h1 h2 h3 h3b h4 h
    have hl := hL
    unfold RLay at hl
    unfold VX11_follows_158
    refine ⟨⟨(by unfold R32; omega), (by unfold R32; omega)⟩, fun _ => ⟨b01_1, h S Fr.rf (fun p hp => ?_) (fun _ _ => rfl)⟩, fun c => by omega⟩
    rw [h4 p hp]
    unfold rvs
    by_cases c1 : lo ≤ p ∧ p ≤ n - 1
    · rw [if_pos (by omega), if_pos c1]
    · rw [if_neg (by omega), if_neg c1]
  | succ j ih =>
    intro S a b hL hm h1 h2 h3 h3b h4 h
    have hl := hL
    unfold RLay at hl
    unfold VX11_follows_158
    refine ⟨⟨(by unfold R32; omega), (by unfold R32; omega)⟩, fun c => ⟨b01_1, h S Fr.rf (fun p hp => ?_) (fun _ _ => rfl)⟩, fun c => ?_⟩
    · rw [h4 p hp]
      unfold rvs
      by_cases c1 : lo ≤ p ∧ p ≤ n - 1
      · rw [if_pos c1]
        by_cases c2 : (lo ≤ p ∧ p < a) ∨ (b < p ∧ p ≤ n - 1)
        · rw [if_pos c2]
        · rw [if_neg c2, show lo + (n - 1) - p = p by omega]
      · rw [if_neg (by omega), if_neg c1]
    · simp only [hl, sI_K, sI_N, sI_R, sI_J, Option.some.injEq, exists_eq_left', true_and, and_true, Int.toNat_zero, Int.reduceToNat, Int.reduceLT, Int.reduceLE, Int.cast_ofNat_Int, forall_eq, ge_iff_le, Int.reduceNeg, Int.reduceAdd, Int.reduceSub, Int.reduceMul, Int.reduceEq, r32_0, r32_1, r32_m1, b01_0, b01_1, not_true_eq_false, not_false_eq_true, false_implies, true_implies, implies_true, forall_const]
      have ea : ((b2 : Int) + (a : Int)).toNat = b2 + a := by omega
      have eb : ((b2 : Int) + (b : Int)).toNat = b2 + b := by omega
      rw [ea, eb]
      have va : S.I (m+6) (b2 + a) = (F a : Nat) := by rw [h4 a (by omega), if_neg (by omega)]
      have vb : S.I (m+6) (b2 + b) = (F b : Nat) := by rw [h4 b (by omega), if_neg (by omega)]
      rw [va, vb, i2B_n (hF b (by omega)), i2B_n (hF a (by omega))]
      refine ⟨by omega, by omega, by omega, by omega, ?_⟩
      rw [show (a : Int) + 1 = ((a + 1 : Nat) : Int) by omega, show (b : Int) + -1 = ((b - 1 : Nat) : Int) by omega]
      refine ih (by exact hL) (by omega) (by omega) (by omega) (by omega) (by omega) (fun p hp => ?_) (fun S' f1 f2 f3 => h S' ((Fr.sA (by decide) (by decide)).tr ((Fr.sA (by decide) (by decide)).tr f1)) f2 (fun k hk => ?_))
      · rw [sI_I, sI_I]
        by_cases c1 : p = b
        · subst c1
          rw [if_pos ⟨rfl, rfl⟩, if_pos (by omega), show lo + (n - 1) - p = a by omega]
        · rw [if_neg (by omega)]
          by_cases c2 : p = a
          · subst c2
            rw [if_pos ⟨rfl, rfl⟩, if_pos (by omega), show lo + (n - 1) - p = b by omega]
          · rw [if_neg (by omega), h4 p hp]
            by_cases c3 : (lo ≤ p ∧ p < a) ∨ (b < p ∧ p ≤ n - 1)
            · rw [if_pos c3, if_pos (by omega)]
            · rw [if_neg c3, if_neg (by omega)]
      · rw [f3 k hk, sI_I, if_neg (by omega), sI_I, if_neg (by omega)]
theorem f_81 {d m : Nat} {Q : Out → MS → Prop} {b1 b2 n k x : Nat} {f : Nat → Nat} (hb1 : b1 + n ≤ b2) (hb : b2 + n ≤ 35280) (hF : ∀ p, p < n → f p < 128) (hk : k + 1 < n) (hx : x < n) (hkx : k < x) : ∀ (j : Nat) {S : MS} {i : Nat}, RLay S m → i + j = n →
    (∀ p, p < n → S.I (m+6) (b1 + p) = (f p : Nat)) → (∀ p, p < i → S.I (m+6) (b2 + p) = (f p : Nat)) →
    (∀ S', Fr m [6] [] S S' → (∀ p, p < n → S'.I (m+6) (b2 + p) = (rvs (swp f k x) (k + 1) (n - 1) p : Nat)) → (∀ k, (k < b2 ∨ b2 + n ≤ k) → S'.I (m+6) k = S.I (m+6) k) → Q (.inl (some (vI 1))) S') →
    VX11_follows_81 d Q (j + 1) m (b1 : Nat) (b2 : Nat) (n : Nat) (k : Nat) (x : Nat) (i : Nat) S := by
  intro j
  induction j with
  | zero =>
    intro S i hL hm h1 h2 h
    have hl := hL
    unfold RLay at hl
    unfold VX11_follows_81
    refine ⟨⟨(by unfold R32; omega), (by unfold R32; omega)⟩, fun _ => ?_, fun c => by omega⟩
    simp only [hl, sI_K, sI_N, sI_R, sI_J, Option.some.injEq, exists_eq_left', true_and, and_true, Int.toNat_zero, Int.reduceToNat, Int.reduceLT, Int.reduceLE, Int.cast_ofNat_Int, forall_eq, ge_iff_le, Int.reduceNeg, Int.reduceAdd, Int.reduceSub, Int.reduceMul, Int.reduceEq, r32_0, r32_1, r32_m1, b01_0, b01_1, not_true_eq_false, not_false_eq_true, false_implies, true_implies, implies_true, forall_const]
    have e1 : ((b1 : Int) + (x : Int)).toNat = b1 + x := by omega
    have e2 : ((b2 : Int) + (x : Int)).toNat = b2 + x := by omega
    have e3 : ((b1 : Int) + (k : Int)).toNat = b1 + k := by omega
    have e4 : ((b2 : Int) + (k : Int)).toNat = b2 + k := by omega
    rw [e1, e2, e3, e4, sI_I, if_neg (by omega), h1 x hx, h1 k (by omega), i2B_n (hF x hx), i2B_n (hF k (by omega))]
    refine ⟨by omega, by omega, by omega, by omega, n - 1 + 1 - (k + 1) + 1, ?_⟩
    rw [show (k : Int) + 1 = ((k + 1 : Nat) : Int) by omega, show (n : Int) - 1 = ((n - 1 : Nat) : Int) by omega]
    refine f_158 (F := swp f k x) hb (fun p hp => ?_) (by omega) _ (by exact hL) (by omega) (by omega) (by omega) (by omega) (by omega) (fun p hp => ?_) (fun S' f1 f2 f3 => h S' ((Fr.sA (by decide) (by decide)).tr ((Fr.sA (by decide) (by decide)).tr f1)) f2 (fun q hq => ?_))
    · unfold swp
      split
      · exact hF k (by omega)
      · split
        · exact hF x hx
        · exact hF p hp
    · rw [if_neg (by omega), sI_I, sI_I]
      unfold swp
      by_cases c1 : p = x
      · rw [if_pos (by omega), if_pos c1]
      · rw [if_neg (by omega), if_neg c1]
        by_cases c2 : p = k
        · rw [if_pos (by omega), if_pos c2]
        · rw [if_neg (by omega), if_neg c2, h2 p (by omega)]
    · rw [f3 q hq, sI_I, if_neg (by omega), sI_I, if_neg (by omega)]
  | succ j ih =>
    intro S i hL hm h1 h2 h
    have hl := hL
    unfold RLay at hl
    unfold VX11_follows_81
    refine ⟨⟨(by unfold R32; omega), (by unfold R32; omega)⟩, fun _ => by omega, fun c => ?_⟩
    simp only [hl, sI_K, sI_N, sI_R, sI_J, Option.some.injEq, exists_eq_left', true_and, and_true, Int.toNat_zero, Int.reduceToNat, Int.reduceLT, Int.reduceLE, Int.cast_ofNat_Int, forall_eq, ge_iff_le, Int.reduceNeg, Int.reduceAdd, Int.reduceSub, Int.reduceMul, Int.reduceEq, r32_0, r32_1, r32_m1, b01_0, b01_1, not_true_eq_false, not_false_eq_true, false_implies, true_implies, implies_true, forall_const]
    have e1 : ((b1 : Int) + (i : Int)).toNat = b1 + i := by omega
    have e2 : ((b2 : Int) + (i : Int)).toNat = b2 + i := by omega
    rw [e1, e2, h1 i (by omega), i2B_n (hF i (by omega)), show (i : Int) + 1 = ((i + 1 : Nat) : Int) by omega]
    refine ⟨by omega, by omega, ih (by exact hL) (by omega) (fun p hp => ?_) (fun p hp => ?_) (fun S' f1 f2 f3 => h S' ((Fr.sA (by decide) (by decide)).tr f1) f2 (fun q hq => ?_))⟩
    · rw [sI_I, if_neg (by omega), h1 p hp]
    · rw [sI_I]
      by_cases c1 : p = i
      · rw [if_pos (by omega), c1]
      · rw [if_neg (by omega), h2 p (by omega)]
    · rw [f3 q hq, sI_I, if_neg (by omega)]
theorem lst_gt (f : Nat → Nat) {v k : Nat} (h : v ≤ f (k + 1)) : ∀ j, k + 1 ≤ j → k < lst f v j
  | 0, hj => by omega
  | j + 1, hj => by
    unfold lst
    split
    · rename_i c
      by_cases e : k = j
      · subst e; omega
      · exact lst_gt f h j (by omega)
    · omega
theorem f_51 {d m : Nat} {Q : Out → MS → Prop} {b1 b2 n k : Nat} {f : Nat → Nat} {S : MS} (hL : RLay S m) (hb1 : b1 + n ≤ b2) (hb : b2 + n ≤ 35280) (hF : ∀ p, p < n → f p < 128) (hk : k + 1 < n) (hkk : f k ≤ f (k + 1))
    (h1 : ∀ p, p < n → S.I (m+6) (b1 + p) = (f p : Nat))
    (h : ∀ S', Fr m [6] [] S S' → (∀ p, p < n → S'.I (m+6) (b2 + p) = (rvs (swp f k (lst f (f k) (n - 1))) (k + 1) (n - 1) p : Nat)) → (∀ k, (k < b2 ∨ b2 + n ≤ k) → S'.I (m+6) k = S.I (m+6) k) → Q (.inl (some (vI 1))) S') : ∀ (j : Nat), k < j → j < n → lst f (f k) (n - 1) = lst f (f k) j →
    VX11_follows_51 d Q (j + 1) m (b1 : Nat) (b2 : Nat) (n : Nat) (k : Nat) (j : Nat) S := by
  intro j
  induction j with
  | zero => intro c; omega
  | succ j ih =>
    intro c1 c2 c3
    have hl := hL
    unfold RLay at hl
    unfold VX11_follows_51
    simp only [hl, sI_K, sI_N, sI_R, sI_J, Option.some.injEq, exists_eq_left', true_and, and_true, Int.toNat_zero, Int.reduceToNat, Int.reduceLT, Int.reduceLE, Int.cast_ofNat_Int, forall_eq, ge_iff_le, Int.reduceNeg, Int.reduceAdd, Int.reduceSub, Int.reduceMul, Int.reduceEq, r32_0, r32_1, r32_m1, b01_0, b01_1, not_true_eq_false, not_false_eq_true, false_implies, true_implies, implies_true, forall_const]
    have e1 : ((b1 : Int) + ((j + 1 : Nat) : Int)).toNat = b1 + (j + 1) := by omega
    have e3 : ((b1 : Int) + (k : Int)).toNat = b1 + k := by omega
    rw [e1, e3, h1 _ c2, h1 k (by omega)]
    have q1 := hF (j + 1) c2
    have q2 := hF k (by omega)
    refine ⟨by omega, by omega, ⟨(by unfold R32; omega), (by unfold R32; omega)⟩, fun c => ⟨n + 1, ?_⟩, fun c => ?_⟩
    · have e : lst f (f k) (j + 1) = j + 1 := by unfold lst; rw [if_neg (by omega)]
      rw [c3, e] at h
      exact f_81 hb1 hb hF hk c2 (by omega) n (i := 0) hL (by omega) h1 (fun p hp => absurd hp (Nat.not_lt_zero p)) h
    · rw [show ((j + 1 : Nat) : Int) + -1 = (j : Nat) by omega]
      have e : lst f (f k) (j + 1) = lst f (f k) j := by
        show (if f (j + 1) < f k then lst f (f k) j else j + 1) = _
        rw [if_pos (by omega)]
      refine ih ?_ (by omega) (by rw [c3, e])
      by_cases g : k = j
      · subst g; omega
      · omega
theorem f_5 {d m : Nat} {Q : Out → MS → Prop} {b1 b2 n : Nat} {f : Nat → Nat} {S : MS} (hL : RLay S m) (hn : 3 ≤ n) (hb1 : b1 + n ≤ b2) (hb0 : b1 + n ≤ 35280) (hb : pvt f (n - 1) ≠ 0 → b2 + n ≤ 35280) (hF : ∀ p, p < n → f p < 128)
    (h1 : ∀ p, p < n → S.I (m+6) (b1 + p) = (f p : Nat))
    (h0 : pvt f (n - 1) = 0 → Q (.inl (some (vI 0))) S)
    (h : pvt f (n - 1) ≠ 0 → ∀ S', Fr m [6] [] S S' → (∀ p, p < n → S'.I (m+6) (b2 + p) = (nxt n f p : Nat)) → (∀ k, (k < b2 ∨ b2 + n ≤ k) → S'.I (m+6) k = S.I (m+6) k) → Q (.inl (some (vI 1))) S') : ∀ (j : Nat) (x : Int), j < n → x = (j : Int) - 1 → pvt f (n - 1) = pvt f j →
    VX11_follows_5 d Q (j + 1) m (b1 : Nat) (b2 : Nat) (n : Nat) x S := by
  intro j
  induction j with
  | zero =>
    intro x c1 c2 c3
    subst c2
    unfold VX11_follows_5 VX11_follows_39
    refine ⟨(by unfold R32; omega), fun c => ⟨(by unfold R32; omega), fun c => by omega, fun c => ⟨b01_0, h0 c3⟩⟩, fun c => by omega⟩
  | succ j ih =>
    intro x c1 c2 c3
    have hl := hL
    unfold RLay at hl
    rw [show x = (j : Nat) by omega]
    unfold VX11_follows_5 VX11_follows_39
    simp only [hl, sI_K, sI_N, sI_R, sI_J, Option.some.injEq, exists_eq_left', true_and, and_true, Int.toNat_zero, Int.reduceToNat, Int.reduceLT, Int.reduceLE, Int.cast_ofNat_Int, forall_eq, ge_iff_le, Int.reduceNeg, Int.reduceAdd, Int.reduceSub, Int.reduceMul, Int.reduceEq, r32_0, r32_1, r32_m1, b01_0, b01_1, not_true_eq_false, not_false_eq_true, false_implies, true_implies, implies_true, forall_const]
    have e1 : ((b1 : Int) + (j : Int) + 1).toNat = b1 + (j + 1) := by omega
    have e3 : ((b1 : Int) + (j : Int)).toNat = b1 + j := by omega
    rw [e1, e3, h1 _ c1, h1 j (by omega)]
    have q1 := hF (j + 1) c1
    have q2 := hF j (by omega)
    refine ⟨(by unfold R32; omega), fun c => by omega, fun c => ⟨by omega, by omega, ⟨(by unfold R32; omega), (by unfold R32; omega)⟩, fun g => ⟨(by unfold R32; omega), fun _ => ⟨n, ?_⟩, fun g => by omega⟩, fun g => ?_⟩⟩
    · have e : pvt f (j + 1) = j + 1 := by unfold pvt; rw [if_neg (by omega)]
      obtain ⟨n', rfl⟩ : ∃ n', n = n' + 1 := ⟨n - 1, by omega⟩
      rw [show ((n' + 1 : Nat) : Int) - 1 = (n' : Nat) by omega]
      refine f_51 hL hb1 (hb (by omega)) hF c1 (by omega) h1 (fun S' f1 f2 f3 => h (by omega) S' f1 (fun p hp => ?_) f3) n' (by omega) (by omega) rfl
      rw [f2 p hp]
      unfold nxt
      rw [if_neg (by omega), c3, e]
      rfl
    · refine ih _ (by omega) (by omega) ?_
      rw [c3]
      show (if f (j + 1) < f j then pvt f j else j + 1) = _
      rw [if_pos (by omega)]
theorem c_follows {d m : Nat} {S : MS} {Q : Out → MS → Prop} {b1 b2 n : Nat} {x1 x2 x3 : Int} {f : Nat → Nat} (hd : 1 ≤ d) (hL : RLay S m) (e1 : x1 = b1) (e2 : x2 = b2) (e3 : x3 = n) (hn : 3 ≤ n) (hb1 : b1 + n ≤ b2) (hb0 : b1 + n ≤ 35280) (hb : pvt f (n - 1) ≠ 0 → b2 + n ≤ 35280) (hF : ∀ p, p < n → f p < 128)
    (h1 : ∀ p, p < n → S.I (m+6) (b1 + p) = (f p : Nat))
    (h0 : pvt f (n - 1) = 0 → Q (.inl (some (vI 0))) S)
    (h : pvt f (n - 1) ≠ 0 → ∀ S', Fr m [6] [] S S' → (∀ p, p < n → S'.I (m+6) (b2 + p) = (nxt n f p : Nat)) → (∀ k, (k < b2 ∨ b2 + n ≤ k) → S'.I (m+6) k = S.I (m+6) k) → Q (.inl (some (vI 1))) S') : Mw hX11_follows yX11_follows d [vA m, vI x1, vI x2, vI x3] S Q := by
  subst e1 e2 e3
  obtain ⟨e, rfl⟩ : ∃ e, d = e + 1 := ⟨d - 1, by omega⟩
  refine MX11_follows ?_
  unfold VX11_follows_0
  exact ⟨_, f_5 hL hn hb1 hb0 hb hF h1 h0 h (n - 1) _ (by omega) (by omega) rfl⟩
/-- the table holds all rows of n things -/
def Tb (S : MS) (m n : Nat) : Prop := S.I m 14 = (n : Int) ∧ S.I m 13 = (fct n : Int) ∧ ∀ r, r < fct n → ∀ p, p < n → S.I (m+6) (7 * r + p) = (rat n r p : Nat)
def Tbl (S : MS) (m : Nat) : Prop := R32 (S.I m 14) ∧ ∀ n : Nat, 3 ≤ n → n ≤ 7 → S.I m 14 = (n : Int) → Tb S m n
theorem Fr.tb {m n : Nat} {A B : List Nat} {S S1 : MS} (h : Fr m A B S S1) (h1 : 6 ∉ A) (h2 : 13 ∉ B) (h3 : 14 ∉ B) (k : Tb S m n) : Tb S1 m n := by
  unfold Tb at k ⊢
  rw [h.fld h2, h.fld h3, h.arr (by decide) h1]
  exact k
theorem Tb.l {S : MS} {m n : Nat} (h7 : n ≤ 7) (h : Tb S m n) : Tbl S m := by
  refine ⟨by rw [h.1]; unfold R32; omega, fun k h3 h7 e => ?_⟩
  rw [h.1] at e
  rw [show k = n by omega]
  exact h
theorem f_fills51 {d m n : Nat} {Q : Out → MS → Prop} (hd : 1 ≤ d) (h3 : 3 ≤ n) (h7 : n ≤ 7) : ∀ (j : Nat) {S : MS} {t : Nat}, RLay S m → t + j = fct n → 1 ≤ t → S.I m 14 = (n : Int) → S.I m 13 = (t : Int) →
    (∀ r, r < t → ∀ p, p < n → S.I (m+6) (7 * r + p) = (rat n r p : Nat)) →
    (∀ S', Fr m [6] [13] S S' → Tb S' m n → Q (.inl none) S') → VX11_fills_51 d Q (j + 1) m (n : Nat) S := by
  intro j
  induction j with
  | zero =>
    intro S t hL hj ht e14 e13 hr h
    have hl := hL
    unfold RLay at hl
    unfold VX11_fills_51
    simp only [hl, sI_K, sI_N, sI_R, sI_J, Option.some.injEq, exists_eq_left', true_and, and_true, Int.toNat_zero, Int.reduceToNat, Int.reduceLT, Int.reduceLE, Int.cast_ofNat_Int, forall_eq, ge_iff_le, Int.reduceNeg, Int.reduceAdd, Int.reduceSub, Int.reduceMul, Int.reduceEq, r32_0, r32_1, r32_m1, b01_0, b01_1, not_true_eq_false, not_false_eq_true, false_implies, true_implies, implies_true, forall_const]
    have hf := fct_le h3 h7
    have ok := (rowOk h3 h7 (r := t - 1) (by omega)).2.2
    rw [e13]
    refine c_follows (b1 := 7 * (t - 1)) (b2 := 7 * t) (n := n) (f := rat n (t - 1)) hd hL (by omega) (by omega) rfl h3 (by omega) (by omega) (fun c => absurd (ok.mpr (by omega)) c) (fun p hp => by have := rat_lt (r := t - 1) h3 h7 (by omega) hp; omega) (fun p hp => hr _ (by omega) p hp) (fun _ => oI_i ?_) (fun c => absurd (ok.mpr (by omega)) c)
    simp only [hl, sI_K, sI_N, sI_R, sI_J, Option.some.injEq, exists_eq_left', true_and, and_true, Int.toNat_zero, Int.reduceToNat, Int.reduceLT, Int.reduceLE, Int.cast_ofNat_Int, forall_eq, ge_iff_le, Int.reduceNeg, Int.reduceAdd, Int.reduceSub, Int.reduceMul, Int.reduceEq, r32_0, r32_1, r32_m1, b01_0, b01_1, not_true_eq_false, not_false_eq_true, false_implies, true_implies, implies_true, forall_const]
    exact h S Fr.rf ⟨e14, by rw [e13]; omega, fun r hr2 => hr r (by omega)⟩
  | succ j ih =>
    intro S t hL hj ht e14 e13 hr h
    have hl := hL
    unfold RLay at hl
    unfold VX11_fills_51
    simp only [hl, sI_K, sI_N, sI_R, sI_J, Option.some.injEq, exists_eq_left', true_and, and_true, Int.toNat_zero, Int.reduceToNat, Int.reduceLT, Int.reduceLE, Int.cast_ofNat_Int, forall_eq, ge_iff_le, Int.reduceNeg, Int.reduceAdd, Int.reduceSub, Int.reduceMul, Int.reduceEq, r32_0, r32_1, r32_m1, b01_0, b01_1, not_true_eq_false, not_false_eq_true, false_implies, true_implies, implies_true, forall_const]
    have hf := fct_le h3 h7
    have ok := (rowOk h3 h7 (r := t - 1) (by omega)).2.2
    rw [e13]
    refine c_follows (b1 := 7 * (t - 1)) (b2 := 7 * t) (n := n) (f := rat n (t - 1)) hd hL (by omega) (by omega) rfl h3 (by omega) (by omega) (fun c => by omega) (fun p hp => by have := rat_lt (r := t - 1) h3 h7 (by omega) hp; omega) (fun p hp => hr _ (by omega) p hp) (fun c => ?_) (fun c S1 f1 f2 f3 => oI_i ?_)
    · have := ok.mp c
      omega
    · have hL1 := f1.lay hL
      have hl := hL1
      unfold RLay at hl
      simp only [hl, sI_K, sI_N, sI_R, sI_J, Option.some.injEq, exists_eq_left', true_and, and_true, Int.toNat_zero, Int.reduceToNat, Int.reduceLT, Int.reduceLE, Int.cast_ofNat_Int, forall_eq, ge_iff_le, Int.reduceNeg, Int.reduceAdd, Int.reduceSub, Int.reduceMul, Int.reduceEq, r32_0, r32_1, r32_m1, b01_0, b01_1, not_true_eq_false, not_false_eq_true, false_implies, true_implies, implies_true, forall_const]
      have g13 : S1.I m 13 = (t : Int) := by rw [f1.fld (by decide), e13]
      rw [g13]
      refine ih (t := t + 1) (by exact hL1) (by omega) (by omega) ?_ ?_ (fun r hr2 p hp => ?_) (fun S' k1 k2 => h S' ((f1.wk (by decide) (by decide)).tr ((Fr.sB (by decide)).tr k1)) k2)
      · rw [sI_I, if_neg (by omega), f1.fld (by decide), e14]
      · rw [sI_I, if_pos ⟨rfl, rfl⟩]
        omega
      · rw [sI_Ia (by omega)]
        by_cases c1 : r = t
        · rw [c1, f2 p hp]
          have := rat_s (n := n) (r := t - 1) (by omega) hp
          rw [show t - 1 + 1 = t by omega] at this
          rw [this]
        · rw [f3 _ (by omega), hr r (by omega) p hp]
theorem f_fills27 {d m n : Nat} {Q : Out → MS → Prop} (hd : 1 ≤ d) (h3 : 3 ≤ n) (h7 : n ≤ 7) : ∀ (j : Nat) {S : MS} {i : Nat}, RLay S m → i + j = n → S.I m 14 = (n : Int) →
    (∀ p, p < i → S.I (m+6) p = (p : Nat)) →
    (∀ S', Fr m [6] [13] S S' → Tb S' m n → Q (.inl none) S') → VX11_fills_27 d Q (j + 1) m (n : Nat) (i : Nat) S := by
  intro j
  induction j with
  | zero =>
    intro S i hL hj e14 hr h
    have hl := hL
    unfold RLay at hl
    unfold VX11_fills_27
    refine ⟨⟨(by unfold R32; omega), (by unfold R32; omega)⟩, fun _ => ?_, fun c => by omega⟩
    simp only [hl, sI_K, sI_N, sI_R, sI_J, Option.some.injEq, exists_eq_left', true_and, and_true, Int.toNat_zero, Int.reduceToNat, Int.reduceLT, Int.reduceLE, Int.cast_ofNat_Int, forall_eq, ge_iff_le, Int.reduceNeg, Int.reduceAdd, Int.reduceSub, Int.reduceMul, Int.reduceEq, r32_0, r32_1, r32_m1, b01_0, b01_1, not_true_eq_false, not_false_eq_true, false_implies, true_implies, implies_true, forall_const]
    have hf := fct_pos h3 h7
    refine ⟨fct n - 1 + 1, f_fills51 hd h3 h7 (fct n - 1) (t := 1) (by exact hL) (by omega) (by omega) ?_ ?_ (fun r hr2 p hp => ?_) (fun S' k1 k2 => h S' ((Fr.sB (by decide)).tr k1) k2)⟩
    · rw [sI_I, if_neg (by omega), e14]
    · rw [sI_I, if_pos ⟨rfl, rfl⟩]
      rfl
    · rw [sI_Ia (by omega), show r = 0 by omega, rat_0 (by omega) hp, Nat.mul_zero, Nat.zero_add]
      exact hr p (by omega)
  | succ j ih =>
    intro S i hL hj e14 hr h
    have hl := hL
    unfold RLay at hl
    unfold VX11_fills_27
    refine ⟨⟨(by unfold R32; omega), (by unfold R32; omega)⟩, fun _ => by omega, fun c => ?_⟩
    simp only [hl, sI_K, sI_N, sI_R, sI_J, Option.some.injEq, exists_eq_left', true_and, and_true, Int.toNat_zero, Int.reduceToNat, Int.reduceLT, Int.reduceLE, Int.cast_ofNat_Int, forall_eq, ge_iff_le, Int.reduceNeg, Int.reduceAdd, Int.reduceSub, Int.reduceMul, Int.reduceEq, r32_0, r32_1, r32_m1, b01_0, b01_1, not_true_eq_false, not_false_eq_true, false_implies, true_implies, implies_true, forall_const]
    rw [i2B_n (by omega), i2B_n (by omega), Int.toNat_natCast, show (i : Int) + 1 = ((i + 1 : Nat) : Int) by omega]
    refine ⟨by omega, ih (by exact hL) (by omega) ?_ (fun p hp => ?_) (fun S' k1 k2 => h S' ((Fr.sA (by decide) (by decide)).tr k1) k2)⟩
    · rw [sI_Ia (by omega), e14]
    · rw [sI_I]
      by_cases c1 : p = i
      · rw [if_pos ⟨rfl, c1⟩, c1]
      · rw [if_neg (by omega), hr p (by omega)]
theorem c_fills {d m n : Nat} {S : MS} {Q : Out → MS → Prop} (hd : 2 ≤ d) (hL : RLay S m) (hT : Tbl S m) (h3 : 3 ≤ n) (h7 : n ≤ 7) (hn : S.I (m+1) 0 = (n : Int)) (h : ∀ S', Fr m [6] [13, 14] S S' → Tb S' m n → Q (.inl none) S') : Mw hX11_fills yX11_fills d [vA m] S Q := by
  obtain ⟨e, rfl⟩ : ∃ e, d = e + 1 := ⟨d - 1, by omega⟩
  refine MX11_fills ?_
  have hl := hL
  unfold RLay at hl
  unfold VX11_fills_0
  simp only [hl, sI_K, sI_N, sI_R, sI_J, Option.some.injEq, exists_eq_left', true_and, and_true, Int.toNat_zero, Int.reduceToNat, Int.reduceLT, Int.reduceLE, Int.cast_ofNat_Int, forall_eq, ge_iff_le, Int.reduceNeg, Int.reduceAdd, Int.reduceSub, Int.reduceMul, Int.reduceEq, r32_0, r32_1, r32_m1, b01_0, b01_1, not_true_eq_false, not_false_eq_true, false_implies, true_implies, implies_true, forall_const]
  refine c_things (by omega) hL (oI_i ?_)
  rw [hn]
  refine ⟨⟨hT.1, (by unfold R32; omega)⟩, fun c => ?_, fun c => ?_⟩
  · simp only [hl, sI_K, sI_N, sI_R, sI_J, Option.some.injEq, exists_eq_left', true_and, and_true, Int.toNat_zero, Int.reduceToNat, Int.reduceLT, Int.reduceLE, Int.cast_ofNat_Int, forall_eq, ge_iff_le, Int.reduceNeg, Int.reduceAdd, Int.reduceSub, Int.reduceMul, Int.reduceEq, r32_0, r32_1, r32_m1, b01_0, b01_1, not_true_eq_false, not_false_eq_true, false_implies, true_implies, implies_true, forall_const]
    refine c_things (by omega) hL (oI_i ?_)
    simp only [hl, sI_K, sI_N, sI_R, sI_J, Option.some.injEq, exists_eq_left', true_and, and_true, Int.toNat_zero, Int.reduceToNat, Int.reduceLT, Int.reduceLE, Int.cast_ofNat_Int, forall_eq, ge_iff_le, Int.reduceNeg, Int.reduceAdd, Int.reduceSub, Int.reduceMul, Int.reduceEq, r32_0, r32_1, r32_m1, b01_0, b01_1, not_true_eq_false, not_false_eq_true, false_implies, true_implies, implies_true, forall_const]
    rw [sI_I, if_pos ⟨rfl, rfl⟩, hn]
    refine ⟨n + 1, f_fills27 (by omega) h3 h7 n (i := 0) (by exact hL) (by omega) ?_ (fun p hp => absurd hp (Nat.not_lt_zero p)) (fun S' k1 k2 => h S' ((Fr.sB (by decide)).tr (k1.wk (by decide) (by decide))) k2)⟩
    rw [sI_I, if_pos ⟨rfl, rfl⟩]
  · exact h S Fr.rf (hT.2 n h3 h7 c)
