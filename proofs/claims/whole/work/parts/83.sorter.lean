/-! the class's sorter -/
def QY (S : MS) (a : Nat) : Prop := S.K a = 6 ∧ S.R a 0 = some (a+1) ∧ S.K (a+1) = 13 ∧ S.N (a+1) = 7
theorem Fi.qy {lo hi a : Nat} {S S1 : MS} (h : Fi lo hi S S1) (k : QY S a) : QY S1 a := by
  unfold QY
  rw [h.1, h.2.1, h.2.2.1]
  exact k
def lnK (S : MS) (a : Nat) (g : Nat → Nat) (t : Nat) : Prop := ∀ p, p < t → S.I (a+1) p = (g p : Nat)
theorem pc3_ : ∀ a, a < 7 → ∀ b, b < 7 → ∀ c, c < 7 → (a = b ∨ a = c ∨ b = c ∨ pc (2 ^ a ||| 2 ^ b ||| 2 ^ c) = 3) := by decide +kernel
theorem pc3 (a : Nat) (ha : a < 7) (b : Nat) (hb : b < 7) (c : Nat) (hc : c < 7) (h1 : a ≠ b) (h2 : a ≠ c) (h3 : b ≠ c) : pc (2 ^ a ||| 2 ^ b ||| 2 ^ c) = 3 := by
  rcases pc3_ a ha b hb c hc with h | h | h | h
  · exact absurd h h1
  · exact absurd h h2
  · exact absurd h h3
  · exact h
theorem or3_lt {n a b c : Nat} (ha : a < n) (hb : b < n) (hc : c < n) : 2 ^ a ||| 2 ^ b ||| 2 ^ c < 2 ^ n := Nat.or_lt_two_pow (Nat.or_lt_two_pow (Nat.pow_lt_pow_right (by decide) ha) (Nat.pow_lt_pow_right (by decide) hb)) (Nat.pow_lt_pow_right (by decide) hc)
theorem or3_bit {a b c t : Nat} (h : (2 ^ a ||| 2 ^ b ||| 2 ^ c).testBit t = true) : t = a ∨ t = b ∨ t = c := by
  rw [Nat.testBit_or, Nat.testBit_or, Nat.testBit_two_pow, Nat.testBit_two_pow, Nat.testBit_two_pow] at h
  simp at h
  omega
/-- who of three rises: one of them -/
theorem tr3_in {w : Nat → Int} {n a b c : Nat} (h3 : 3 ≤ n) (h7 : n ≤ 7) (ha : a < n) (hb : b < n) (hc : c < n) (h1 : a ≠ b) (h2 : a ≠ c) (h4 : b ≠ c) : tr3 w n a b c = (rsN n 0 (2 ^ a ||| 2 ^ b ||| 2 ^ c) (rW w n) : Nat) ∧ (rsN n 0 (2 ^ a ||| 2 ^ b ||| 2 ^ c) (rW w n) = a ∨ rsN n 0 (2 ^ a ||| 2 ^ b ||| 2 ^ c) (rW w n) = b ∨ rsN n 0 (2 ^ a ||| 2 ^ b ||| 2 ^ c) (rW w n) = c) := by
  have r := trF_rs (w := w) (kn := 0) h3 h7 (by decide) (or3_lt ha hb hc) (pc3 a (by omega) b (by omega) c (by omega) h1 h2 h4)
  exact ⟨r.1, or3_bit r.2.2⟩
theorem k_lift {d q s n a b c : Nat} {w : Nat → Int} {S : MS} {Q : Out → MS → Prop} {x y z : Int} (hd : 4 ≤ d) (hq : QY S q) (hS : SS S s n w) (hqs : s + 8 ≤ q ∨ q + 2 ≤ s) (e1 : x = (a : Int)) (e2 : y = (b : Int)) (e3 : z = (c : Int)) (ha : a < n) (hb : b < n) (hc : c < n) (h1 : a ≠ b) (h2 : a ≠ c) (h4 : b ≠ c) (h : ∀ r : Nat, (r = a ∨ r = b ∨ r = c) → tr3 w n a b c = (r : Int) → Q (.inl (some (vI (r : Nat)))) (S.setI q 1 (S.I q 1 + 1))) : Mw hX6_lift yX6_lift d [vA q, vA s, vI x, vI y, vI z] S Q := by
  subst e1 e2 e3
  have h37 := hS.2.2.1
  have p7 := p2_7 h37.2.1
  have q1 : 2 ^ a < 2 ^ n := Nat.pow_lt_pow_right (by decide) ha
  have q2 : 2 ^ b < 2 ^ n := Nat.pow_lt_pow_right (by decide) hb
  have q3 : 2 ^ c < 2 ^ n := Nat.pow_lt_pow_right (by decide) hc
  have o1 : 2 ^ a ||| 2 ^ b < 2 ^ n := Nat.or_lt_two_pow q1 q2
  have o2 := or3_lt ha hb hc
  have F : Fi q (q+1) S (S.setI q 1 (S.I q 1 + 1)) := Fi.sI (by omega)
  have r := tr3_in (w := w) h37.1 h37.2.1 ha hb hc h1 h2 h4
  have hl := hq
  unfold QY at hl
  obtain ⟨dd, rfl⟩ : ∃ e, d = e + 1 := ⟨d - 1, by omega⟩
  refine MX6_lift ?_
  unfold VX6_lift_0
  rw [i1_shl (by omega), i1_shl (by omega), i1_shl (by omega), iOr_n (by omega) (by omega), iOr_n (by omega) (by omega)]
  refine ⟨hl.1, hl.1, hS.1.1, k_riser (n := n) (kn := 0) (by omega) (F.ss (by omega) hS) rfl rfl (by decide) o2 (pc3 a (by omega) b (by omega) c (by omega) h1 h2 h4) (oI_i ?_)⟩
  exact h _ r.2 r.1
theorem kf_cm {d q s n t : Nat} {w : Nat → Int} {g : Nat → Nat} {Q : Out → MS → Prop} (hd : 4 ≤ d) (ht : t < n) (ht3 : 3 ≤ t) (hqs : s + 8 ≤ q ∨ q + 2 ≤ s) (hP : Prm t g) : ∀ (f : Nat) {S : MS} {lo hi l u : Nat}, hi < lo + f → lo ≤ hi → hi ≤ t → u + (hi - lo) ≤ 6 → QY S q → SS S s n w → lnK S q g t → S.I q 1 = (l : Int) → (∀ S', Fi q (q+1) S S' → S'.I q 1 = ((cmF w n g t f lo hi l).2 : Nat) → Q (.inl (some (vI ((cmF w n g t f lo hi l).1 : Nat)))) S') → ∃ m, VX6_placeOf_8 d Q m q s (t : Nat) (lo : Nat) (hi : Nat) (u : Nat) S := by
  intro f
  induction f with
  | zero => intro S lo hi l u h1 h2; omega
  | succ f ih =>
    intro S lo hi l u h1 h2 h3 hu hq hS hL h37' h
    have h37 := hS.2.2.1
    have hl := hq
    unfold QY at hl
    have F : Fi q (q+1) S (S.setI q 1 (S.I q 1 + 1)) := Fi.sI (by omega)
    have L1 : ∀ p, p < t → (S.setI q 1 (S.I q 1 + 1)).I (q+1) p = (g p : Nat) := fun p hp => by rw [sI_Ia (by omega)]; exact hL p hp
    have l1 : (S.setI q 1 (S.I q 1 + 1)).I q 1 = ((l + 1 : Nat) : Int) := by rw [sI_I, if_pos ⟨rfl, rfl⟩, h37']; omega
    unfold cmF at h
    by_cases c1 : hi ≤ lo
    · rw [if_pos c1] at h
      refine ⟨1, ?_⟩
      unfold VX6_placeOf_8 VX6_placeOf_203
      exact ⟨⟨(by unfold R32; omega), (by unfold R32; omega)⟩, fun c => by omega, fun _ => ⟨⟨(by unfold R32; omega), (by unfold R32; omega)⟩, fun _ => h S Fi.rf h37', fun c => by omega⟩⟩
    · rw [if_neg c1] at h
      by_cases c2 : hi = lo + 1
      · rw [if_pos c2] at h
        obtain ⟨be, b1, b2⟩ : ∃ be : Nat, max (lo : Int) 1 = (be : Int) ∧ ((lo = 0 ∧ be = 1) ∨ (1 ≤ lo ∧ be = lo)) := by
          by_cases g0 : lo = 0
          · exact ⟨1, by omega, Or.inl ⟨g0, rfl⟩⟩
          · exact ⟨lo, by omega, Or.inr ⟨by omega, rfl⟩⟩
        have gb1 := hP.1 (be - 1) (by omega)
        have gb2 := hP.1 be (by omega)
        have gne : g (be - 1) ≠ g be := fun e => by have := hP.2 (be - 1) be (by omega) (by omega) e; omega
        have eb : tr3 w n t (g (lo - 1)) (g (if lo = 0 then 1 else lo)) = tr3 w n t (g (be - 1)) (g be) := by
          rcases b2 with ⟨e1, e2⟩ | ⟨e1, e2⟩
          · subst e1; subst e2; rfl
          · rw [if_neg (by omega), e2]
        rw [eb] at h
        refine ⟨2, ?_⟩
        unfold VX6_placeOf_8 VX6_placeOf_203 VX6_placeOf_67 VX6_placeOf_88 VX6_placeOf_101 VX6_placeOf_197
        rw [b1, show ((be : Int) - 1) = ((be - 1 : Nat) : Int) by omega]
        simp only [hl, sI_K, sI_N, sI_R, sI_J, sJ_K, sJ_N, sJ_R, sJ_I, sR_K, sR_N, sR_I, sR_J, Option.some.injEq, exists_eq_left', true_and, and_true, and_self_left, Int.toNat_natCast, Int.toNat_zero, Int.reduceToNat, Int.reduceLT, Int.reduceLE, Nat.reduceLeDiff, Nat.reduceLT, Int.cast_ofNat_Int, forall_eq, ge_iff_le, Int.reduceNeg, Int.reduceAdd, Int.reduceSub, Int.reduceMul, Int.reduceEq, r32_0, r32_1, r32_m1, b01_0, b01_1, not_true_eq_false, not_false_eq_true, false_implies, true_implies, implies_true, forall_const]
        rw [hL be (by omega), hL (be - 1) (by omega)]
        refine ⟨⟨(by unfold R32; omega), (by unfold R32; omega)⟩, fun c => by omega, fun _ => ⟨⟨(by unfold R32; omega), (by unfold R32; omega)⟩, fun c => by omega, fun _ => ⟨⟨(by unfold R32; omega), (by unfold R32; omega)⟩, fun c => by omega, fun _ => ⟨(by unfold R32; omega), by omega, by omega, k_lift hd hq hS hqs rfl rfl rfl ht (by omega) (by omega) (by omega) (by omega) gne (fun r hr er => oI_i ?_)⟩⟩⟩⟩
        have fin : ∀ (z : Nat) {S' : MS}, z ≤ t → Q (.inl (some (vI (z : Nat)))) S' → VX6_placeOf_8 d Q 1 q s (t : Nat) (z : Nat) (z : Nat) ((u : Int) + 1) S' := by
          intro z S' hz hQ
          unfold VX6_placeOf_8 VX6_placeOf_203
          exact ⟨⟨(by unfold R32; omega), (by unfold R32; omega)⟩, fun c => hQ, fun _ => ⟨⟨(by unfold R32; omega), (by unfold R32; omega)⟩, fun _ => hQ, fun c => by omega⟩⟩
        have hr7 : r < 7 := by omega
        rw [er] at h
        refine ⟨⟨(by unfold R32; omega), (by unfold R32; omega)⟩, fun c3 => ?_, fun c3 => ?_⟩
        · refine ⟨(by unfold R32; omega), fun c4 => fin hi h3 ?_, fun c4 => fin lo (by omega) ?_⟩
          · rw [if_pos (by omega)] at h
            exact h _ F l1
          · rw [if_neg (by omega)] at h
            exact h _ F l1
        · refine ⟨(by unfold R32; omega), fun c4 => fin lo (by omega) ?_, fun c4 => fin hi h3 ?_⟩
          · rw [if_neg (by omega)] at h
            exact h _ F l1
          · rw [if_pos (by omega)] at h
            exact h _ F l1
      · rw [if_neg c2] at h
        obtain ⟨th, et, bt⟩ : ∃ th : Nat, (hi - lo - 2) / 3 = th ∧ 3 * th ≤ hi - lo - 2 := ⟨(hi - lo - 2) / 3, rfl, by omega⟩
        rw [et] at h
        have gi := hP.1 (lo + th) (by omega)
        have gj := hP.1 (hi - 1 - th) (by omega)
        have gne : g (lo + th) ≠ g (hi - 1 - th) := fun e => by have := hP.2 (lo + th) (hi - 1 - th) (by omega) (by omega) e; omega
        have k1 := fun (c : tr3 w n t (g (lo + th)) (g (hi - 1 - th)) = (t : Int)) => ih (S := S.setI q 1 (S.I q 1 + 1)) (lo := lo + th + 1) (hi := hi - 1 - th) (l := l + 1) (u := u + 1) (by omega) (by omega) (by omega) (by omega) (F.qy hq) (F.ss (by omega) hS) L1 l1 (fun S' f' => by rw [if_pos c] at h; exact h S' (F.tr f'))
        have k2 := fun (c : ¬ tr3 w n t (g (lo + th)) (g (hi - 1 - th)) = (t : Int)) (c' : tr3 w n t (g (lo + th)) (g (hi - 1 - th)) = (g (lo + th) : Int)) => ih (S := S.setI q 1 (S.I q 1 + 1)) (lo := lo) (hi := lo + th) (l := l + 1) (u := u + 1) (by omega) (by omega) (by omega) (by omega) (F.qy hq) (F.ss (by omega) hS) L1 l1 (fun S' f' => by rw [if_neg c, if_pos c'] at h; exact h S' (F.tr f'))
        have k3 := fun (c : ¬ tr3 w n t (g (lo + th)) (g (hi - 1 - th)) = (t : Int)) (c' : ¬ tr3 w n t (g (lo + th)) (g (hi - 1 - th)) = (g (lo + th) : Int)) => ih (S := S.setI q 1 (S.I q 1 + 1)) (lo := hi - 1 - th + 1) (hi := hi) (l := l + 1) (u := u + 1) (by omega) (by omega) (by omega) (by omega) (F.qy hq) (F.ss (by omega) hS) L1 l1 (fun S' f' => by rw [if_neg c, if_neg c'] at h; exact h S' (F.tr f'))
        clear h ih
        obtain ⟨r, hr, er⟩ : ∃ r : Nat, (r = t ∨ r = g (lo + th) ∨ r = g (hi - 1 - th)) ∧ tr3 w n t (g (lo + th)) (g (hi - 1 - th)) = (r : Int) := by
          have := tr3_in (w := w) h37.1 h37.2.1 ht (show g (lo + th) < n by omega) (show g (hi - 1 - th) < n by omega) (by omega) (by omega) gne
          exact ⟨_, this.2, this.1⟩
        have hr7 : r < 7 := by omega
        rw [er] at k1 k2 k3
        have key : ∀ m, ((r = t → VX6_placeOf_8 d Q m q s (t : Nat) ((lo + th + 1 : Nat) : Int) ((hi - 1 - th : Nat) : Int) ((u + 1 : Nat) : Int) (S.setI q 1 (S.I q 1 + 1))) ∧ (r = g (lo + th) → VX6_placeOf_8 d Q m q s (t : Nat) (lo : Nat) ((lo + th : Nat) : Int) ((u + 1 : Nat) : Int) (S.setI q 1 (S.I q 1 + 1))) ∧ (r ≠ t → r ≠ g (lo + th) → VX6_placeOf_8 d Q m q s (t : Nat) ((hi - 1 - th + 1 : Nat) : Int) (hi : Nat) ((u + 1 : Nat) : Int) (S.setI q 1 (S.I q 1 + 1)))) → VX6_placeOf_8 d Q (m + 1) q s (t : Nat) (lo : Nat) (hi : Nat) (u : Nat) S := by
          intro m ⟨m1, m2, m3⟩
          unfold VX6_placeOf_8 VX6_placeOf_197
          rw [show (hi : Int) - (lo : Int) - 2 = ((hi - lo - 2 : Nat) : Int) by omega, show (3 : Int) = ((3 : Nat) : Int) from rfl, iDiv_n (by omega) (by omega), et, show (lo : Int) + (th : Int) = ((lo + th : Nat) : Int) by omega, show (hi : Int) - 1 - (th : Int) = ((hi - 1 - th : Nat) : Int) by omega]
          simp only [hl, sI_K, sI_N, sI_R, sI_J, sJ_K, sJ_N, sJ_R, sJ_I, sR_K, sR_N, sR_I, sR_J, Option.some.injEq, exists_eq_left', true_and, and_true, and_self_left, Int.toNat_natCast, Int.toNat_zero, Int.reduceToNat, Int.reduceLT, Int.reduceLE, Nat.reduceLeDiff, Nat.reduceLT, Int.cast_ofNat_Int, forall_eq, ge_iff_le, Int.reduceNeg, Int.reduceAdd, Int.reduceSub, Int.reduceMul, Int.reduceEq, r32_0, r32_1, r32_m1, b01_0, b01_1, not_true_eq_false, not_false_eq_true, false_implies, true_implies, implies_true, forall_const]
          rw [hL (lo + th) (by omega), hL (hi - 1 - th) (by omega)]
          refine ⟨⟨(by unfold R32; omega), (by unfold R32; omega)⟩, fun c => by omega, fun _ => ⟨⟨(by unfold R32; omega), (by unfold R32; omega)⟩, fun c => by omega, fun _ => ⟨⟨(by unfold R32; omega), (by unfold R32; omega)⟩, fun _ => ⟨⟨(by unfold R32; omega), by omega⟩, by omega, by omega, k_lift hd hq hS hqs rfl rfl rfl ht (by omega) (by omega) (by omega) (by omega) gne (fun r' hr' er' => oI_i ?_)⟩, fun c => by omega⟩⟩⟩
          rw [er] at er'
          have e' : r' = r := by omega
          subst e'
          simp only [hl, sI_K, sI_N, sI_R, sI_J, sJ_K, sJ_N, sJ_R, sJ_I, sR_K, sR_N, sR_I, sR_J, Option.some.injEq, exists_eq_left', true_and, and_true, and_self_left, Int.toNat_natCast, Int.toNat_zero, Int.reduceToNat, Int.reduceLT, Int.reduceLE, Nat.reduceLeDiff, Nat.reduceLT, Int.cast_ofNat_Int, forall_eq, ge_iff_le, Int.reduceNeg, Int.reduceAdd, Int.reduceSub, Int.reduceMul, Int.reduceEq, r32_0, r32_1, r32_m1, b01_0, b01_1, not_true_eq_false, not_false_eq_true, false_implies, true_implies, implies_true, forall_const]
          rw [L1 (lo + th) (by omega)]
          refine ⟨by omega, ⟨(by unfold R32; omega), (by unfold R32; omega)⟩, fun c => ⟨⟨(by unfold R32; omega), (by unfold R32; omega)⟩, fun c' => ?_, fun c' => ?_⟩, fun c => ?_⟩
          · exact m3 (by omega) (by omega)
          · exact m1 (by omega)
          · exact m2 (by omega)
        by_cases a1 : r = t
        · obtain ⟨m, km⟩ := k1 (by omega)
          exact ⟨_, key m ⟨fun _ => km, fun c => by omega, fun c => by omega⟩⟩
        · by_cases a2 : r = g (lo + th)
          · obtain ⟨m, km⟩ := k2 (by omega) (by omega)
            exact ⟨_, key m ⟨fun c => by omega, fun _ => km, fun _ c => by omega⟩⟩
          · obtain ⟨m, km⟩ := k3 (by omega) (by omega)
            exact ⟨_, key m ⟨fun c => by omega, fun c => by omega, fun _ _ => km⟩⟩
theorem k_placeOf {d q s n t l : Nat} {w : Nat → Int} {g : Nat → Nat} {S : MS} {Q : Out → MS → Prop} {x : Int} (hd : 5 ≤ d) (ex : x = (t : Int)) (ht : t < n) (ht3 : 3 ≤ t) (hqs : s + 8 ≤ q ∨ q + 2 ≤ s) (hP : Prm t g) (hq : QY S q) (hS : SS S s n w) (hL : lnK S q g t) (h1 : S.I q 1 = (l : Int)) (h : ∀ S', Fi q (q+1) S S' → S'.I q 1 = ((cmF w n g t 8 0 t l).2 : Nat) → Q (.inl (some (vI ((cmF w n g t 8 0 t l).1 : Nat)))) S') : Mw hX6_placeOf yX6_placeOf d [vA q, vA s, vI x] S Q := by
  subst ex
  have h37 := hS.2.2.1
  obtain ⟨dd, rfl⟩ : ∃ e, d = e + 1 := ⟨d - 1, by omega⟩
  refine MX6_placeOf ?_
  unfold VX6_placeOf_0
  exact kf_cm (by omega) ht ht3 hqs hP 8 (lo := 0) (u := 0) (by omega) (by omega) (by omega) (by omega) hq hS hL h1 h
theorem ins_prm {g : Nat → Nat} {t k : Nat} (h : Prm t g) (hk : k ≤ t) : Prm (t + 1) (ins_ g t k) := by
  have key : ∀ p, p < t + 1 → p ≠ k → ∃ p', p' < t ∧ ins_ g t k p = g p' ∧ p' = (if p < k then p else p - 1) := by
    intro p hp hk'
    unfold ins_
    by_cases c : p < k
    · exact ⟨p, by omega, by rw [if_pos c], by rw [if_pos c]⟩
    · exact ⟨p - 1, by omega, by rw [if_neg c, if_neg hk'], by rw [if_neg c]⟩
  have kk : ins_ g t k k = t := by unfold ins_; rw [if_neg (by omega), if_pos rfl]
  refine ⟨fun p hp => ?_, fun p q hp hq e => ?_⟩
  · by_cases c : p = k
    · rw [c, kk]; omega
    · obtain ⟨p', h1, h2, -⟩ := key p hp c
      rw [h2]; have := h.1 p' h1; omega
  · by_cases c : p = k
    · by_cases c2 : q = k
      · omega
      · obtain ⟨q', h1, h2, -⟩ := key q hq c2
        rw [c, kk, h2] at e
        have := h.1 q' h1; omega
    · obtain ⟨p', h1, h2, e1⟩ := key p hp c
      by_cases c2 : q = k
      · rw [c2, kk, h2] at e
        have := h.1 p' h1; omega
      · obtain ⟨q', h3, h4, e2⟩ := key q hq c2
        rw [h2, h4] at e
        have := h.2 p' q' h1 h3 e
        rw [e1, e2] at this
        split at this <;> split at this <;> omega
theorem so_prm {w : Nat → Int} {n : Nat} (h3 : 3 ≤ n) (h7 : n ≤ 7) : ∀ k, 3 + k ≤ n → Prm (3 + k) (soF w n k).1
  | 0, _ => by
    have r := tr3_in (w := w) (a := 0) (b := 1) (c := 2) h3 h7 (by omega) (by omega) (by omega) (by decide) (by decide) (by decide)
    show Prm 3 (so0 w n)
    unfold so0 Prm
    rw [r.1, Int.toNat_natCast]
    generalize rsN n 0 (2 ^ 0 ||| 2 ^ 1 ||| 2 ^ 2) (rW w n) = m at r
    have z : m < 3 := by omega
    clear r
    refine ⟨fun p hp => ?_, fun p q hp hq e => ?_⟩
    · show (if p = 0 then (if m = 0 then 1 else 0) else if p = 1 then m else (if m = 2 then 1 else 2)) < 3
      by_cases a1 : p = 0
      · rw [if_pos a1]; split <;> omega
      · rw [if_neg a1]
        by_cases a2 : p = 1
        · rw [if_pos a2]; exact z
        · rw [if_neg a2]; split <;> omega
    · have e' : (if p = 0 then (if m = 0 then 1 else 0) else if p = 1 then m else (if m = 2 then 1 else 2)) = (if q = 0 then (if m = 0 then 1 else 0) else if q = 1 then m else (if m = 2 then 1 else 2)) := e
      rcases (show p = 0 ∨ p = 1 ∨ p = 2 by omega) with h | h | h <;> rcases (show q = 0 ∨ q = 1 ∨ q = 2 by omega) with k | k | k <;> rcases (show m = 0 ∨ m = 1 ∨ m = 2 by omega) with j | j | j <;> subst h <;> subst k <;> subst j <;> first | rfl | exact absurd e' (by decide)
  | k + 1, h => by
    have := so_prm (w := w) h3 h7 k (by omega)
    exact ins_prm this (cmF_le 8 0 (3 + k) _ (by omega))
theorem kf_so82 {d q s t k : Nat} {g : Nat → Nat} {Q : Out → MS → Prop} {c54 : Nat → Nat → Int → MS → Prop} (ht : t < 7) (hk : k ≤ t) : ∀ (j : Nat) {S : MS} {x : Nat}, QY S q → k + j = x → x ≤ t → (∀ p, p ≤ t → p ≠ x → S.I (q+1) p = if p < x then (g p : Int) else (g (p - 1) : Int)) → (∀ S', Fi (q+1) (q+2) S S' → lnK S' q (ins_ g t k) (t + 1) → c54 q s ((t : Int) + 1) S') → VX6_sort_82 d c54 Q (j + 1) q s (t : Nat) (k : Nat) (x : Nat) S := by
  intro j
  induction j with
  | zero =>
    intro S x hL hx hxt h1 h
    have hl := hL
    unfold QY at hl
    unfold VX6_sort_82
    simp only [hl, sI_K, sI_N, sI_R, sI_J, sJ_K, sJ_N, sJ_R, sJ_I, sR_K, sR_N, sR_I, sR_J, Option.some.injEq, exists_eq_left', true_and, and_true, and_self_left, Int.toNat_natCast, Int.toNat_zero, Int.reduceToNat, Int.reduceLT, Int.reduceLE, Nat.reduceLeDiff, Nat.reduceLT, Int.cast_ofNat_Int, forall_eq, ge_iff_le, Int.reduceNeg, Int.reduceAdd, Int.reduceSub, Int.reduceMul, Int.reduceEq, r32_0, r32_1, r32_m1, b01_0, b01_1, not_true_eq_false, not_false_eq_true, false_implies, true_implies, implies_true, forall_const]
    refine ⟨⟨(by unfold R32; omega), (by unfold R32; omega)⟩, fun _ => ⟨by omega, h _ (Fi.sI (by omega)) (fun p hp => ?_)⟩, fun c => by omega⟩
    rw [sI_I]
    unfold ins_
    by_cases e : p = k
    · rw [if_pos ⟨rfl, e⟩, if_neg (by omega), if_pos e]
    · rw [if_neg (fun k => e k.2), h1 p (by omega) (by omega)]
      by_cases e2 : p < k
      · rw [if_pos (by omega), if_pos e2]
      · rw [if_neg (by omega), if_neg e2, if_neg e]
  | succ j ih =>
    intro S x hL hx hxt h1 h
    have hl := hL
    unfold QY at hl
    unfold VX6_sort_82
    rw [show (x : Int) + -1 = ((x - 1 : Nat) : Int) by omega, show (x : Int) - 1 = ((x - 1 : Nat) : Int) by omega]
    simp only [hl, sI_K, sI_N, sI_R, sI_J, sJ_K, sJ_N, sJ_R, sJ_I, sR_K, sR_N, sR_I, sR_J, Option.some.injEq, exists_eq_left', true_and, and_true, and_self_left, Int.toNat_natCast, Int.toNat_zero, Int.reduceToNat, Int.reduceLT, Int.reduceLE, Nat.reduceLeDiff, Nat.reduceLT, Int.cast_ofNat_Int, forall_eq, ge_iff_le, Int.reduceNeg, Int.reduceAdd, Int.reduceSub, Int.reduceMul, Int.reduceEq, r32_0, r32_1, r32_m1, b01_0, b01_1, not_true_eq_false, not_false_eq_true, false_implies, true_implies, implies_true, forall_const]
    rw [h1 (x - 1) (by omega) (by omega), if_pos (by omega)]
    have F : Fi (q+1) (q+2) S (S.setI (q+1) x (g (x - 1) : Int)) := Fi.sI (by omega)
    refine ⟨⟨(by unfold R32; omega), (by unfold R32; omega)⟩, fun c => by omega, fun _ => ⟨by omega, by omega, ih (x := x - 1) (F.qy hL) (by omega) (by omega) (fun p hp hpx => ?_) (fun S' f => h S' (F.tr f))⟩⟩
    rw [sI_I]
    by_cases e : p = x
    · rw [if_pos ⟨rfl, e⟩, if_neg (by omega), e]
    · rw [if_neg (fun k => e k.2), h1 p hp e]
      by_cases e2 : p < x
      · rw [if_pos e2, if_pos (by omega)]
      · rw [if_neg e2, if_neg (by omega)]
theorem kf_so54 {d q s n : Nat} {w : Nat → Int} {Q : Out → MS → Prop} (hd : 5 ≤ d) (hqs : s + 8 ≤ q ∨ q + 2 ≤ s) : ∀ (j : Nat) {S : MS} {k : Nat}, QY S q → SS S s n w → 3 + k + j = n → lnK S q (soF w n k).1 (3 + k) → S.I q 1 = ((soF w n k).2 : Nat) → (∀ S', Fi q (q+2) S S' → lnK S' q (soF w n (n - 3)).1 n → S'.I q 1 = ((soF w n (n - 3)).2 : Nat) → Q (.inl none) S') → VX6_sort_54 d Q (j + 1) q s ((3 + k : Nat) : Int) S := by
  intro j
  induction j with
  | zero =>
    intro S k hq hS hk hL h1 h
    have hl := hq
    unfold QY at hl
    have h37 := hS.2.2.1
    have e3 : n - 3 = k := by omega
    have := h S Fi.rf
    rw [e3] at this
    unfold VX6_sort_54
    rw [hS.2.1.1.1, h37.2.2]
    exact ⟨hS.1.1, ⟨(by unfold R32; omega), (by unfold R32; omega)⟩, fun _ => this (fun p hp => hL p (by omega)) h1, fun c => by omega⟩
  | succ j ih =>
    intro S k hq hS hk hL h1 h
    have hl := hq
    unfold QY at hl
    have h37 := hS.2.2.1
    have hP := so_prm (w := w) h37.1 h37.2.1 k (by omega)
    unfold VX6_sort_54
    simp only [hl, sI_K, sI_N, sI_R, sI_J, sJ_K, sJ_N, sJ_R, sJ_I, sR_K, sR_N, sR_I, sR_J, Option.some.injEq, exists_eq_left', true_and, and_true, and_self_left, Int.toNat_natCast, Int.toNat_zero, Int.reduceToNat, Int.reduceLT, Int.reduceLE, Nat.reduceLeDiff, Nat.reduceLT, Int.cast_ofNat_Int, forall_eq, ge_iff_le, Int.reduceNeg, Int.reduceAdd, Int.reduceSub, Int.reduceMul, Int.reduceEq, r32_0, r32_1, r32_m1, b01_0, b01_1, not_true_eq_false, not_false_eq_true, false_implies, true_implies, implies_true, forall_const]
    rw [hS.2.1.1.1, h37.2.2]
    refine ⟨hS.1.1, ⟨(by unfold R32; omega), (by unfold R32; omega)⟩, fun c => by omega, fun _ => ⟨⟨(by unfold R32; omega), (by unfold R32; omega)⟩, fun c => by omega, fun _ => k_placeOf (n := n) (t := 3 + k) (l := (soF w n k).2) (g := (soF w n k).1) hd rfl (by omega) (by omega) hqs hP hq hS hL h1 (fun S1 f1 k1 => oI_i ?_)⟩⟩
    have hle : (cmF w n (soF w n k).1 (3 + k) 8 0 (3 + k) (soF w n k).2).1 ≤ 3 + k := cmF_le 8 0 (3 + k) _ (by omega)
    refine ⟨_, kf_so82 (t := 3 + k) (k := (cmF w n (soF w n k).1 (3 + k) 8 0 (3 + k) (soF w n k).2).1) (g := (soF w n k).1) (by omega) hle (3 + k - (cmF w n (soF w n k).1 (3 + k) 8 0 (3 + k) (soF w n k).2).1) (x := 3 + k) (f1.qy hq) (by omega) (Nat.le_refl _) (fun p hp hpx => ?_) (fun S2 f2 k2 => ?_)⟩
    · rw [if_pos (by omega), f1.I (by omega)]
      exact hL p (by omega)
    · have F : Fi q (q+2) S S2 := (f1.wk (by omega) (by omega)).tr (f2.wk (by omega) (by omega))
      have := ih (S := S2) (k := k + 1) (F.qy hq) (F.ss (by omega) hS) (by omega) k2 (by rw [f2.I (by omega), k1]; rfl) (fun S' f3 => h S' (F.tr f3))
      exact this
theorem k_sort {d q s n : Nat} {w : Nat → Int} {S : MS} {Q : Out → MS → Prop} (hd : 6 ≤ d) (hqs : s + 8 ≤ q ∨ q + 2 ≤ s) (hq : QY S q) (hS : SS S s n w) (h : ∀ S', Fi q (q+2) S S' → lnK S' q (soF w n (n - 3)).1 n → S'.I q 1 = ((soF w n (n - 3)).2 : Nat) → Q (.inl none) S') : Mw hX6_sort yX6_sort d [vA q, vA s] S Q := by
  have hl := hq
  unfold QY at hl
  have h37 := hS.2.2.1
  have F0 : Fi q (q+2) S (S.setI q 1 0) := Fi.sI (by omega)
  have r := tr3_in (w := w) (a := 0) (b := 1) (c := 2) h37.1 h37.2.1 (by omega) (by omega) (by omega) (by decide) (by decide) (by decide)
  obtain ⟨dd, rfl⟩ : ∃ e, d = e + 1 := ⟨d - 1, by omega⟩
  refine MX6_sort ?_
  unfold VX6_sort_0
  refine ⟨hl.1, hl.1, k_lift (n := n) (a := 0) (b := 1) (c := 2) (by omega) (F0.qy hq) (F0.ss (by omega) hS) hqs rfl rfl rfl (by omega) (by omega) (by omega) (by decide) (by decide) (by decide) (fun m hm em => oI_i ?_)⟩
  rw [sI_I, if_pos ⟨rfl, rfl⟩]
  have fin : ∀ a b : Nat, a = (if m = 0 then 1 else 0) → b = (if m = 2 then 1 else 2) → VX6_sort_51 dd Q q s (b : Int) 2 (q+1) (((((S.setI q 1 0).setI q 1 (0 + 1)).setI (q+1) 0 (a : Int))).setI (q+1) 1 (m : Int)) := by
    intro a b ea eb
    have F : Fi q (q+2) S ((((((S.setI q 1 0).setI q 1 (0 + 1)).setI (q+1) 0 (a : Int))).setI (q+1) 1 (m : Int)).setI (q+1) 2 (b : Int)) := ((((F0.tr (Fi.sI (by omega))).tr (Fi.sI (by omega))).tr (Fi.sI (by omega))).tr (Fi.sI (by omega)))
    unfold VX6_sort_51
    simp only [hl, sI_K, sI_N, sI_R, sI_J, sJ_K, sJ_N, sJ_R, sJ_I, sR_K, sR_N, sR_I, sR_J, Option.some.injEq, exists_eq_left', true_and, and_true, and_self_left, Int.toNat_natCast, Int.toNat_zero, Int.reduceToNat, Int.reduceLT, Int.reduceLE, Nat.reduceLeDiff, Nat.reduceLT, Int.cast_ofNat_Int, forall_eq, ge_iff_le, Int.reduceNeg, Int.reduceAdd, Int.reduceSub, Int.reduceMul, Int.reduceEq, r32_0, r32_1, r32_m1, b01_0, b01_1, not_true_eq_false, not_false_eq_true, false_implies, true_implies, implies_true, forall_const]
    refine ⟨_, kf_so54 (n := n) (w := w) (by omega) hqs (n - 3) (k := 0) (F.qy hq) (F.ss (by omega) hS) (by omega) (fun p hp => ?_) ?_ (fun S' f => h S' (F.tr f))⟩
    · show _ = ((so0 w n p : Nat) : Int)
      unfold so0
      rw [em, Int.toNat_natCast]
      rcases (show p = 0 ∨ p = 1 ∨ p = 2 by omega) with e | e | e
      · subst e
        simp (disch := omega) only [sI_I, cp_at, true_and, and_true, if_true, if_pos, if_neg]
        rw [ea]
      · subst e
        simp (disch := omega) only [sI_I, cp_at, true_and, and_true, if_true, if_pos, if_neg]
      · subst e
        simp (disch := omega) only [sI_I, cp_at, true_and, and_true, if_true, if_pos, if_neg]
        rw [eb]
    · show _ = ((1 : Nat) : Int)
      simp (disch := omega) only [sI_I, cp_at, true_and, and_true, if_true, if_pos, if_neg]
      rfl
  unfold VX6_sort_28
  simp only [hl, sI_K, sI_N, sI_R, sI_J, sJ_K, sJ_N, sJ_R, sJ_I, sR_K, sR_N, sR_I, sR_J, Option.some.injEq, exists_eq_left', true_and, and_true, and_self_left, Int.toNat_natCast, Int.toNat_zero, Int.reduceToNat, Int.reduceLT, Int.reduceLE, Nat.reduceLeDiff, Nat.reduceLT, Int.cast_ofNat_Int, forall_eq, ge_iff_le, Int.reduceNeg, Int.reduceAdd, Int.reduceSub, Int.reduceMul, Int.reduceEq, r32_0, r32_1, r32_m1, b01_0, b01_1, not_true_eq_false, not_false_eq_true, false_implies, true_implies, implies_true, forall_const]
  refine ⟨(by unfold R32; omega), fun c => ⟨⟨(by unfold R32; omega), (by unfold R32; omega)⟩, fun c2 => ?_, fun c2 => ?_⟩, fun c => ⟨⟨(by unfold R32; omega), (by unfold R32; omega)⟩, fun c2 => ?_, fun c2 => ?_⟩⟩
  · exact fin 0 2 (by rw [if_neg (by omega)]) (by rw [if_neg (by omega)])
  · exact fin 0 1 (by rw [if_neg (by omega)]) (by rw [if_pos (by omega)])
  · exact fin 1 2 (by rw [if_pos (by omega)]) (by rw [if_neg (by omega)])
  · exact fin 1 1 (by rw [if_pos (by omega)]) (by rw [if_pos (by omega)])
