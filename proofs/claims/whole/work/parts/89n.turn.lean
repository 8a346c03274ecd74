/-! all rows are filled: the next row -/
def Lk (S : MS) (c n : Nat) (f : Nat → Nat) : Prop := S.K c = 13 ∧ S.N c = n ∧ ∀ p, p < n → S.I c p = (f p : Nat)
theorem k_swap {d c n a b : Nat} {f : Nat → Nat} {S : MS} {Q : Out → MS → Prop} {x y : Int} (hd : 1 ≤ d) (hL : Lk S c n f) (ex : x = (a : Int)) (ey : y = (b : Int)) (ha : a < n) (hb : b < n) (h : ∀ S', Fi c (c+1) S S' → Lk S' c n (swp f a b) → Q (.inl none) S') : Mw hX0_swap yX0_swap d [vA c, vI x, vI y] S Q := by
  subst ex ey
  obtain ⟨h1, h2, h3⟩ := hL
  obtain ⟨dd, rfl⟩ : ∃ e, d = e + 1 := ⟨d - 1, by omega⟩
  refine MX0_swap ?_
  unfold VX0_swap_0
  rw [Int.toNat_natCast, Int.toNat_natCast, h3 a ha, h3 b hb]
  refine ⟨⟨h1, by omega, by omega⟩, ⟨h1, by omega, by omega⟩, ⟨h1, by omega, by omega⟩, ⟨h1, by omega, by show (b : Int) < S.N c; omega⟩, h _ ((Fi.sI (by omega)).tr (Fi.sI (by omega))) ⟨h1, h2, fun p hp => ?_⟩⟩
  unfold swp
  rw [sI_I, sI_I]
  by_cases c1 : p = b
  · rw [if_pos ⟨rfl, c1⟩, if_pos c1]
  · rw [if_neg (fun k => c1 k.2), if_neg c1]
    by_cases c2 : p = a
    · rw [if_pos ⟨rfl, c2⟩, if_pos c2]
    · rw [if_neg (fun k => c2 k.2), if_neg c2]
      exact h3 p hp
theorem kf_turn79 {d c n lo : Nat} {F : Nat → Nat} {Q : Out → MS → Prop} (hd : 1 ≤ d) (hlo : 0 < lo) (hn : n ≤ 7) : ∀ (j : Nat) {S : MS} {a b : Nat} {g : Nat → Nat}, b + 1 - a ≤ j → lo ≤ a → a + b = lo + (n - 1) → a ≤ n → b < n → Lk S c n g → (∀ p, p < n → g p = if (lo ≤ p ∧ p < a) ∨ (b < p ∧ p ≤ n - 1) then F (lo + (n - 1) - p) else F p) → (∀ S', Fi c (c+1) S S' → Lk S' c n (rvs F lo (n - 1)) → Q (.inl none) S') → VX0_turnToNext_79 d Q (j + 1) c (a : Nat) (b : Nat) S := by
  intro j
  induction j with
  | zero =>
    intro S a b g hm h1 h2 h3 h3b hL h4 h
    unfold VX0_turnToNext_79
    refine ⟨⟨(by unfold R32; omega), (by unfold R32; omega)⟩, fun _ => h S Fi.rf ⟨hL.1, hL.2.1, fun p hp => ?_⟩, fun c => by omega⟩
    rw [hL.2.2 p hp, h4 p hp]
    unfold rvs
    by_cases c1 : lo ≤ p ∧ p ≤ n - 1
    · rw [if_pos (by omega), if_pos c1]
    · rw [if_neg (by omega), if_neg c1]
  | succ j ih =>
    intro S a b g hm h1 h2 h3 h3b hL h4 h
    unfold VX0_turnToNext_79
    refine ⟨⟨(by unfold R32; omega), (by unfold R32; omega)⟩, fun c => h S Fi.rf ⟨hL.1, hL.2.1, fun p hp => ?_⟩, fun c => k_swap hd hL rfl rfl (by omega) h3b (fun S1 f1 L1 => oV_i ?_)⟩
    · rw [hL.2.2 p hp, h4 p hp]
      unfold rvs
      by_cases c1 : lo ≤ p ∧ p ≤ n - 1
      · rw [if_pos c1]
        by_cases c2 : (lo ≤ p ∧ p < a) ∨ (b < p ∧ p ≤ n - 1)
        · rw [if_pos c2]
        · rw [if_neg c2, show lo + (n - 1) - p = p by omega]
      · rw [if_neg (by omega), if_neg c1]
    · rw [show (a : Int) + 1 = ((a + 1 : Nat) : Int) by omega, show (b : Int) + -1 = ((b - 1 : Nat) : Int) by omega]
      refine ih (g := swp g a b) (by omega) (by omega) (by omega) (by omega) (by omega) L1 (fun p hp => ?_) (fun S' f2 => h S' (f1.tr f2))
      have ga : g a = F a := by rw [h4 a (by omega), if_neg (by omega)]
      have gb : g b = F b := by rw [h4 b (by omega), if_neg (by omega)]
      unfold swp
      by_cases c1 : p = b
      · rw [if_pos c1, if_pos (by omega), ga, show lo + (n - 1) - p = a by omega]
      · rw [if_neg c1]
        by_cases c2 : p = a
        · rw [if_pos c2, if_pos (by omega), gb, show lo + (n - 1) - p = b by omega]
        · rw [if_neg c2, h4 p hp]
          by_cases c3 : (lo ≤ p ∧ p < a) ∨ (b < p ∧ p ≤ n - 1)
          · rw [if_pos c3, if_pos (by omega)]
          · rw [if_neg c3, if_neg (by omega)]
theorem kf_turn60 {d b c n k x : Nat} {f : Nat → Nat} {S : MS} {Q : Out → MS → Prop} (hd : 1 ≤ d) (hn : n ≤ 7) (hK : S.K b = 0) (h0 : S.I b 0 = (n : Int)) (hbc : b ≠ c) (hL : Lk S c n f) (hk : k + 1 < n) (hx : x < n) (h : ∀ S', Fi c (c+1) S S' → Lk S' c n (rvs (swp f k x) (k + 1) (n - 1)) → Q (.inl none) S') : VX0_turnToNext_60 d Q b c (k : Nat) (x : Nat) S := by
  unfold VX0_turnToNext_60
  refine k_swap hd hL rfl rfl (by omega) hx (fun S1 f1 L1 => oV_i ⟨by rw [f1.1]; exact hK, n + 1, ?_⟩)
  rw [f1.I (by omega), h0, show (n : Int) - 1 = ((n - 1 : Nat) : Int) by omega]
  refine kf_turn79 (lo := k + 1) (a := k + 1) (b := n - 1) (F := swp f k x) hd (by omega) hn n (by omega) (Nat.le_refl _) rfl (by omega) (by omega) L1 (fun p hp => ?_) (fun S' f2 => h S' (f1.tr f2))
  rw [if_neg (by omega)]
theorem kf_turn40 {d b c n k : Nat} {f : Nat → Nat} {S : MS} {Q : Out → MS → Prop} (hd : 1 ≤ d) (hn : n ≤ 7) (hK : S.K b = 0) (h0 : S.I b 0 = (n : Int)) (hbc : b ≠ c) (hL : Lk S c n f) (hf : ∀ p, p < n → f p < 128) (hk : k + 1 < n) (hkk : f k ≤ f (k + 1)) (h : ∀ S', Fi c (c+1) S S' → Lk S' c n (rvs (swp f k (lst f (f k) (n - 1))) (k + 1) (n - 1)) → Q (.inl none) S') : ∀ (j : Nat), k < j → j < n → lst f (f k) (n - 1) = lst f (f k) j → VX0_turnToNext_40 d Q (j + 1) b c (k : Nat) (j : Nat) S := by
  obtain ⟨l1, l2, l3⟩ := hL
  intro j
  induction j with
  | zero => intro c; omega
  | succ j ih =>
    intro c1 c2 c3
    have q1 := hf (j + 1) c2
    have q2 := hf k (by omega)
    unfold VX0_turnToNext_40
    rw [Int.toNat_natCast, Int.toNat_natCast, l3 (j + 1) c2, l3 k (by omega)]
    refine ⟨⟨(by unfold R32; omega), (by unfold R32; omega)⟩, fun g => by omega, fun _ => ⟨⟨l1, by omega, by omega⟩, ⟨l1, by omega, by omega⟩, ⟨(by unfold R32; omega), (by unfold R32; omega)⟩, fun g => ?_, fun g => ?_⟩⟩
    · have e : lst f (f k) (j + 1) = j + 1 := by unfold lst; rw [if_neg (by omega)]
      rw [c3, e] at h
      exact kf_turn60 hd hn hK h0 hbc ⟨l1, l2, l3⟩ hk c2 h
    · rw [show ((j + 1 : Nat) : Int) + -1 = (j : Nat) by omega]
      have e : lst f (f k) (j + 1) = lst f (f k) j := by
        show (if f (j + 1) < f k then lst f (f k) j else j + 1) = _
        rw [if_pos (by omega)]
      refine ih ?_ (by omega) (by rw [c3, e])
      by_cases g : k = j
      · subst g; omega
      · omega
theorem kf_turn7 {d b c n : Nat} {f : Nat → Nat} {S : MS} {Q : Out → MS → Prop} (hd : 1 ≤ d) (h3 : 3 ≤ n) (hn : n ≤ 7) (hK : S.K b = 0) (h0 : S.I b 0 = (n : Int)) (hbc : b ≠ c) (hL : Lk S c n f) (hf : ∀ p, p < n → f p < 128) (h : ∀ S', Fi c (c+1) S S' → Lk S' c n (nxt n f) → Q (.inl none) S') : ∀ (j : Nat) (x : Int), j < n → x = (j : Int) - 1 → pvt f (n - 1) = pvt f j → VX0_turnToNext_7 d Q (j + 1) b c x S := by
  intro j
  induction j with
  | zero =>
    intro x c1 c2 c3
    subst c2
    unfold VX0_turnToNext_7 VX0_turnToNext_28
    refine ⟨(by unfold R32; omega), fun c => ⟨(by unfold R32; omega), fun c => by omega, fun c => h S Fi.rf ?_⟩, fun c => by omega⟩
    have e : nxt n f = f := by unfold nxt; rw [if_pos (by rw [c3]; rfl)]
    rw [e]
    exact hL
  | succ j ih =>
    intro x c1 c2 c3
    have hL' := hL
    obtain ⟨l1, l2, l3⟩ := hL
    rw [show x = (j : Nat) by omega]
    have q1 := hf (j + 1) c1
    have q2 := hf j (by omega)
    unfold VX0_turnToNext_7 VX0_turnToNext_28
    rw [show ((j : Int) + 1).toNat = j + 1 by omega, Int.toNat_natCast, l3 _ c1, l3 j (by omega), h0]
    refine ⟨(by unfold R32; omega), fun c => by omega, fun c => ⟨⟨l1, by omega, by omega⟩, ⟨l1, by omega, by omega⟩, ⟨(by unfold R32; omega), (by unfold R32; omega)⟩, fun g => ⟨(by unfold R32; omega), fun _ => ⟨hK, n, ?_⟩, fun g => by omega⟩, fun g => ?_⟩⟩
    · have e : pvt f (j + 1) = j + 1 := by unfold pvt; rw [if_neg (by omega)]
      obtain ⟨n', rfl⟩ : ∃ n', n = n' + 1 := ⟨n - 1, by omega⟩
      rw [show ((n' + 1 : Nat) : Int) - 1 = (n' : Nat) by omega]
      refine kf_turn40 hd hn hK h0 hbc hL' hf c1 (by omega) (fun S' f1 L1 => h S' f1 ?_) n' (by omega) (by omega) rfl
      have e2 : nxt (n' + 1) f = rvs (swp f j (lst f (f j) (n' + 1 - 1))) (j + 1) (n' + 1 - 1) := by
        unfold nxt
        rw [c3, e, if_neg (by omega)]
        rfl
      rw [e2]
      exact L1
    · rw [show (j : Int) + -1 = (j : Int) - 1 by omega]
      refine ih _ (by omega) rfl ?_
      rw [c3]
      show (if f (j + 1) < f j then pvt f j else j + 1) = _
      rw [if_pos (by omega)]
theorem k_turnToNext {d b c n : Nat} {f : Nat → Nat} {S : MS} {Q : Out → MS → Prop} (hd : 2 ≤ d) (h3 : 3 ≤ n) (hn : n ≤ 7) (hK : S.K b = 0) (h0 : S.I b 0 = (n : Int)) (hbc : b ≠ c) (hL : Lk S c n f) (hf : ∀ p, p < n → f p < 128) (h : ∀ S', Fi c (c+1) S S' → Lk S' c n (nxt n f) → Q (.inl none) S') : Mw hX0_turnToNext yX0_turnToNext d [vA b, vA c] S Q := by
  obtain ⟨dd, rfl⟩ : ∃ e, d = e + 1 := ⟨d - 1, by omega⟩
  refine MX0_turnToNext ?_
  unfold VX0_turnToNext_0
  rw [h0]
  exact ⟨hK, _, kf_turn7 (by omega) h3 hn hK h0 hbc hL hf h (n - 1) _ (by omega) (by omega) rfl⟩
