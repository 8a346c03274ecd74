/-! sorting by thirds -/
theorem ff_r (p : Nat → Bool) : ∀ (j t : Nat), -1 ≤ ff p j t ∧ (ff p j t < ((t + j : Nat) : Int) ∨ ff p j t = -1)
  | 0, t => ⟨by unfold ff; omega, Or.inr rfl⟩
  | j + 1, t => by
    unfold ff
    have := ff_r p j (t + 1)
    split <;> omega
theorem trF_r (w : Nat → Int) (n kn x : Nat) : -1 ≤ trF w n kn x ∧ trF w n kn x ≤ (n : Int) := by
  have := ff_r (trB w n kn x) n 0
  unfold trF
  omega
noncomputable def tr3 (w : Nat → Int) (n a b c : Nat) : Int := trF w n 0 (2 ^ a ||| 2 ^ b ||| 2 ^ c)
theorem c_laysThree {d m n a b c : Nat} {S : MS} {Q : Out → MS → Prop} {x y z : Int} (hd : 3 ≤ d) (hL : RLay S m) (hg : GW n (S.I (m+1))) (e1 : x = (a : Int)) (e2 : y = (b : Int)) (e3 : z = (c : Int)) (ha : a < 7) (hb : b < 7) (hc : c < 7) (h : Q (.inl (some (vI (tr3 (S.I (m+1)) n a b c)))) (S.setI m 37 (S.I m 37 + 1))) : Mw hX11_laysThree yX11_laysThree d [vA m, vI x, vI y, vI z] S Q := by
  subst e1 e2 e3
  have q1 : 2 ^ a ≤ 2 ^ 6 := Nat.pow_le_pow_right (by decide) (by omega)
  have q2 : 2 ^ b ≤ 2 ^ 6 := Nat.pow_le_pow_right (by decide) (by omega)
  have q3 : 2 ^ c ≤ 2 ^ 6 := Nat.pow_le_pow_right (by decide) (by omega)
  have o1 := or_pw ha hb
  have o2 : 2 ^ a ||| 2 ^ b ||| 2 ^ c < 2 ^ 7 := Nat.or_lt_two_pow o1 (Nat.pow_lt_pow_right (by decide) hc)
  have e0 : (S.setI m 37 (S.I m 37 + 1)).I (m+1) = S.I (m+1) := sI_Ia (by omega)
  obtain ⟨dd, rfl⟩ : ∃ e, d = e + 1 := ⟨d - 1, by omega⟩
  refine MX11_laysThree ?_
  have hl := hL
  unfold RLay at hl
  unfold VX11_laysThree_0
  simp only [hl, sI_K, sI_N, sI_R, sI_J, Option.some.injEq, exists_eq_left', true_and, and_true, Int.toNat_zero, Int.reduceToNat, Int.reduceLT, Int.reduceLE, Int.cast_ofNat_Int, forall_eq, ge_iff_le, Int.reduceNeg, Int.reduceAdd, Int.reduceSub, Int.reduceMul, Int.reduceEq, r32_0, r32_1, r32_m1, b01_0, b01_1, not_true_eq_false, not_false_eq_true, false_implies, true_implies, implies_true, forall_const]
  rw [i1_shl (by omega), i1_shl (by omega), i1_shl (by omega), iOr_n (by omega) (by omega), iOr_n (by omega) (by omega)]
  refine c_truly (n := n) (kn := 0) (x := 2 ^ a ||| 2 ^ b ||| 2 ^ c) (by omega) (by exact hL) (by rw [e0]; exact hg) rfl rfl (by decide) (by omega) (oI_i ?_)
  rw [e0]
  exact h
noncomputable def cmF (w : Nat → Int) (n : Nat) (g : Nat → Nat) (t : Nat) : Nat → Nat → Nat → Nat → Nat × Nat
  | 0, lo, _, l => (lo, l)
  | f + 1, lo, hi, l => if hi ≤ lo then (lo, l) else if hi = lo + 1 then
      (if (lo = 0 ↔ tr3 w n t (g (lo - 1)) (g (if lo = 0 then 1 else lo)) = (t : Int)) then (hi, l + 1) else (lo, l + 1))
    else if tr3 w n t (g (lo + (hi - lo - 2) / 3)) (g (hi - 1 - (hi - lo - 2) / 3)) = (t : Int) then cmF w n g t f (lo + (hi - lo - 2) / 3 + 1) (hi - 1 - (hi - lo - 2) / 3) (l + 1)
    else if tr3 w n t (g (lo + (hi - lo - 2) / 3)) (g (hi - 1 - (hi - lo - 2) / 3)) = (g (lo + (hi - lo - 2) / 3) : Int) then cmF w n g t f lo (lo + (hi - lo - 2) / 3) (l + 1)
    else cmF w n g t f (hi - 1 - (hi - lo - 2) / 3 + 1) hi (l + 1)
theorem cmF_le {w : Nat → Int} {n : Nat} {g : Nat → Nat} {t : Nat} : ∀ (f lo hi l : Nat), lo ≤ hi → (cmF w n g t f lo hi l).1 ≤ hi
  | 0, _, _, _, h => h
  | f + 1, lo, hi, l, h => by
    unfold cmF
    split
    · exact h
    · by_cases c2 : hi = lo + 1
      · rw [if_pos c2]
        by_cases c3 : (lo = 0 ↔ tr3 w n t (g (lo - 1)) (g (if lo = 0 then 1 else lo)) = (t : Int))
        · rw [if_pos c3]; exact Nat.le_refl _
        · rw [if_neg c3]; exact h
      · rename_i c1
        rw [if_neg c2]
        split
        · exact Nat.le_trans (cmF_le f _ _ _ (by omega)) (by omega)
        · split
          · exact Nat.le_trans (cmF_le f _ _ _ (by omega)) (by omega)
          · exact cmF_le f _ _ _ (by omega)
def Ln (S : MS) (m : Nat) (g : Nat → Nat) (t : Nat) : Prop := ∀ p, p < t → S.I (m+19) p = (g p : Nat) ∧ g p < 7
theorem Fr.ln {m : Nat} {g : Nat → Nat} {t : Nat} {A B : List Nat} {S S1 : MS} (h : Fr m A B S S1) (h1 : 19 ∉ A) (q : Ln S m g t) : Ln S1 m g t := by
  unfold Ln at q ⊢
  rw [h.arr (by decide) h1]
  exact q
theorem f_cm {d m n t : Nat} {w : Nat → Int} {g : Nat → Nat} {Q : Out → MS → Prop} (hd : 3 ≤ d) (hg : GW n w) (ht : t < 7) (ht3 : 3 ≤ t) : ∀ (f : Nat) {S : MS} {lo hi l : Nat}, hi < lo + f → lo ≤ hi → hi ≤ t → RLay S m → S.I (m+1) = w → Ln S m g t → S.I m 37 = (l : Int) → (∀ S', Fr m [] [37] S S' → S'.I m 37 = ((cmF w n g t f lo hi l).2 : Nat) → Q (.inl (some (vI ((cmF w n g t f lo hi l).1 : Nat)))) S') → ∃ q, VX11_comesAt_5 d Q q m (t : Nat) (lo : Nat) (hi : Nat) S := by
  have h37 := hg.1
  intro f
  induction f with
  | zero => intro S lo hi l h1 h2; omega
  | succ f ih =>
    intro S lo hi l hf hlh hht hL hw hLn hl37 h
    have hl := hL
    unfold RLay at hl
    by_cases c0 : hi ≤ lo
    · refine ⟨1, ?_⟩
      unfold VX11_comesAt_5
      have := h S Fr.rf
      unfold cmF at this
      rw [if_pos c0] at this
      exact ⟨⟨(by unfold R32; omega), (by unfold R32; omega)⟩, fun _ => this hl37, fun c => by omega⟩
    · by_cases c1 : hi = lo + 1
      · have a1 := hLn (lo - 1) (by omega)
        have a2 := hLn (if lo = 0 then 1 else lo) (by split <;> omega)
        have tr := trF_r w n 0 (2 ^ t ||| 2 ^ g (lo - 1) ||| 2 ^ g (if lo = 0 then 1 else lo))
        have tr' : -1 ≤ tr3 w n t (g (lo - 1)) (g (if lo = 0 then 1 else lo)) ∧ tr3 w n t (g (lo - 1)) (g (if lo = 0 then 1 else lo)) ≤ (n : Int) := tr
        have f1 : Fr m [] [37] S (S.setI m 37 (S.I m 37 + 1)) := Fr.sB (by decide)
        have e37 : (S.setI m 37 (S.I m 37 + 1)).I m 37 = ((l + 1 : Nat) : Int) := by rw [sI_I, if_pos ⟨rfl, rfl⟩, hl37]; rfl
        have hc : cmF w n g t (f + 1) lo hi l = if (lo = 0 ↔ tr3 w n t (g (lo - 1)) (g (if lo = 0 then 1 else lo)) = (t : Int)) then (hi, l + 1) else (lo, l + 1) := by
          show (if _ then _ else _) = _
          rw [if_neg c0, if_pos c1]
        have h' := h _ f1
        rw [hc] at h'
        have up : (lo = 0 ↔ tr3 w n t (g (lo - 1)) (g (if lo = 0 then 1 else lo)) = (t : Int)) → VX11_comesAt_5 d Q 1 m (t : Nat) (hi : Nat) (hi : Nat) (S.setI m 37 (S.I m 37 + 1)) := by
          intro k
          rw [if_pos k] at h'
          unfold VX11_comesAt_5
          exact ⟨⟨(by unfold R32; omega), (by unfold R32; omega)⟩, fun _ => h' e37, fun c => absurd (Int.le_refl _) c⟩
        have st : ¬ (lo = 0 ↔ tr3 w n t (g (lo - 1)) (g (if lo = 0 then 1 else lo)) = (t : Int)) → VX11_comesAt_5 d Q 1 m (t : Nat) (lo : Nat) (lo : Nat) (S.setI m 37 (S.I m 37 + 1)) := by
          intro k
          rw [if_neg k] at h'
          unfold VX11_comesAt_5
          exact ⟨⟨(by unfold R32; omega), (by unfold R32; omega)⟩, fun _ => h' e37, fun c => absurd (Int.le_refl _) c⟩
        refine ⟨2, ?_⟩
        unfold VX11_comesAt_5
        refine ⟨⟨(by unfold R32; omega), (by unfold R32; omega)⟩, fun c => by omega, fun _ => ⟨⟨(by unfold R32; omega), (by unfold R32; omega)⟩, fun c => by omega, fun _ => ?_⟩⟩
        simp only [hl, sI_K, sI_N, sI_R, sI_J, Option.some.injEq, exists_eq_left', true_and, and_true, Int.toNat_zero, Int.reduceToNat, Int.reduceLT, Int.reduceLE, Int.cast_ofNat_Int, forall_eq, ge_iff_le, Int.reduceNeg, Int.reduceAdd, Int.reduceSub, Int.reduceMul, Int.reduceEq, r32_0, r32_1, r32_m1, b01_0, b01_1, not_true_eq_false, not_false_eq_true, false_implies, true_implies, implies_true, forall_const]
        have em : (max 0 ((lo : Int) - 1)).toNat = lo - 1 := by omega
        rw [em, a1.1]
        unfold VX11_comesAt_46 VX11_comesAt_59 VX11_comesAt_78 VX11_comesAt_84
        refine ⟨(by unfold R32; omega), by omega, (by unfold R32; omega), fun c => ?_, fun c => ?_⟩
        · rw [if_neg (by omega)] at a2 up st tr'
          simp only [hl, sI_K, sI_N, sI_R, sI_J, Option.some.injEq, exists_eq_left', true_and, and_true, Int.toNat_zero, Int.reduceToNat, Int.reduceLT, Int.reduceLE, Int.cast_ofNat_Int, forall_eq, ge_iff_le, Int.reduceNeg, Int.reduceAdd, Int.reduceSub, Int.reduceMul, Int.reduceEq, r32_0, r32_1, r32_m1, b01_0, b01_1, not_true_eq_false, not_false_eq_true, false_implies, true_implies, implies_true, forall_const]
          rw [Int.toNat_natCast, a2.1]
          refine ⟨by omega, c_laysThree (n := n) (a := t) (b := g (lo - 1)) (c := g lo) (by omega) hL (by rw [hw]; exact hg) rfl rfl rfl ht a1.2 a2.2 (oI_i ?_)⟩
          rw [hw]
          refine ⟨⟨(by unfold R32; omega), (by unfold R32; omega)⟩, fun c2 => ⟨(by unfold R32; omega), fun _ => up (by omega), fun c => by omega⟩, fun c2 => ⟨(by unfold R32; omega), fun _ => st (by omega), fun c => by omega⟩⟩
        · rw [if_pos (by omega)] at a2 up st tr'
          simp only [hl, sI_K, sI_N, sI_R, sI_J, Option.some.injEq, exists_eq_left', true_and, and_true, Int.toNat_zero, Int.reduceToNat, Int.reduceLT, Int.reduceLE, Int.cast_ofNat_Int, forall_eq, ge_iff_le, Int.reduceNeg, Int.reduceAdd, Int.reduceSub, Int.reduceMul, Int.reduceEq, r32_0, r32_1, r32_m1, b01_0, b01_1, not_true_eq_false, not_false_eq_true, false_implies, true_implies, implies_true, forall_const]
          rw [a2.1]
          refine c_laysThree (n := n) (a := t) (b := g (lo - 1)) (c := g 1) (by omega) hL (by rw [hw]; exact hg) rfl rfl rfl ht a1.2 a2.2 (oI_i ?_)
          rw [hw]
          refine ⟨⟨(by unfold R32; omega), (by unfold R32; omega)⟩, fun c2 => ⟨(by unfold R32; omega), fun c => by omega, fun _ => st (by omega)⟩, fun c2 => ⟨(by unfold R32; omega), fun c => by omega, fun _ => up (by omega)⟩⟩
      · generalize hth : (hi - lo - 2) / 3 = th
        have a1 := hLn (lo + th) (by omega)
        have a2 := hLn (hi - 1 - th) (by omega)
        have tr' : -1 ≤ tr3 w n t (g (lo + th)) (g (hi - 1 - th)) ∧ tr3 w n t (g (lo + th)) (g (hi - 1 - th)) ≤ (n : Int) := trF_r w n 0 _
        have f1 : Fr m [] [37] S (S.setI m 37 (S.I m 37 + 1)) := Fr.sB (by decide)
        have e37 : (S.setI m 37 (S.I m 37 + 1)).I m 37 = ((l + 1 : Nat) : Int) := by rw [sI_I, if_pos ⟨rfl, rfl⟩, hl37]; rfl
        have hc : cmF w n g t (f + 1) lo hi l = if tr3 w n t (g (lo + th)) (g (hi - 1 - th)) = (t : Int) then cmF w n g t f (lo + th + 1) (hi - 1 - th) (l + 1) else if tr3 w n t (g (lo + th)) (g (hi - 1 - th)) = (g (lo + th) : Int) then cmF w n g t f lo (lo + th) (l + 1) else cmF w n g t f (hi - 1 - th + 1) hi (l + 1) := by
          rw [← hth]
          show (if _ then _ else _) = _
          rw [if_neg c0, if_neg c1]
        have go : ∀ lo' hi', hi' < lo' + f → lo' ≤ hi' → hi' ≤ t → cmF w n g t (f + 1) lo hi l = cmF w n g t f lo' hi' (l + 1) → ∃ q, VX11_comesAt_5 d Q q m (t : Nat) (lo' : Nat) (hi' : Nat) (S.setI m 37 (S.I m 37 + 1)) := by
          intro lo' hi' b1 b2 b3 e
          refine ih b1 b2 b3 (f1.lay hL) (by rw [f1.arr (by decide) (by decide), hw]) (f1.ln (by decide) hLn) e37 (fun S' f2 k => ?_)
          rw [← e] at k ⊢
          exact h S' (f1.tr f2) k
        have key : ∃ q, (tr3 w n t (g (lo + th)) (g (hi - 1 - th)) = (t : Int) → VX11_comesAt_5 d Q q m (t : Nat) ((lo + th + 1 : Nat) : Int) ((hi - 1 - th : Nat) : Int) (S.setI m 37 (S.I m 37 + 1))) ∧ (tr3 w n t (g (lo + th)) (g (hi - 1 - th)) ≠ (t : Int) → tr3 w n t (g (lo + th)) (g (hi - 1 - th)) = (g (lo + th) : Int) → VX11_comesAt_5 d Q q m (t : Nat) (lo : Nat) ((lo + th : Nat) : Int) (S.setI m 37 (S.I m 37 + 1))) ∧ (tr3 w n t (g (lo + th)) (g (hi - 1 - th)) ≠ (t : Int) → tr3 w n t (g (lo + th)) (g (hi - 1 - th)) ≠ (g (lo + th) : Int) → VX11_comesAt_5 d Q q m (t : Nat) ((hi - 1 - th + 1 : Nat) : Int) (hi : Nat) (S.setI m 37 (S.I m 37 + 1))) := by
          by_cases d1 : tr3 w n t (g (lo + th)) (g (hi - 1 - th)) = (t : Int)
          · obtain ⟨q, hq⟩ := go (lo + th + 1) (hi - 1 - th) (by omega) (by omega) (by omega) (by rw [hc, if_pos d1])
            exact ⟨q, fun _ => hq, fun k => absurd d1 k, fun k => absurd d1 k⟩
          · by_cases d2 : tr3 w n t (g (lo + th)) (g (hi - 1 - th)) = (g (lo + th) : Int)
            · obtain ⟨q, hq⟩ := go lo (lo + th) (by omega) (by omega) (by omega) (by rw [hc, if_neg d1, if_pos d2])
              exact ⟨q, fun k => absurd k d1, fun _ _ => hq, fun _ k => absurd d2 k⟩
            · obtain ⟨q, hq⟩ := go (hi - 1 - th + 1) hi (by omega) (by omega) (by omega) (by rw [hc, if_neg d1, if_neg d2])
              exact ⟨q, fun k => absurd k d1, fun _ k => absurd k d2, fun _ _ => hq⟩
        obtain ⟨q, k1, k2, k3⟩ := key
        refine ⟨q + 1, ?_⟩
        unfold VX11_comesAt_5 VX11_comesAt_178
        have ed : iDiv ((hi : Int) - (lo : Int) - 2) 3 = (th : Nat) := by
          rw [show (hi : Int) - (lo : Int) - 2 = ((hi - lo - 2 : Nat) : Int) by omega, show (3 : Int) = ((3 : Nat) : Int) from rfl, iDiv_n (by omega) (by omega), hth]
        rw [ed]
        refine ⟨⟨(by unfold R32; omega), (by unfold R32; omega)⟩, fun c => by omega, fun _ => ⟨⟨(by unfold R32; omega), (by unfold R32; omega)⟩, fun _ => ⟨⟨(by unfold R32; omega), by decide⟩, ?_⟩, fun c => by omega⟩⟩
        simp only [hl, sI_K, sI_N, sI_R, sI_J, Option.some.injEq, exists_eq_left', true_and, and_true, Int.toNat_zero, Int.reduceToNat, Int.reduceLT, Int.reduceLE, Int.cast_ofNat_Int, forall_eq, ge_iff_le, Int.reduceNeg, Int.reduceAdd, Int.reduceSub, Int.reduceMul, Int.reduceEq, r32_0, r32_1, r32_m1, b01_0, b01_1, not_true_eq_false, not_false_eq_true, false_implies, true_implies, implies_true, forall_const]
        rw [show ((lo : Int) + (th : Int)).toNat = lo + th by omega, show ((hi : Int) - 1 - (th : Int)).toNat = hi - 1 - th by omega, a1.1, a2.1]
        refine ⟨by omega, by omega, c_laysThree (n := n) (a := t) (b := g (lo + th)) (c := g (hi - 1 - th)) (by omega) hL (by rw [hw]; exact hg) rfl rfl rfl ht a1.2 a2.2 (oI_i ?_)⟩
        rw [hw]
        refine ⟨⟨(by unfold R32; omega), (by unfold R32; omega)⟩, fun c2 => ?_, fun c2 => ?_⟩
        · simp only [hl, sI_K, sI_N, sI_R, sI_J, Option.some.injEq, exists_eq_left', true_and, and_true, Int.toNat_zero, Int.reduceToNat, Int.reduceLT, Int.reduceLE, Int.cast_ofNat_Int, forall_eq, ge_iff_le, Int.reduceNeg, Int.reduceAdd, Int.reduceSub, Int.reduceMul, Int.reduceEq, r32_0, r32_1, r32_m1, b01_0, b01_1, not_true_eq_false, not_false_eq_true, false_implies, true_implies, implies_true, forall_const]
          rw [sI_Ia (by omega), a1.1]
          refine ⟨by omega, ⟨(by unfold R32; omega), (by unfold R32; omega)⟩, fun c3 => ?_, fun c3 => ?_⟩
          · have := k3 c2 c3
            rw [show ((hi - 1 - th + 1 : Nat) : Int) = (hi : Int) - 1 - (th : Int) + 1 by omega] at this
            exact this
          · exact k2 c2 c3
        · have := k1 c2
          rw [show ((hi - 1 - th : Nat) : Int) = (hi : Int) - 1 - (th : Int) by omega] at this
          exact this
theorem c_comesAt {d m n t l : Nat} {g : Nat → Nat} {S : MS} {Q : Out → MS → Prop} {x y : Int} (hd : 4 ≤ d) (hL : RLay S m) (hg : GW n (S.I (m+1))) (e1 : x = (t : Int)) (e2 : y = (t : Int)) (ht : t < 7) (ht3 : 3 ≤ t) (hLn : Ln S m g t) (hl37 : S.I m 37 = (l : Int)) (h : ∀ S', Fr m [] [37] S S' → S'.I m 37 = ((cmF (S.I (m+1)) n g t 8 0 t l).2 : Nat) → Q (.inl (some (vI ((cmF (S.I (m+1)) n g t 8 0 t l).1 : Nat)))) S') : Mw hX11_comesAt yX11_comesAt d [vA m, vI x, vI y] S Q := by
  subst e1 e2
  obtain ⟨dd, rfl⟩ : ∃ e, d = e + 1 := ⟨d - 1, by omega⟩
  refine MX11_comesAt ?_
  unfold VX11_comesAt_0
  exact f_cm (by omega) hg ht ht3 8 (lo := 0) (by omega) (by omega) (by omega) hL rfl hLn hl37 h
def ins_ (g : Nat → Nat) (t k : Nat) : Nat → Nat := fun p => if p < k then g p else if p = k then t else g (p - 1)
theorem f_so105 {d m t k : Nat} {g : Nat → Nat} {Q : Out → MS → Prop} {pl : Int} {c86 : Nat → Int → Int → MS → Prop} (ht : t < 7) (hk : k ≤ t) : ∀ (j : Nat) {S : MS} {x : Nat}, RLay S m → k + j = x → x ≤ t → (∀ p, p < t → g p < 7) → (∀ p, p ≤ t → p ≠ x → S.I (m+19) p = if p < x then (g p : Int) else (g (p - 1) : Int)) → (∀ S', Fr m [19] [] S S' → Ln S' m (ins_ g t k) (t + 1) → c86 m pl ((t : Int) + 1) S') → VX11_sorted_105 d c86 Q (j + 1) m pl (t : Nat) (k : Nat) (x : Nat) S := by
  intro j
  induction j with
  | zero =>
    intro S x hL hx hxt hg h1 h
    have hl := hL
    unfold RLay at hl
    unfold VX11_sorted_105
    refine ⟨⟨(by unfold R32; omega), (by unfold R32; omega)⟩, fun _ => ?_, fun c => by omega⟩
    simp only [hl, sI_K, sI_N, sI_R, sI_J, Option.some.injEq, exists_eq_left', true_and, and_true, Int.toNat_zero, Int.reduceToNat, Int.reduceLT, Int.reduceLE, Int.cast_ofNat_Int, forall_eq, ge_iff_le, Int.reduceNeg, Int.reduceAdd, Int.reduceSub, Int.reduceMul, Int.reduceEq, r32_0, r32_1, r32_m1, b01_0, b01_1, not_true_eq_false, not_false_eq_true, false_implies, true_implies, implies_true, forall_const]
    rw [Int.toNat_natCast]
    refine ⟨by omega, h _ (Fr.sA (by decide) (by decide)) (fun p hp => ?_)⟩
    rw [sI_I]
    unfold ins_
    by_cases e : p = k
    · rw [if_pos ⟨rfl, e⟩, if_neg (by omega), if_pos e]
      exact ⟨rfl, ht⟩
    · rw [if_neg (fun k => e k.2), h1 p (by omega) (by omega)]
      by_cases e2 : p < k
      · rw [if_pos (by omega), if_pos e2]
        exact ⟨rfl, hg p (by omega)⟩
      · rw [if_neg (by omega), if_neg e2, if_neg e]
        exact ⟨rfl, hg _ (by omega)⟩
  | succ j ih =>
    intro S x hL hx hxt hg h1 h
    have hl := hL
    unfold RLay at hl
    unfold VX11_sorted_105
    refine ⟨⟨(by unfold R32; omega), (by unfold R32; omega)⟩, fun c => by omega, fun _ => ?_⟩
    simp only [hl, sI_K, sI_N, sI_R, sI_J, Option.some.injEq, exists_eq_left', true_and, and_true, Int.toNat_zero, Int.reduceToNat, Int.reduceLT, Int.reduceLE, Int.cast_ofNat_Int, forall_eq, ge_iff_le, Int.reduceNeg, Int.reduceAdd, Int.reduceSub, Int.reduceMul, Int.reduceEq, r32_0, r32_1, r32_m1, b01_0, b01_1, not_true_eq_false, not_false_eq_true, false_implies, true_implies, implies_true, forall_const]
    rw [Int.toNat_natCast, show ((x : Int) - 1).toNat = x - 1 by omega, h1 (x - 1) (by omega) (by omega), if_pos (by omega), show (x : Int) + -1 = ((x - 1 : Nat) : Int) by omega]
    refine ⟨by omega, by omega, ih (x := x - 1) (by exact hL) (by omega) (by omega) hg (fun p hp hpx => ?_) (fun S' f => h S' ((Fr.sA (by decide) (by decide)).tr f))⟩
    rw [sI_I]
    by_cases e : p = x
    · rw [if_pos ⟨rfl, e⟩, if_neg (by omega), e]
    · rw [if_neg (fun k => e k.2), h1 p hp e]
      by_cases e2 : p < x
      · rw [if_pos e2, if_pos (by omega)]
      · rw [if_neg e2, if_neg (by omega)]
noncomputable def so0 (w : Nat → Int) (n : Nat) : Nat → Nat := fun p => if p = 0 then (if (tr3 w n 0 1 2).toNat = 0 then 1 else 0) else if p = 1 then (tr3 w n 0 1 2).toNat else (if (tr3 w n 0 1 2).toNat = 2 then 1 else 2)
noncomputable def soF (w : Nat → Int) (n : Nat) : Nat → (Nat → Nat) × Nat
  | 0 => (so0 w n, 1)
  | k + 1 => (ins_ (soF w n k).1 (3 + k) (cmF w n (soF w n k).1 (3 + k) 8 0 (3 + k) (soF w n k).2).1, (cmF w n (soF w n k).1 (3 + k) 8 0 (3 + k) (soF w n k).2).2)
theorem f_so86 {d m n : Nat} {w : Nat → Int} {Q : Out → MS → Prop} {pl : Int} (hd : 4 ≤ d) (hg : GW n w) (hpl : -1 ≤ pl ∧ pl < (n : Int)) : ∀ (j : Nat) {S : MS} {k : Nat}, RLay S m → S.I (m+1) = w → 3 + k + j = n → Ln S m (soF w n k).1 (3 + k) → S.I m 37 = ((soF w n k).2 : Nat) → (∀ S', Fr m [19] [37] S S' → Q (.inl (some (vI (if pl < 0 then ((soF w n (n - 3)).2 : Int) else ((soF w n (n - 3)).1 pl.toNat : Int))))) S') → VX11_sorted_86 d Q (j + 1) m pl ((3 + k : Nat) : Int) S := by
  have h37 := hg.1
  intro j
  induction j with
  | zero =>
    intro S k hL hw hk hLn h37' h
    have hl := hL
    unfold RLay at hl
    have ek : n - 3 = k := by omega
    have := h S Fr.rf
    rw [ek] at this
    unfold VX11_sorted_86
    refine ⟨hL.1, c_things (by omega) hL (oI_i ?_)⟩
    rw [hw, h37.2.2]
    refine ⟨⟨(by unfold R32; omega), (by unfold R32; omega)⟩, fun _ => ⟨(by unfold R32; omega), fun c => ?_, fun c => ?_⟩, fun c => by omega⟩
    · simp only [hl, sI_K, sI_N, sI_R, sI_J, Option.some.injEq, exists_eq_left', true_and, and_true, Int.toNat_zero, Int.reduceToNat, Int.reduceLT, Int.reduceLE, Int.cast_ofNat_Int, forall_eq, ge_iff_le, Int.reduceNeg, Int.reduceAdd, Int.reduceSub, Int.reduceMul, Int.reduceEq, r32_0, r32_1, r32_m1, b01_0, b01_1, not_true_eq_false, not_false_eq_true, false_implies, true_implies, implies_true, forall_const]
      have a := hLn pl.toNat (by omega)
      rw [a.1]
      rw [if_neg (by omega)] at this
      exact ⟨by omega, this⟩
    · rw [if_pos (by omega)] at this
      rw [h37']
      exact ⟨hL.1, this⟩
  | succ j ih =>
    intro S k hL hw hk hLn h37' h
    have hl := hL
    unfold RLay at hl
    unfold VX11_sorted_86
    refine ⟨hL.1, c_things (by omega) hL (oI_i ?_)⟩
    rw [hw, h37.2.2]
    refine ⟨⟨(by unfold R32; omega), (by unfold R32; omega)⟩, fun _ => by omega, fun c => ⟨hL.1, c_comesAt (n := n) (t := 3 + k) (l := (soF w n k).2) (g := (soF w n k).1) (by omega) hL (by rw [hw]; exact hg) rfl rfl (by omega) (by omega) hLn h37' (fun S1 f1 k1 => oI_i ?_)⟩⟩
    rw [hw] at k1 ⊢
    have hle : (cmF w n (soF w n k).1 (3 + k) 8 0 (3 + k) (soF w n k).2).1 ≤ 3 + k := cmF_le 8 0 (3 + k) _ (by omega)
    have hLn1 := f1.ln (by decide) hLn
    refine ⟨_, f_so105 (t := 3 + k) (k := (cmF w n (soF w n k).1 (3 + k) 8 0 (3 + k) (soF w n k).2).1) (g := (soF w n k).1) (by omega) hle (3 + k - (cmF w n (soF w n k).1 (3 + k) 8 0 (3 + k) (soF w n k).2).1) (x := 3 + k) (f1.lay hL) (by omega) (Nat.le_refl _) (fun p hp => (hLn p hp).2) (fun p hp hpx => ?_) (fun S2 f2 k2 => ?_)⟩
    · rw [if_pos (by omega)]
      exact (hLn1 p (by omega)).1
    · have := ih (S := S2) (k := k + 1) (f2.lay (f1.lay hL)) (by rw [f2.arr (by decide) (by decide), f1.arr (by decide) (by decide), hw]) (by omega) k2 (by rw [f2.fld (by decide), k1]; rfl) (fun S' f3 => h S' ((f1.wk (by decide) (by decide)).tr ((f2.wk (by decide) (by decide)).tr f3)))
      exact this
noncomputable def A_sorted (n : Nat) (w : Nat → Int) (p : Int) : Int × Int := if p = -1 ∨ (0 ≤ p ∧ p < (n : Int)) then (0, if p < 0 then ((soF w n (n - 3)).2 : Int) else ((soF w n (n - 3)).1 p.toNat : Int)) else (1, 0)
theorem c_sorted {d m n : Nat} {S : MS} {Q : Out → MS → Prop} {p : Int} (hd : 5 ≤ d) (hI : RI S m n) (hp : R32 p) (h : ∀ S', RQ m S S' → S'.I m 0 = (A_sorted n (S.I (m+1)) p).1 → Q (.inl (some (vI (A_sorted n (S.I (m+1)) p).2))) S') : Mw hX11_sorted yX11_sorted d [vA m, vI p] S Q := by
  have hL := hI.1
  have hg := hI.2.1
  have h37 := hg.1
  have e0 : (S.setI m 0 0).I (m+1) = S.I (m+1) := sI_Ia (by omega)
  obtain ⟨dd, rfl⟩ : ∃ e, d = e + 1 := ⟨d - 1, by omega⟩
  refine MX11_sorted ?_
  have hl := hL
  unfold RLay at hl
  unfold VX11_sorted_0
  simp only [hl, sI_K, sI_N, sI_R, sI_J, Option.some.injEq, exists_eq_left', true_and, and_true, Int.toNat_zero, Int.reduceToNat, Int.reduceLT, Int.reduceLE, Int.cast_ofNat_Int, forall_eq, ge_iff_le, Int.reduceNeg, Int.reduceAdd, Int.reduceSub, Int.reduceMul, Int.reduceEq, r32_0, r32_1, r32_m1, b01_0, b01_1, not_true_eq_false, not_false_eq_true, false_implies, true_implies, implies_true, forall_const]
  have good : (p = -1 ∨ (0 ≤ p ∧ p < (n : Int))) → VX11_sorted_23 dd Q m p m (S.setI m 0 0) := by
    intro cp
    unfold VX11_sorted_23 VX11_sorted_24
    refine ⟨hL.1, t_if (P := False) (by omega) (by exact hL) (.n id) (fun _ => oI_i ?_) (fun k => k.elim)⟩
    simp only [hl, sI_K, sI_N, sI_R, sI_J, Option.some.injEq, exists_eq_left', true_and, and_true, Int.toNat_zero, Int.reduceToNat, Int.reduceLT, Int.reduceLE, Int.cast_ofNat_Int, forall_eq, ge_iff_le, Int.reduceNeg, Int.reduceAdd, Int.reduceSub, Int.reduceMul, Int.reduceEq, r32_0, r32_1, r32_m1, b01_0, b01_1, not_true_eq_false, not_false_eq_true, false_implies, true_implies, implies_true, forall_const]
    have f1 : Fr m [] [37] (S.setI m 0 0) ((S.setI m 0 0).setI m 37 0) := Fr.sB (by decide)
    have hL1 := f1.lay (show RLay (S.setI m 0 0) m by exact hL)
    have e1 : ((S.setI m 0 0).setI m 37 0).I (m+1) = S.I (m+1) := by rw [f1.arr (by decide) (by decide), e0]
    refine c_laysThree (n := n) (a := 0) (b := 1) (c := 2) (by omega) hL1 (by rw [e1]; exact hg) rfl rfl rfl (by decide) (by decide) (by decide) (oI_i ?_)
    rw [e1]
    generalize hS2 : ((S.setI m 0 0).setI m 37 0).setI m 37 (((S.setI m 0 0).setI m 37 0).I m 37 + 1) = S2
    have f2 : Fr m [] [37] (S.setI m 0 0) S2 := by rw [← hS2]; exact f1.tr (Fr.sB (by decide))
    have hL2 := f2.lay (show RLay (S.setI m 0 0) m by exact hL)
    have h2 : S2.I m 37 = 1 := by rw [← hS2, sI_I, if_pos ⟨rfl, rfl⟩, sI_I, if_pos ⟨rfl, rfl⟩]; rfl
    have p8 : 2 ^ 3 ≤ 2 ^ n := Nat.pow_le_pow_right (by decide) h37.1
    obtain ⟨t1, t2, t3⟩ := trF_rs (w := S.I (m+1)) (n := n) (kn := 0) (x := 7) h37.1 h37.2.1 (by decide) (by omega) (by decide)
    have e3 : tr3 (S.I (m+1)) n 0 1 2 = (rsN n 0 7 (rW (S.I (m+1)) n) : Nat) := t1
    have t4 : rsN n 0 7 (rW (S.I (m+1)) n) < 3 := by
      have := tb_hi (x := 7) (n := 3) (t := rsN n 0 7 (rW (S.I (m+1)) n)) (by decide)
      rcases Nat.lt_or_ge (rsN n 0 7 (rW (S.I (m+1)) n)) 3 with c | c
      · exact c
      · rw [this c] at t3; exact absurd t3 (by decide)
    have et : (tr3 (S.I (m+1)) n 0 1 2).toNat = rsN n 0 7 (rW (S.I (m+1)) n) := by rw [e3]; rfl
    generalize hq : rsN n 0 7 (rW (S.I (m+1)) n) = q at *
    have hl := hL2
    unfold RLay at hl
    rw [e3]
    have last : ∀ a c : Nat, a = (if q = 0 then 1 else 0) → c = (if q = 2 then 1 else 2) → ∃ f, VX11_sorted_86 dd Q f m p 3 (((S2.setI (m+19) 0 (a : Int)).setI (m+19) 1 (q : Int)).setI (m+19) 2 (c : Int)) := by
      intro a c ha hc
      have f3 : Fr m [19] [] S2 (((S2.setI (m+19) 0 (a : Int)).setI (m+19) 1 (q : Int)).setI (m+19) 2 (c : Int)) := (Fr.sA (by decide) (by decide)).tr ((Fr.sA (by decide) (by decide)).tr (Fr.sA (by decide) (by decide)))
      refine ⟨n - 3 + 1, f_so86 (n := n) (w := S.I (m+1)) (by omega) hg (by omega) (n - 3) (k := 0) (f3.lay hL2) (by rw [f3.arr (by decide) (by decide), f2.arr (by decide) (by decide), e0]) (by omega) (fun r hr => ?_) (by rw [f3.fld (by decide), h2]; rfl) (fun S' f4 => ?_)⟩
      · show _ = ((so0 (S.I (m+1)) n r : Nat) : Int) ∧ so0 (S.I (m+1)) n r < 7
        unfold so0
        rw [et]
        have : r = 0 ∨ r = 1 ∨ r = 2 := by omega
        rcases this with rfl | rfl | rfl
        · simp [sI_I, ha]; split <;> omega
        · simp [sI_I]; omega
        · simp [sI_I, hc]; split <;> omega
      · have f5 : Fr m [19] [37] (S.setI m 0 0) S' := (f2.wk (by decide) (by decide)).tr ((f3.wk (by decide) (by decide)).tr f4)
        exact fin h (by unfold A_sorted; rw [if_pos cp]) ((RQ.s0 hI.2.2).fr f5 (by decide) (by decide) (by decide) (by decide) (by decide)) (by rw [f5.fld (by decide), sI_I, if_pos ⟨rfl, rfl⟩])
    unfold VX11_sorted_60 VX11_sorted_83
    simp only [hl, sI_K, sI_N, sI_R, sI_J, Option.some.injEq, exists_eq_left', true_and, and_true, Int.toNat_zero, Int.reduceToNat, Int.reduceLT, Int.reduceLE, Int.cast_ofNat_Int, forall_eq, ge_iff_le, Int.reduceNeg, Int.reduceAdd, Int.reduceSub, Int.reduceMul, Int.reduceEq, r32_0, r32_1, r32_m1, b01_0, b01_1, not_true_eq_false, not_false_eq_true, false_implies, true_implies, implies_true, forall_const]
    refine ⟨(by unfold R32; omega), fun c => ⟨⟨(by unfold R32; omega), (by unfold R32; omega)⟩, fun c2 => ?_, fun c2 => ?_⟩, fun c => ⟨⟨(by unfold R32; omega), (by unfold R32; omega)⟩, fun c2 => ?_, fun c2 => ?_⟩⟩
    · exact last 0 2 (by rw [if_neg (by omega)]) (by rw [if_neg (by omega)])
    · exact last 0 1 (by rw [if_neg (by omega)]) (by rw [if_pos (by omega)])
    · exact last 1 2 (by rw [if_pos (by omega)]) (by rw [if_neg (by omega)])
    · exact last 1 1 (by rw [if_pos (by omega)]) (by rw [if_pos (by omega)])
  refine ⟨hp, fun c => good (Or.inl c), fun c => l_no (n := n) (by omega) hI hp (fun r hr => oI_i ⟨hr.r, fun c2 => good (Or.inr ?_), fun c2 => ?_⟩)⟩
  · rcases hr with ⟨rfl, -⟩ | ⟨-, hr⟩ <;> omega
  · have cp : ¬ (p = -1 ∨ (0 ≤ p ∧ p < (n : Int))) := by rcases hr with ⟨-, hr⟩ | ⟨rfl, -⟩ <;> omega
    unfold VX11_sorted_24
    refine ⟨hL.1, t_if (P := True) (by omega) (by exact hL) (.y trivial) (fun k => absurd trivial k) (fun _ => oI_i ?_)⟩
    simp only [hl, sI_K, sI_N, sI_R, sI_J, Option.some.injEq, exists_eq_left', true_and, and_true, Int.toNat_zero, Int.reduceToNat, Int.reduceLT, Int.reduceLE, Int.cast_ofNat_Int, forall_eq, ge_iff_le, Int.reduceNeg, Int.reduceAdd, Int.reduceSub, Int.reduceMul, Int.reduceEq, r32_0, r32_1, r32_m1, b01_0, b01_1, not_true_eq_false, not_false_eq_true, false_implies, true_implies, implies_true, forall_const]
    exact fin h (by unfold A_sorted; rw [if_neg cp]) (rq_x hI) rq_t
