/-! the class's layings -/
theorem cmb_mem_ : ∀ n, n < 8 → ∀ k, k < 5 → ∀ x, x < 2 ^ n → ((!(Nat.beq (pc x) k) || (Nat.blt k 2 || (cmb n n k).contains x)) = true) := by decide +kernel
theorem cmb_ix {n kn x : Nat} (h7 : n ≤ 7) (hx : x < 2 ^ n) (hp : pc x = pansK kn) : ∃ i, i < (cmb n n (pansK kn)).length ∧ (cmb n n (pansK kn)).getD i 0 = x := by
  have hk : 2 ≤ pansK kn ∧ pansK kn < 5 := by unfold pansK; split <;> (try split) <;> omega
  have m : x ∈ cmb n n (pansK kn) := by
    have h := cmb_mem_ n (by omega) (pansK kn) hk.2 x hx
    rw [hp] at h
    have b1 : Nat.beq (pansK kn) (pansK kn) = true := Nat.beq_refl _
    have b2 : Nat.blt (pansK kn) 2 = false := by
      cases e : Nat.blt (pansK kn) 2
      · rfl
      · have := Nat.le_of_ble_eq_true e; omega
    rw [b1, b2] at h
    simpa using h
  obtain ⟨i, hi, e⟩ := List.getElem_of_mem m
  exact ⟨i, hi, by rw [List.getD_eq_getElem?_getD, List.getElem?_eq_getElem hi]; exact e⟩
theorem mbN_at {x t : Nat} (ht : t < 7) (hb : x.testBit t = true) : mbN x (cntB (fun u => x.testBit u) t) = t := by
  unfold mbN mbr
  rw [ff_at (t0 := t) (by rw [hb, decide_eq_true rfl]; rfl) (Nat.zero_le _) (by omega) (fun u _ _ hu => ?_)]
  · rfl
  · rw [Bool.and_eq_true] at hu
    exact cntB_one hu.1 hb (of_decide_eq_true hu.2)
theorem pc_mod {x t : Nat} (ht : t ≤ 7) : pc (x % 2 ^ t) = cntB (fun u => x.testBit u) t := by
  unfold pc
  obtain ⟨q, hq⟩ : ∃ q, 7 = t + q := ⟨7 - t, by omega⟩
  rw [hq, cntB_split, cntB_0 (n := q) (fun k _ => by rw [Nat.testBit_mod_two_pow, decide_eq_false (by omega)]; rfl), Nat.add_zero]
  exact cntB_cong (fun k hk => by rw [Nat.testBit_mod_two_pow, decide_eq_true hk]; rfl)
theorem enum_sm {x : Nat} {g : Nat → Nat} : ∀ {m : Nat}, m ≤ 7 → smB (fun t => if x.testBit t then g t else 0) m = smB (fun j => g (mbN x j)) (cntB (fun u => x.testBit u) m)
  | 0, _ => rfl
  | m + 1, h => by
    have ih := enum_sm (x := x) (g := g) (m := m) (by omega)
    show smB _ m + (if x.testBit m = true then g m else 0) = smB _ (cntB _ m + (if x.testBit m = true then 1 else 0))
    rw [ih]
    by_cases c : x.testBit m = true
    · rw [if_pos c, if_pos c]
      show _ = smB _ _ + g (mbN x (cntB (fun u => x.testBit u) m))
      rw [mbN_at (by omega) c]
    · rw [if_neg c, if_neg c]
      rfl
theorem enum_mx {x : Nat} {g : Nat → Nat} : ∀ {m : Nat}, m ≤ 7 → mxB (fun t => if x.testBit t then g t else 0) m = mxB (fun j => g (mbN x j)) (cntB (fun u => x.testBit u) m)
  | 0, _ => rfl
  | m + 1, h => by
    have ih := enum_mx (x := x) (g := g) (m := m) (by omega)
    show max (mxB _ m) (if x.testBit m = true then g m else 0) = mxB _ (cntB _ m + (if x.testBit m = true then 1 else 0))
    rw [ih]
    by_cases c : x.testBit m = true
    · rw [if_pos c, if_pos c]
      show _ = max (mxB _ _) (g (mbN x (cntB (fun u => x.testBit u) m)))
      rw [mbN_at (by omega) c]
    · rw [if_neg c, if_neg c]
      exact Nat.max_eq_left (Nat.zero_le _)
theorem ct_cons {q : Nat → Bool} {a : Nat} {L : List Nat} : ct q (a :: L) = (if q a then 1 else 0) + ct q L := by
  unfold ct
  rw [List.filter_cons]
  by_cases c : q a = true
  · rw [if_pos c, if_pos c, List.length_cons]; omega
  · rw [if_neg c, if_neg c]; omega
theorem rc_sum {n kn x : Nat} : ∀ {L : List Nat}, (∀ r ∈ L, rsN n kn x r < 7) → smB (rc n kn x L) 7 = L.length
  | [], _ => by
    have : ∀ m, smB (rc n kn x []) m = 0 := by
      intro m
      induction m with
      | zero => rfl
      | succ m ih => show smB _ m + _ = 0; rw [ih]; rfl
    exact this 7
  | a :: L, h => by
    have ih := rc_sum (L := L) (fun r hr => h r (List.mem_cons_of_mem _ hr))
    rw [List.length_cons, ← ih]
    have e : ∀ t, rc n kn x (a :: L) t = (if t = rsN n kn x a then 1 else 0) + rc n kn x L t := fun t => by
      unfold rc
      rw [ct_cons]
      by_cases c : rsN n kn x a = t
      · rw [if_pos (decide_eq_true c), if_pos c.symm]
      · rw [if_neg (by rw [decide_eq_false c]; decide), if_neg (fun k => c k.symm)]
    rw [smB_cong (g := fun t => (if t = rsN n kn x a then 1 else 0) + rc n kn x L t) (fun t _ => e t), smB_add, smB_one (fun _ => 1) (h a (List.mem_cons_self))]
    omega
/-- who does not lie on the scale never rises -/
theorem rc_out {n kn x t : Nat} {L : List Nat} (h3 : 3 ≤ n) (h7 : n ≤ 7) (hk : kn < 3) (hx : x < 2 ^ n) (hp : pc x = pansK kn) (hL : ∀ r ∈ L, r < fct n) (hb : ¬ x.testBit t = true) : rc n kn x L t = 0 := by
  unfold rc ct
  rw [List.length_eq_zero_iff, List.filter_eq_nil_iff]
  intro r hr k
  have a := rs_N (kn := kn) h3 h7 (hL r hr) hx (by rw [hp]; exact belK_pans hk)
  rw [of_decide_eq_true k] at a
  exact hb a.2.2.1
theorem enum_all {n kn x : Nat} {L : List Nat} (h3 : 3 ≤ n) (h7 : n ≤ 7) (hk : kn < 3) (hx : x < 2 ^ n) (hp : pc x = pansK kn) (hL : ∀ r ∈ L, r < fct n) : wst n kn x L = mxB (fun j => rc n kn x L (mbN x j)) (pansK kn) ∧ spr n kn x L = smB (fun j => sqs (rc n kn x L) (mbN x j)) (pansK kn) ∧ L.length = smB (fun j => rc n kn x L (mbN x j)) (pansK kn) := by
  have o : ∀ t, rc n kn x L t = if x.testBit t then rc n kn x L t else 0 := fun t => by
    by_cases c : x.testBit t = true
    · rw [if_pos c]
    · rw [if_neg c]; exact rc_out h3 h7 hk hx hp hL c
  have p7 : pansK kn = cntB (fun u => x.testBit u) 7 := hp.symm
  refine ⟨?_, ?_, ?_⟩
  · unfold wst
    rw [mxB_cong (g := fun t => if x.testBit t then rc n kn x L t else 0) (fun t _ => o t), enum_mx (Nat.le_refl _), p7]
  · unfold spr
    rw [smB_cong (g := fun t => if x.testBit t then sqs (rc n kn x L) t else 0) (fun t _ => ?_), enum_sm (Nat.le_refl _), p7]
    by_cases c : x.testBit t = true
    · rw [if_pos c]
    · rw [if_neg c]
      unfold sqs
      rw [rc_out h3 h7 hk hx hp hL c]
  · rw [← rc_sum (n := n) (kn := kn) (x := x) (L := L) (fun r hr => by have := (rs_N (kn := kn) h3 h7 (hL r hr) hx (by rw [hp]; exact belK_pans hk)).2.1; omega), smB_cong (g := fun t => if x.testBit t then rc n kn x L t else 0) (fun t _ => o t), enum_sm (Nat.le_refl _), p7]
/-! asking them -/
theorem k_setAt {d y n k lo hi li : Nat} {S : MS} {Q : Out → MS → Prop} {x : Int} (hd : 1 ≤ d) (h7 : n ≤ 7) (hY : LY S y n k lo hi li) (hx : R32 x) (h : Q (.inl (some (vI (if 0 ≤ x ∧ x < ((cmb n n (pansK k)).length : Int) then ((cmb n n (pansK k)).getD x.toNat 0 : Int) else -1)))) S) : Mw hX2_setAt yX2_setAt d [vA y, vI x] S Q := by
  obtain ⟨⟨a1, -⟩, ⟨c, b1, b2, b3, b4, b5, b6⟩, -⟩ := hY
  have ck := (cmb_k (kn := k) h7).1
  have hl := And.intro a1 (And.intro b1 (And.intro b4 b5))
  obtain ⟨dd, rfl⟩ : ∃ e, d = e + 1 := ⟨d - 1, by omega⟩
  refine MX2_setAt ?_
  unfold VX2_setAt_0
  simp only [hl, sI_K, sI_N, sI_R, sI_J, sJ_K, sJ_N, sJ_R, sJ_I, sR_K, sR_N, sR_I, sR_J, Option.some.injEq, exists_eq_left', true_and, and_true, and_self_left, Int.toNat_natCast, Int.toNat_zero, Int.reduceToNat, Int.reduceLT, Int.reduceLE, Nat.reduceLeDiff, Nat.reduceLT, Int.cast_ofNat_Int, forall_eq, ge_iff_le, Int.reduceNeg, Int.reduceAdd, Int.reduceSub, Int.reduceMul, Int.reduceEq, r32_0, r32_1, r32_m1, b01_0, b01_1, not_true_eq_false, not_false_eq_true, false_implies, true_implies, implies_true, forall_const]
  refine ⟨hx, fun c => ?_, fun c => ⟨⟨hx, (by unfold R32; omega)⟩, fun c2 => ?_, fun c2 => ⟨by omega, ?_⟩⟩⟩
  · rw [if_neg (by omega)] at h; exact h
  · rw [if_neg (by omega)] at h; exact h
  · rw [if_pos (by omega)] at h
    rw [b6 x.toNat (by omega)]
    exact h
theorem k_indexOf {d y n k lo hi li i : Nat} {S : MS} {Q : Out → MS → Prop} {x : Int} (hd : 1 ≤ d) (h7 : n ≤ 7) (hY : LY S y n k lo hi li) (hi' : i < (cmb n n (pansK k)).length) (hx : x = ((cmb n n (pansK k)).getD i 0 : Nat)) (h : Q (.inl (some (vI (i : Nat)))) S) : Mw hX2_indexOf yX2_indexOf d [vA y, vI x] S Q := by
  subst hx
  obtain ⟨⟨a1, -⟩, -, ⟨c, b1, b2, b3, b4, b5, b6⟩, -⟩ := hY
  have ck := ((cmb_k (kn := k) h7).2 _ (getD_mem hi')).1
  have p7 := p2_7 h7
  have hl := And.intro a1 (And.intro b1 (And.intro b4 b5))
  obtain ⟨dd, rfl⟩ : ∃ e, d = e + 1 := ⟨d - 1, by omega⟩
  refine MX2_indexOf ?_
  unfold VX2_indexOf_0
  simp only [hl, sI_K, sI_N, sI_R, sI_J, sJ_K, sJ_N, sJ_R, sJ_I, sR_K, sR_N, sR_I, sR_J, Option.some.injEq, exists_eq_left', true_and, and_true, and_self_left, Int.toNat_natCast, Int.toNat_zero, Int.reduceToNat, Int.reduceLT, Int.reduceLE, Nat.reduceLeDiff, Nat.reduceLT, Int.cast_ofNat_Int, forall_eq, ge_iff_le, Int.reduceNeg, Int.reduceAdd, Int.reduceSub, Int.reduceMul, Int.reduceEq, r32_0, r32_1, r32_m1, b01_0, b01_1, not_true_eq_false, not_false_eq_true, false_implies, true_implies, implies_true, forall_const]
  rw [b6 i hi']
  exact ⟨(by unfold R32; omega), fun c => by omega, fun c => ⟨⟨(by unfold R32; omega), (by unfold R32; omega)⟩, fun c2 => by omega, fun c2 => ⟨by omega, h⟩⟩⟩
theorem k_risingAt {d y n k lo hi li i j : Nat} {S : MS} {Q : Out → MS → Prop} {x z : Int} (hd : 1 ≤ d) (h7 : n ≤ 7) (hY : LY S y n k lo hi li) (hi' : i < (cmb n n (pansK k)).length) (hj : j < pansK k) (hx : x = (i : Int)) (hz : z = (j : Int)) (h : ∀ e, (lo ≤ e ∧ e < hi) → LA S e (Wn n) (inR n fun r => decide (rsN n k ((cmb n n (pansK k)).getD i 0) r = mbN ((cmb n n (pansK k)).getD i 0) j)) → Q (.inl (some (vA e))) S) : Mw hX2_risingAt yX2_risingAt d [vA y, vI x, vI z] S Q := by
  subst hx hz
  obtain ⟨⟨a1, -, a3, -⟩, -, -, ⟨f, d1, d2, d3, d4⟩, -⟩ := hY
  obtain ⟨e, g1, g2, g3⟩ := d4 i hi' j hj
  have ck := (cmb_k (kn := k) h7).1
  have pk : pansK k < 5 := by unfold pansK; split <;> (try split) <;> omega
  have l1 : i * pansK k + j < (cmb n n (pansK k)).length * pansK k := by
    have := Nat.mul_le_mul_right (pansK k) (show i + 1 ≤ (cmb n n (pansK k)).length from hi')
    rw [Nat.add_mul, Nat.one_mul] at this
    omega
  have l2 : (cmb n n (pansK k)).length * pansK k ≤ 35 * 5 := Nat.mul_le_mul ck (by omega)
  have hl := And.intro a1 (And.intro d1 (And.intro d2.1 d3))
  obtain ⟨dd, rfl⟩ : ∃ e, d = e + 1 := ⟨d - 1, by omega⟩
  refine MX2_risingAt ?_
  unfold VX2_risingAt_0
  rw [a3, show (i : Int) * ((pansK k : Nat) : Int) + (j : Int) = ((i * pansK k + j : Nat) : Int) by push_cast; rfl]
  generalize hv : i * pansK k + j = v at *
  generalize hm : (cmb n n (pansK k)).length * pansK k = m at *
  simp only [hl, sI_K, sI_N, sI_R, sI_J, sJ_K, sJ_N, sJ_R, sJ_I, sR_K, sR_N, sR_I, sR_J, Option.some.injEq, exists_eq_left', true_and, and_true, and_self_left, Int.toNat_natCast, Int.toNat_zero, Int.reduceToNat, Int.reduceLT, Int.reduceLE, Nat.reduceLeDiff, Nat.reduceLT, Int.cast_ofNat_Int, forall_eq, ge_iff_le, Int.reduceNeg, Int.reduceAdd, Int.reduceSub, Int.reduceMul, Int.reduceEq, r32_0, r32_1, r32_m1, b01_0, b01_1, not_true_eq_false, not_false_eq_true, false_implies, true_implies, implies_true, forall_const]
  refine ⟨(by unfold R32; omega), fun c => by omega, fun c => ⟨⟨(by unfold R32; omega), (by unfold R32; omega)⟩, fun c2 => by omega, fun c2 => ⟨⟨by omega, by omega⟩, e, g1, h e g2 g3⟩⟩⟩
theorem k_rising {d y n k lo hi li x t : Nat} {S : MS} {Q : Out → MS → Prop} {u v : Int} (hd : 2 ≤ d) (h7 : n ≤ 7) (hY : LY S y n k lo hi li) (hx : x < 2 ^ n) (hp : pc x = pansK k) (ht : t < n) (hb : x.testBit t = true) (hu : u = (x : Int)) (hv : v = (t : Int)) (h : ∀ e, (lo ≤ e ∧ e < hi) → LA S e (Wn n) (inR n fun r => decide (rsN n k x r = t)) → Q (.inl (some (vA e))) S) : Mw hX2_rising yX2_rising d [vA y, vI u, vI v] S Q := by
  subst hu hv
  have p7 := p2_7 h7
  obtain ⟨i, hi', e⟩ := cmb_ix (kn := k) h7 hx hp
  have ck := (cmb_k (kn := k) h7).1
  have a1 := hY.1.1
  have q0 := Nat.two_pow_pos t
  have q1 : 2 ^ t < 2 ^ n := Nat.pow_lt_pow_right (by decide) ht
  obtain ⟨dd, rfl⟩ : ∃ e, d = e + 1 := ⟨d - 1, by omega⟩
  refine MX2_rising ?_
  unfold VX2_rising_0
  refine ⟨a1, k_indexOf (by omega) h7 hY hi' (by rw [e]) (oI_i ⟨⟨(by unfold R32; omega), (by unfold R32; omega)⟩, fun c => ?_, fun c => by omega⟩)⟩
  rw [i1_shl (by omega), show ((2 ^ t : Nat) : Int) - 1 = ((2 ^ t - 1 : Nat) : Int) by omega, iAnd_n (by omega) (by omega), Nat.and_two_pow_sub_one_eq_mod]
  have lm : x % 2 ^ t < 2 ^ t := Nat.mod_lt _ q0
  refine c_bitCount (by omega) rfl (by omega) (oI_i ⟨a1, ?_⟩)
  rw [pc_mod (by omega)]
  have jl : cntB (fun u => x.testBit u) t < pansK k := by
    rw [← hp]
    unfold pc
    have := cntB_mono (fun u => x.testBit u) (show t + 1 ≤ 7 by omega)
    have e2 : cntB (fun u => x.testBit u) (t + 1) = cntB (fun u => x.testBit u) t + 1 := by show _ + _ = _; rw [if_pos hb]
    omega
  refine k_risingAt (by omega) h7 hY hi' jl rfl rfl (fun e1 r1 r2 => oA_i ?_)
  rw [e, mbN_at (by omega) hb] at r2
  exact h e1 r1 r2
