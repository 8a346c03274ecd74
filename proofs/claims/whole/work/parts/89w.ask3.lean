/-! the k-th pair of ends, means, wants, votes, counts, sorting -/
theorem kf_pair20 {d x n a : Nat} {w : Nat → Int} {k : Int} {Q : Out → MS → Prop} {c4 : Nat → Int → Int → Int → MS → Prop} (hd : 8 ≤ d) (hk : R32 k) (ha : a < n) (hc : ∀ (f' : Nat) (m : Nat) (S' : MS), CI S' x n w → m ≤ 7 * (a + 1) → 9 * (n - (a + 1)) + (n - (a + 2)) < f' → (∀ S'', CI S'' x n w → CQ x S' S'' → Q (.inl (some (vI (scP (enP n (rowsL n w 0)) n f' (a + 1) (a + 2) (k - (m : Int)))))) S'') → c4 x k (m : Nat) ((a : Int) + 1) S') : ∀ (j : Nat) {S : MS} {b f m : Nat}, b + j = n → a < b → m ≤ 7 * a + b → 9 * (n - a) + (n - b) < f → CI S x n w → (∀ S', CI S' x n w → CQ x S S' → Q (.inl (some (vI (scP (enP n (rowsL n w 0)) n f a b (k - (m : Int)))))) S') → VX10_pair_20 d c4 Q (j + 1) x k (m : Nat) (a : Nat) (b : Nat) S := by
  intro j
  induction j with
  | zero =>
    intro S b f m hb hab hm hf hC h
    have hX := hC.1
    have g0 := hC.2.1.2.2.1
    unfold VX10_pair_20
    refine ⟨hX.1, x+12, hX.2.1.2.2.1, hC.2.1.1.1, ?_⟩
    rw [hC.i7]
    obtain ⟨f', rfl⟩ : ∃ f', f = f' + 1 := ⟨f - 1, by omega⟩
    refine ⟨⟨(by unfold R32; omega), (by unfold R32; omega)⟩, fun _ => hc f' m S hC (by omega) (by omega) (fun S'' C'' q'' => ?_), fun c => by omega⟩
    have := h S'' C'' q''
    unfold scP at this
    rw [if_neg (by omega), if_pos (by omega)] at this
    exact this
  | succ j ih =>
    intro S b f m hb hab hm hf hC h
    have hX := hC.1
    have g0 := hC.2.1.2.2.1
    obtain ⟨f', rfl⟩ : ∃ f', f = f' + 1 := ⟨f - 1, by omega⟩
    unfold VX10_pair_20 VX10_pair_65
    refine ⟨hX.1, x+12, hX.2.1.2.2.1, hC.2.1.1.1, ?_⟩
    rw [hC.i7]
    refine ⟨⟨(by unfold R32; omega), (by unfold R32; omega)⟩, fun c => by omega, fun _ => ⟨hX.1, k_both hd hC (fun S1 wb p W q1 => ⟨W.1.2.2.2.1.1, k_mayEnd (by omega) g0.1 g0.2.1 W.1.2.2.2 W.2.2.1 W.2.2.2.1 rfl rfl ha (by omega) (by omega) (fun q hq => oI_i ⟨hq.r, fun c => ?_, fun c => ⟨⟨(by unfold R32; omega), hk⟩, fun c2 => ?_, fun c2 => ?_⟩⟩)⟩)⟩⟩
    · have e : enP n (rowsL n w 0) a b = false := by
        rw [W.2.2.2.2] at hq
        rcases hq with ⟨rfl, -⟩ | ⟨-, k⟩
        · omega
        · simpa using k
      refine ih (b := b + 1) (f := f') (by omega) (by omega) (by omega) (by omega) W.1.1 (fun S' C' q' => ?_)
      have := h S' C' (q1.1.tr q')
      unfold scP at this
      rw [if_neg (by omega), if_neg (by omega), if_neg (by rw [e]; decide)] at this
      exact this
    · have e : enP n (rowsL n w 0) a b = true := by
        rw [W.2.2.2.2] at hq
        rcases hq with ⟨-, k⟩ | ⟨rfl, -⟩
        · exact k
        · omega
      refine ih (b := b + 1) (f := f') (m := m + 1) (by omega) (by omega) (by omega) (by omega) W.1.1 (fun S' C' q' => ?_)
      have := h S' C' (q1.1.tr q')
      unfold scP at this
      rw [if_neg (by omega), if_neg (by omega), if_pos e, if_neg (by omega), show k - (m : Int) - 1 = k - ((m + 1 : Nat) : Int) by omega] at this
      exact this
    · have e : enP n (rowsL n w 0) a b = true := by
        rw [W.2.2.2.2] at hq
        rcases hq with ⟨-, k⟩ | ⟨rfl, -⟩
        · exact k
        · omega
      have := h S1 W.1.1 q1.1
      unfold scP at this
      rw [if_neg (by omega), if_neg (by omega), if_pos e, if_pos (by omega)] at this
      exact this
theorem kf_pair4 {d x n : Nat} {w : Nat → Int} {k : Int} {Q : Out → MS → Prop} (hd : 8 ≤ d) (hk : R32 k) : ∀ (j : Nat) {S : MS} {a f m : Nat}, a + j = n → m ≤ 7 * a → 9 * (n - a) + (n - (a + 1)) < f → CI S x n w → (∀ S', CI S' x n w → CQ x S S' → Q (.inl (some (vI (scP (enP n (rowsL n w 0)) n f a (a + 1) (k - (m : Int)))))) S') → VX10_pair_4 d Q (j + 1) x k (m : Nat) (a : Nat) S := by
  intro j
  induction j with
  | zero =>
    intro S a f m ha hm hf hC h
    have hX := hC.1
    have g0 := hC.2.1.2.2.1
    obtain ⟨f', rfl⟩ : ∃ f', f = f' + 1 := ⟨f - 1, by omega⟩
    unfold VX10_pair_4
    refine ⟨hX.1, x+12, hX.2.1.2.2.1, hC.2.1.1.1, ?_⟩
    rw [hC.i7]
    have := h S hC CQ.rf
    unfold scP at this
    rw [if_pos (by omega)] at this
    exact ⟨⟨(by unfold R32; omega), (by unfold R32; omega)⟩, fun _ => this, fun c => by omega⟩
  | succ j ih =>
    intro S a f m ha hm hf hC h
    have hX := hC.1
    have g0 := hC.2.1.2.2.1
    unfold VX10_pair_4
    refine ⟨hX.1, x+12, hX.2.1.2.2.1, hC.2.1.1.1, ?_⟩
    rw [hC.i7]
    exact ⟨⟨(by unfold R32; omega), (by unfold R32; omega)⟩, fun c => by omega, fun _ => ⟨j + 1, kf_pair20 hd hk (show a < n by omega) (fun f' m' S' C' hm' hf' h' => ih (a := a + 1) (by omega) (by omega) (by omega) C' h') j (b := a + 1) (by omega) (by omega) (by omega) hf hC h⟩⟩
theorem q_pair {d x n : Nat} {w : Nat → Int} {k : Int} {S : MS} {Q : Out → MS → Prop} (hd : 9 ≤ d) (hC : CI S x n w) (hk : R32 k) (h : ∀ S', CI S' x n w → CQ x S S' → Q (.inl (some (vI (A_pair n w k)))) S') : Mw hX10_pair yX10_pair d [vA x, vI k] S Q := by
  have g0 := hC.2.1.2.2.1
  unfold A_pair at h
  obtain ⟨dd, rfl⟩ : ∃ e, d = e + 1 := ⟨d - 1, by omega⟩
  refine MX10_pair ?_
  unfold VX10_pair_0
  refine ⟨_, kf_pair4 (by omega) hk n (a := 0) (m := 0) (f := 200) (by omega) (by omega) (by omega) hC (fun S' C' q' => ?_)⟩
  have := h S' C' q'
  rw [show k - ((0 : Nat) : Int) = k by omega]
  exact this
/-! the greatest common part -/
theorem kf_common {d : Nat} {S : MS} {Q : Out → MS → Prop} {g : Nat} (h : Q (.inl (some (vI (g : Nat)))) S) : ∀ (j : Nat) {a b t : Nat}, t + j = 64 → b ≤ a → a < 2147483648 → a * b < 2 ^ j → Nat.gcd a b = g → VX10_commonPart_7 d Q (j + 1) (a : Nat) (b : Nat) (t : Nat) S := by
  intro j
  induction j with
  | zero =>
    intro a b t ht hb ha hab hg
    have b0 : b = 0 := by
      rcases Nat.eq_zero_or_pos b with c | c
      · exact c
      · have := Nat.mul_pos (show 0 < a by omega) c
        omega
    rw [b0, Nat.gcd_zero_right] at hg
    subst hg
    unfold VX10_commonPart_7 VX10_commonPart_34
    exact ⟨⟨(by unfold R32; omega), (by unfold R32; omega)⟩, fun _ => h, fun c => by omega⟩
  | succ j ih =>
    intro a b t ht hb ha hab hg
    unfold VX10_commonPart_7 VX10_commonPart_34
    refine ⟨⟨(by unfold R32; omega), (by unfold R32; omega)⟩, fun c => by omega, fun _ => ⟨(by unfold R32; omega), fun c => ?_, fun c => ⟨⟨(by unfold R32; omega), c⟩, ?_⟩⟩⟩
    · rw [show b = 0 by omega, Nat.gcd_zero_right] at hg
      subst hg
      exact h
    · have bp : 0 < b := by omega
      have ml := Nat.mod_lt a bp
      rw [iRem_n (by omega) (by omega)]
      refine ih (t := t + 1) (by omega) (by omega) (by omega) ?_ (by rw [← hg, Nat.gcd_comm a b, Nat.gcd_rec b a, Nat.gcd_comm])
      have dm := Nat.div_add_mod a b
      have d1 : 1 ≤ a / b := (Nat.one_le_div_iff bp).mpr hb
      have l1 : b * 1 ≤ b * (a / b) := Nat.mul_le_mul_left b d1
      have l2 : 2 * (a % b) ≤ a := by omega
      have l3 := Nat.mul_le_mul_left b l2
      rw [Nat.mul_comm b a, show b * (2 * (a % b)) = 2 * (b * (a % b)) by rw [← Nat.mul_assoc, Nat.mul_comm b 2, Nat.mul_assoc]] at l3
      rw [Nat.pow_succ] at hab
      omega
theorem k_commonPart {d a b : Nat} {S : MS} {Q : Out → MS → Prop} {u v : Int} (hd : 1 ≤ d) (eu : u = (a : Int)) (ev : v = (b : Int)) (ha : a < 100000) (hb : 0 < b) (hb' : b < 100000) (h : Q (.inl (some (vI (Nat.gcd b a : Nat)))) S) : Mw hX10_commonPart yX10_commonPart d [vI u, vI v] S Q := by
  subst eu ev
  obtain ⟨dd, rfl⟩ : ∃ e, d = e + 1 := ⟨d - 1, by omega⟩
  refine MX10_commonPart ?_
  unfold VX10_commonPart_0
  refine ⟨65, ?_⟩
  unfold VX10_commonPart_7
  refine ⟨⟨(by unfold R32; omega), (by unfold R32; omega)⟩, fun c => by omega, fun _ => ⟨(by unfold R32; omega), fun c => by omega, fun c => ⟨⟨(by unfold R32; omega), c⟩, ?_⟩⟩⟩
  rw [iRem_n (by omega) (by omega)]
  have ml := Nat.mod_lt a hb
  have m1 : b * (a % b) ≤ 100000 * 100000 := Nat.mul_le_mul (by omega) (by omega)
  exact kf_common h 63 (t := 1) (by omega) (by omega) (by omega) (by omega) (by rw [Nat.gcd_comm b a, Nat.gcd_comm a b, Nat.gcd_rec b a, Nat.gcd_comm])
theorem sm_ct {g : Nat → Nat} {m : Nat} : ∀ {L : List Nat}, (∀ r ∈ L, g r < m) → smL g L = smB (fun p => p * ct (fun r => decide (g r = p)) L) m
  | [], _ => by
    have : ∀ m, smB (fun p => p * ct (fun r => decide (g r = p)) []) m = 0 := by
      intro m
      induction m with
      | zero => rfl
      | succ m ih => show _ + _ = _; rw [ih]; simp [ct]
    rw [this]
    rfl
  | r :: L, h => by
    have ih := sm_ct (L := L) (fun x hx => h x (List.mem_cons_of_mem _ hx))
    have e : smL g (r :: L) = smL g L + g r := by
      unfold smL
      rw [List.map_cons, List.sum_cons, Nat.add_comm]
    rw [e, ih, ← smB_one (fun p => p) (h r List.mem_cons_self), ← smB_add]
    refine smB_cong (fun p _ => ?_)
    have ec : ct (fun r => decide (g r = p)) (r :: L) = ct (fun r => decide (g r = p)) L + (if g r = p then 1 else 0) := by
      unfold ct
      rw [List.filter_cons]
      by_cases c : g r = p
      · rw [if_pos (decide_eq_true c), if_pos c, List.length_cons]
      · rw [if_neg (by simpa using c), if_neg c]
        rfl
    rw [ec, Nat.mul_add]
    by_cases c : g r = p
    · rw [if_pos c.symm, if_pos c, Nat.mul_one]
    · rw [if_neg (fun z => c z.symm), if_neg c, Nat.mul_zero]
theorem kf_stands {d x n t : Nat} {w : Nat → Int} {bl : Int} {Q : Out → MS → Prop} (hd : 8 ≤ d) (ht : t < n) (hb : B01 bl) (hz : 0 < (rowsL n w 0).length) : ∀ (j : Nat) {S : MS} {p : Nat}, p + j = n → CI S x n w → (∀ S', CI S' x n w → CQ x S S' → Q (.inl (some (vI (if bl = 0 then ((smL (fun r => plc n r t) (rowsL n w 0) / Nat.gcd (rowsL n w 0).length (smL (fun r => plc n r t) (rowsL n w 0)) : Nat) : Int) else (((rowsL n w 0).length / Nat.gcd (rowsL n w 0).length (smL (fun r => plc n r t) (rowsL n w 0)) : Nat) : Int))))) S') → VX10_stands_25 d Q (j + 1) x (t : Nat) bl ((rowsL n w 0).length : Nat) (smB (fun p => p * ct (fun r => decide (plc n r t = p)) (rowsL n w 0)) p : Nat) (p : Nat) S := by
  intro j
  induction j with
  | zero =>
    intro S p hp hC h
    have hX := hC.1
    have g0 := hC.2.1.2.2.1
    have hf := fct_le g0.1 g0.2.1
    have rl := rows_le (w := w) (mask := 0) g0.1 g0.2.1
    have sl : smL (fun r => plc n r t) (rowsL n w 0) ≤ 6 * (rowsL n w 0).length := smL_le (fun r hr => by have := plc_lt g0.1 g0.2.1 (rows_m r hr) ht; omega)
    have es := sm_ct (g := fun r => plc n r t) (m := n) (L := rowsL n w 0) (fun r hr => plc_lt g0.1 g0.2.1 (rows_m r hr) ht)
    have gp : 0 < Nat.gcd (rowsL n w 0).length (smL (fun r => plc n r t) (rowsL n w 0)) := Nat.gcd_pos_of_pos_left _ hz
    have gl : Nat.gcd (rowsL n w 0).length (smL (fun r => plc n r t) (rowsL n w 0)) ≤ (rowsL n w 0).length := Nat.gcd_le_left _ hz
    unfold VX10_stands_25
    refine ⟨hX.1, x+12, hX.2.1.2.2.1, hC.2.1.1.1, ?_⟩
    rw [hC.i7, show p = n by omega, ← es]
    refine ⟨⟨(by unfold R32; omega), (by unfold R32; omega)⟩, fun _ => k_commonPart (by omega) rfl rfl (by omega) hz (by omega) (oI_i ⟨b01_r hb, fun c => ?_, fun c => ?_⟩), fun c => by omega⟩
    · have fin := h S hC CQ.rf
      rw [if_pos c] at fin
      unfold VX10_stands_86 VX10_stands_97
      refine ⟨(by unfold R32; omega), fun c2 => by omega, fun c2 => ⟨⟨(by unfold R32; omega), by omega⟩, ?_⟩⟩
      rw [iDiv_n (by omega) (by omega)]
      exact fin
    · have fin := h S hC CQ.rf
      rw [if_neg c] at fin
      unfold VX10_stands_86 VX10_stands_97
      refine ⟨(by unfold R32; omega), fun c2 => by omega, fun c2 => ⟨⟨(by unfold R32; omega), by omega⟩, ?_⟩⟩
      rw [iDiv_n (by omega) (by omega)]
      exact fin
  | succ j ih =>
    intro S p hp hC h
    have hX := hC.1
    have g0 := hC.2.1.2.2.1
    have hW := Wn_le g0.1 g0.2.1
    unfold VX10_stands_25
    refine ⟨hX.1, x+12, hX.2.1.2.2.1, hC.2.1.1.1, ?_⟩
    rw [hC.i7]
    refine ⟨⟨(by unfold R32; omega), (by unfold R32; omega)⟩, fun c => by omega, fun _ => ⟨hX.1, k_both' hd hC (fun S1 b q W q1 => ⟨W.1.2.2.2.1.1, k_standing (by omega) W.1.2.2.2 rfl rfl ht (show p < n by omega) (fun e e1 e3 => oA_i ⟨W.2.2.1.1.1, c_rShared (by omega) hW.1 (W.2.2.2.1.a g0.1 g0.2.1).2 W.2.2.1 e3 (oI_i ?_)⟩)⟩)⟩⟩
    rw [sh_ct W.2.2.2.1, W.2.2.2.2]
    have := ih (p := p + 1) (by omega) W.1.1 (fun S' C' q' => h S' C' (q1.1.tr q'))
    unfold smB at this
    rw [Int.natCast_add, Int.natCast_mul] at this
    exact this
theorem q_stands {d x n : Nat} {w : Nat → Int} {t bl : Int} {S : MS} {Q : Out → MS → Prop} (hd : 9 ≤ d) (hC : CI S x n w) (ht : R32 t) (hb : B01 bl) (h : ∀ S', CI S' x n w → CJ x S S' → Q (oR (A_stands n w t bl) [iob]) S') : Mw hX10_stands yX10_stands d [vA x, vI t, vI bl] S Q := by
  have g0 := hC.2.1.2.2.1
  have hf := fct_le g0.1 g0.2.1
  have rl := rows_le (w := w) (mask := 0) g0.1 g0.2.1
  unfold A_stands at h
  obtain ⟨dd, rfl⟩ : ∃ e, d = e + 1 := ⟨d - 1, by omega⟩
  refine MX10_stands ?_
  unfold VX10_stands_0
  refine ⟨hC.1.1, k_needThing (by omega) hC ht (fun c => xV_i ⟨hC.1.1, k_rowsLeft (by omega) hC (fun S1 b p W q1 => oA_i ⟨W.2.2.1.1.1, ?_⟩)⟩) (fun c => xV_x ?_)⟩
  · rw [if_pos c, oR_0] at h
    rw [W.sz]
    refine ⟨(by unfold R32; omega), fun c2 => ⟨n + 1, ?_⟩, fun c2 => ?_⟩
    · rw [if_neg (by omega)] at h
      have := kf_stands (d := dd) (Q := Q) (t := t.toNat) (by omega) (by omega) hb (by omega) n (p := 0) (by omega) W.1.1 (fun S' C' q' => h S' C' (q1.1.tr q').j)
      rw [show ((t.toNat : Nat) : Int) = t by omega] at this
      exact this
    · rw [if_pos (by omega)] at h
      exact h S1 W.1.1 q1.1.j
  · rw [if_neg c, oR_1] at h
    exact h _ hC.junk (CQ.rf.jk hC.2.2.2.1.1)
theorem q_wants {d x n : Nat} {w : Nat → Int} {a t : Int} {S : MS} {Q : Out → MS → Prop} (hd : 11 ≤ d) (hC : CI S x n w) (ha : R32 a) (ht : R32 t) (h : ∀ S', CI S' x n w → CJ x S S' → Q (oR (A_wants n w a t) [iob, nse]) S') : Mw hX10_wants yX10_wants d [vA x, vI a, vI t] S Q := by
  have g0 := hC.2.1.2.2.1
  have hf := fct_le g0.1 g0.2.1
  have rl := rows_le (w := w) (mask := 0) g0.1 g0.2.1
  unfold A_wants at h
  obtain ⟨dd, rfl⟩ : ∃ e, d = e + 1 := ⟨d - 1, by omega⟩
  refine MX10_wants ?_
  unfold VX10_wants_0
  refine ⟨ha, fun c => ⟨hC.1.1, q_known (by omega) hC (fun S1 C1 q1 => oI_i ?_)⟩, fun c => ⟨hC.1.1, q_centre (by omega) hC (fun S1 C1 q1 => oI_i (c_bitCount (by omega) rfl (mskL_lt _ _) (oI_i ?_)))⟩, fun c => ⟨hC.1.1, q_ends (by omega) hC (fun S1 C1 q1 => oI_i ?_)⟩, fun c => ⟨hC.1.1, k_needThing (by omega) hC ht (fun ct_ => xV_i ⟨hC.1.1, k_rowsLeft (by omega) hC (fun S1 b p W q1 => oA_i ⟨W.2.2.1.1.1, W.1.1.1.1, k_rowsAtEnd (t := t.toNat) (by omega) W.1.1 (by omega) (by omega) (fun S2 b2 p2 W2 q2 => oI_i ?_)⟩)⟩) (fun ct_ => xV_x ?_)⟩, fun c => ⟨by omega, ?_⟩⟩
  · rw [if_neg (by omega), if_neg (by omega), oR_0, if_pos c] at h
    exact ⟨(pI_B _).b, h S1 C1 q1.j⟩
  · rw [if_neg (by omega), if_neg (by omega), oR_0, if_neg (by omega), if_pos c] at h
    have pc7 : pc (ceA n (rowsL n w 0)) ≤ 7 := by unfold pc; exact cntB_le _ _
    refine ⟨⟨(by unfold R32; omega), (by unfold R32; omega)⟩, fun c2 => ⟨b01_0, ?_⟩, fun c2 => ⟨b01_1, ?_⟩⟩
    · have := h S1 C1 q1.j
      rw [pI_n (by omega)] at this
      exact this
    · have := h S1 C1 q1.j
      rw [pI_y (by omega)] at this
      exact this
  · rw [if_neg (by omega), if_neg (by omega), oR_0, if_neg (by omega), if_neg (by omega), if_pos c] at h
    have e128 : enC n (rowsL n w 0) ≤ 128 := cntB_le _ _
    refine ⟨⟨(by unfold R32; omega), (by unfold R32; omega)⟩, fun c2 => ⟨b01_0, ?_⟩, fun c2 => ⟨b01_1, ?_⟩⟩
    · have := h S1 C1 q1.j
      rw [pI_n (by omega)] at this
      exact this
    · have := h S1 C1 q1.j
      rw [pI_y (by omega)] at this
      exact this
  · rw [if_neg (by omega), if_neg (by omega), oR_0, if_neg (by omega), if_neg (by omega), if_neg (by omega)] at h
    have fin := h S2 W2.1.1 (q1.1.tr q2.1).j
    have cl := ct_len (atEnd n t.toNat) (rowsL n w 0)
    rw [W.sz]
    unfold VX10_wants_103
    refine ⟨(by unfold R32; omega), fun c2 => ⟨b01_0, ?_⟩, fun c2 => ⟨(by unfold R32; omega), fun c3 => ⟨b01_1, ?_⟩, fun c3 => ⟨⟨(by unfold R32; omega), (by unfold R32; omega)⟩, fun c4 => ⟨b01_0, ?_⟩, fun c4 => ⟨b01_1, ?_⟩⟩⟩⟩
    · rw [pI_n (by omega)] at fin; exact fin
    · rw [pI_y (by omega)] at fin; exact fin
    · rw [pI_n (by omega)] at fin; exact fin
    · rw [pI_y (by omega)] at fin; exact fin
  · rw [if_pos ⟨c, ct_⟩, oR_1] at h
    exact h _ hC.junk (CQ.rf.jk hC.2.2.2.1.1)
  · rw [if_neg (by omega), if_pos (by omega), oR_2] at h
    exact h _ hC.junk (CQ.rf.jk hC.2.2.2.1.1)
theorem kf_votes {d x n u : Nat} {w : Nat → Int} {S : MS} {Q : Out → MS → Prop} (hd : 2 ≤ d) (hC : CI S x n w) (hu : u < 2 ^ n) (h : Q (.inl (some (vI (vtF w u n).1))) S) : ∀ (j : Nat) {t : Nat}, t + j = n → VX10_votes_12 d Q (j + 1) x (u : Nat) (vtF w u t).1 ((vtF w u t).2 : Nat) (t : Nat) S := by
  have hX := hC.1
  have g0 := hC.2.1.2.2.1
  have p7 := p2_7 g0.2.1
  have i8 := hC.i8
  intro j
  induction j with
  | zero =>
    intro t ht
    unfold VX10_votes_12
    refine ⟨hX.1, x+12, hX.2.1.2.2.1, hC.2.1.1.1, ?_⟩
    rw [hC.i7, show t = n by omega]
    exact ⟨⟨(by unfold R32; omega), (by unfold R32; omega)⟩, fun _ => h, fun c => by omega⟩
  | succ j ih =>
    intro t ht
    have ih' := ih (t := t + 1) (by omega)
    have h1 : vtC w u t ≤ nN w := cntB_le _ _
    have h2 := vtF_r (w := w) (x := u) (t := t)
    unfold vtF at ih'
    unfold VX10_votes_12 VX10_votes_59
    refine ⟨hX.1, x+12, hX.2.1.2.2.1, hC.2.1.1.1, ?_⟩
    rw [hC.i7]
    refine ⟨⟨(by unfold R32; omega), (by unfold R32; omega)⟩, fun c => by omega, fun _ => ⟨hX.1, x+12, hX.2.1.2.2.1, hC.2.1.1.1, k_timesRisen hd hC.2.1 rfl rfl (by omega) (by omega) (oI_i ⟨⟨(by unfold R32; omega), (by unfold R32; omega)⟩, fun c => ⟨⟨(by unfold R32; omega), (by unfold R32; omega)⟩, fun c2 => ?_, fun c2 => ?_⟩, fun c => ?_⟩)⟩⟩
    · rw [if_neg (by omega), if_neg (by omega)] at ih'; exact ih'
    · rw [if_neg (by omega), if_pos (by omega)] at ih'; exact ih'
    · rw [if_pos (by omega)] at ih'; exact ih'
theorem q_votes {d x n : Nat} {w : Nat → Int} {u : Int} {S : MS} {Q : Out → MS → Prop} (hd : 7 ≤ d) (hC : CI S x n w) (hu : R32 u) (h : ∀ S', CI S' x n w → CJ x S S' → Q (oR (A_votes n w u) [iae]) S') : Mw hX10_votes yX10_votes d [vA x, vI u] S Q := by
  unfold A_votes at h
  obtain ⟨dd, rfl⟩ : ∃ e, d = e + 1 := ⟨d - 1, by omega⟩
  refine MX10_votes ?_
  unfold VX10_votes_0
  refine ⟨hC.1.1, k_needThree (by omega) hC hu (fun c => xV_i ⟨n + 1, ?_⟩) (fun c => xV_x ?_)⟩
  · rw [if_pos (IsSet3 c), oR_0] at h
    have c3 := IsSet3 c
    have := kf_votes (d := dd) (Q := Q) (u := u.toNat) (by omega) hC (by omega) (h S hC CQ.rf.j) n (t := 0) (by omega)
    rw [show ((u.toNat : Nat) : Int) = u by omega] at this
    exact this
  · rw [if_neg (IsSet3n c), oR_1] at h
    exact h _ hC.junk (CQ.rf.jk hC.2.2.2.1.1)
theorem q_count {d x n : Nat} {w : Nat → Int} {u : Int} {S : MS} {Q : Out → MS → Prop} (hd : 9 ≤ d) (hC : CI S x n w) (hu : R32 u) (h : ∀ S', CI S' x n w → CQ x S S' → Q (.inl (some (vI (A_count n w u)))) S') : Mw hX10_count yX10_count d [vA x, vI u] S Q := by
  have hX := hC.1
  have g0 := hC.2.1.2.2.1
  have i4 := hC.2.1.2.1.1
  have e0 := h S hC CQ.rf
  unfold A_count at h e0
  obtain ⟨dd, rfl⟩ : ∃ e, d = e + 1 := ⟨d - 1, by omega⟩
  refine MX10_count ?_
  unfold VX10_count_0
  refine ⟨hu, fun c => ⟨hX.1, x+12, hX.2.1.2.2.1, hC.2.1.1.1, ?_⟩, fun c => ⟨hX.1, x+12, hX.2.1.2.2.1, hC.2.1.1.1, ?_⟩, fun c => ⟨hX.1, x+12, hX.2.1.2.2.1, hC.2.1.1.1, ?_⟩, fun c => ⟨hX.1, x+12, hX.2.1.2.2.1, hC.2.1.1.1, ?_⟩, fun c => ⟨hX.1, x+12, hX.2.1.2.2.1, hC.2.1.1.1, k_spentCoin (by omega) hC.2.1 (oI_i ?_)⟩, fun c => ⟨hX.1, k_both (by omega) hC (fun S1 b p W q1 => ⟨W.1.2.2.2.1.1, k_mirrored (by omega) g0.1 g0.2.1 W.1.2.2.2 W.2.2.1 W.2.2.2.1 (by have := W.1.2.2.1; omega) (fun S2 f2 => oI_i ?_)⟩)⟩, fun c => ⟨hX.1, x+12, hX.2.1.2.2.1, hC.2.1.1.1, k_falseNotes (by omega) hC.2.1 (oI_i ?_)⟩, fun c => ?_⟩
  · rw [if_pos c] at e0; rw [i4.1]; exact e0
  · rw [if_neg (by omega), if_pos c] at e0; rw [i4.2.1]; exact e0
  · rw [if_neg (by omega), if_neg (by omega), if_pos c] at e0; rw [i4.2.2.1]; exact e0
  · rw [if_neg (by omega), if_neg (by omega), if_neg (by omega), if_pos c] at e0; rw [i4.2.2.2]; exact e0
  · rw [if_neg (by omega), if_neg (by omega), if_neg (by omega), if_neg (by omega), if_pos c] at e0; exact e0
  · rw [if_neg (by omega), if_neg (by omega), if_neg (by omega), if_neg (by omega), if_neg (by omega), if_pos c] at h
    have li := W.1.2.2.2.2.2.2.1
    have hb := W.1.2.2.1
    have Q2 : QF x b (yk n b 3) S1 S2 := f2.qf (Or.inr (by omega))
    have V2 : LVL S2 (x+50) (x+56) := lvl_sm (f2.sm (by omega)) (f2.sm (by omega)) W.1.1.2.2.1.2
    have W2 := W.q Q2 (f2.fzl.ar W.1.2.2.2) V2 (W.an.eq (by rw [f2.I (by omega)]))
    have := h S2 W2.1.1 (q1.1.tr (Q2.cq hb))
    have em : ct (fun r => p (mir n r)) (lsR p 5056) = mrC n w (rowsL n w 0) := by
      rw [W.2.2.2.2]
      unfold mrC ct
      congr 1
      refine List.filter_congr (fun r hr => ?_)
      have m1 := (mir_row g0.1 g0.2.1 (rows_m r hr)).1
      have hf := fct_le g0.1 g0.2.1
      rw [Bool.eq_iff_iff]
      have : p (mir n r) = true ↔ mir n r ∈ lsR p 5056 := by
        unfold lsR
        rw [List.mem_filter, List.mem_range]
        exact ⟨fun k => ⟨by omega, k⟩, fun k => k.2⟩
      rw [this, W.2.2.2.2]
      unfold rowsL
      rw [List.mem_filter, List.mem_range]
      exact ⟨fun k => k.2, fun k => ⟨m1, k⟩⟩
    rw [em]
    exact this
  · rw [if_neg (by omega), if_neg (by omega), if_neg (by omega), if_neg (by omega), if_neg (by omega), if_neg (by omega), if_pos c] at e0; exact e0
  · rw [if_neg (by omega), if_neg (by omega), if_neg (by omega), if_neg (by omega), if_neg (by omega), if_neg (by omega), if_neg (by omega)] at e0; exact e0
/-- cells between the left rows and the reference change, and no world -/
theorem CI.fi {x n l h_ : Nat} {w : Nat → Int} {S S1 : MS} (h : CI S x n w) (f : Fi l h_ S S1) (h1 : x + 50 ≤ l) (h2 : h_ ≤ x + 176) (hV : LVL S1 (x+50) (x+56)) (hN : S.I x 12 = 1 → AN S1 x n (rowsL n w 0)) : CI S1 x n w ∧ CQ x S S1 := by
  obtain ⟨hX, hS, ⟨⟨p, hL⟩, -⟩, hW, hF⟩ := h
  have hx := hW.1
  refine ⟨⟨hX.mv (fun a _ _ => ⟨by rw [f.1], by rw [f.2.1]⟩) (fun a _ _ _ _ => by rw [f.2.2.1]), f.ss (by omega) hS, ⟨⟨p, f.rs (by omega) hL⟩, hV⟩, hW.mv f.2.2.2.2.1 (by rw [f.2.2.1]) (f.sm (by omega)), by rw [f.I (by omega)]; exact hF.1, fun hf => ?_⟩, f.2.2.2.1, fun a _ _ => f.I (by omega), fun k _ => by rw [f.I (by omega)], fun a _ => ⟨by rw [f.1], by rw [f.2.1]⟩, fun a _ _ => ⟨f.I (by omega), f.J (by omega), by rw [f.2.2.1]⟩, ?_, fun k b hb => by rw [f.2.2.1]; exact hb⟩
  · rw [f.I (by omega)] at hf
    obtain ⟨f1, ⟨p, f2, f4, f5⟩, -⟩ := hF.2 hf
    exact ⟨by rw [f.2.2.1]; exact f1, ⟨p, f.rs (by omega) f2, f4, f5⟩, hN hf⟩
  · have a1 := f.2.2.2.2.1
    have a2 := f.2.2.2.2.2.1
    have a3 : wn0 S1 x = wn0 S x := by unfold wn0; rw [f.2.2.1]
    unfold Pn
    omega
theorem q_sorted {d x n : Nat} {w : Nat → Int} {t : Int} {S : MS} {Q : Out → MS → Prop} (hd : 7 ≤ d) (hC : CI S x n w) (ht : R32 t) (h : ∀ S', CI S' x n w → CJ x S S' → Q (oR (A_sorted n w t) [iob]) S') : Mw hX10_sorted yX10_sorted d [vA x, vI t] S Q := by
  have hX := hC.1
  have g0 := hC.2.1.2.2.1
  have qy := hX.2.2.2.2.2.2.2.2.2.1
  unfold A_sorted at h
  obtain ⟨dd, rfl⟩ : ∃ e, d = e + 1 := ⟨d - 1, by omega⟩
  have go : (t = -1 ∨ (0 ≤ t ∧ t < (n : Int))) → VX10_sorted_26 dd Q x t S := by
    intro z
    rw [if_pos z, oR_0] at h
    unfold VX10_sorted_26
    refine ⟨hX.1, x+53, hX.2.1.2.2.2.2.2.2.2.2.2.2.1, hX.1, x+12, hX.2.1.2.2.1, qy.1, k_sort (by omega) (by omega) qy hC.2.1 (fun S1 f1 l1 i1 => oV_i ?_)⟩
    obtain ⟨C1, q1⟩ := hC.fi f1 (by omega) (by omega) (lvl_sm (f1.sm (by omega)) (f1.sm (by omega)) hC.2.2.1.2) (fun hf => ((hC.2.2.2.2.2 hf).2.2).eq (by rw [f1.I (by omega)]))
    have qy1 := C1.1.2.2.2.2.2.2.2.2.2.1
    have fin := h S1 C1 q1.j
    refine ⟨⟨ht, (by unfold R32; omega)⟩, fun c => ⟨C1.1.1, x+53, C1.1.2.1.2.2.2.2.2.2.2.2.2.2.1, qy1.1, x+53+1, qy1.2.1, ⟨qy1.2.2.1, by omega, by rw [qy1.2.2.2]; omega⟩, ?_⟩, fun c => ⟨C1.1.1, x+53, C1.1.2.1.2.2.2.2.2.2.2.2.2.2.1, qy1.1, ?_⟩⟩
    · rw [if_neg (by omega)] at fin
      rw [l1 t.toNat (by omega)]
      exact fin
    · rw [if_pos (by omega)] at fin
      rw [i1]
      exact fin
  refine MX10_sorted ?_
  unfold VX10_sorted_0
  refine ⟨⟨ht, (by unfold R32; omega)⟩, fun c => go (Or.inl c), fun c => ⟨hX.1, x+12, hX.2.1.2.2.1, hC.2.1.1.1, c_isThing (by omega) hC.2.1 ht (fun q hq => oI_i ⟨hq.r, fun c2 => go (Or.inr ?_), fun c2 => ⟨by omega, ?_⟩⟩)⟩⟩
  · rcases hq with ⟨-, k⟩ | ⟨rfl, -⟩
    · exact k
    · omega
  · have tk : ¬ (0 ≤ t ∧ t < (n : Int)) := by
      rcases hq with ⟨rfl, -⟩ | ⟨-, k⟩
      · omega
      · exact k
    rw [if_neg (by omega), oR_1] at h
    exact h _ hC.junk (CQ.rf.jk hC.2.2.2.1.1)
