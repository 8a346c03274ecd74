/-! the class's tape -/
def TY (S : MS) (a : Nat) : Prop := S.K a = 8 ∧ S.R a 0 = some (a+1) ∧ S.K (a+1) = 13 ∧ S.N (a+1) = 400
def TBy (S : MS) (a : Nat) (tb : Nat → Nat) (len : Nat) : Prop := len ≤ 400 ∧ ∀ i, i < len → tb i < 256 ∧ S.I (a+1) i = (tb i : Nat)
def TW (S : MS) (a : Nat) (tb : Nat → Nat) (len : Nat) : Prop := S.I a 1 = (len : Int) ∧ TBy S a tb len
theorem Fi.ty {lo hi a : Nat} {S S1 : MS} (h : Fi lo hi S S1) (k : TY S a) : TY S1 a := by
  unfold TY
  rw [h.1, h.2.1, h.2.2.1]
  exact k
theorem Fi.tb {lo hi a len : Nat} {tb : Nat → Nat} {S S1 : MS} (h : Fi lo hi S S1) (ha : a + 1 < lo ∨ hi ≤ a + 1) (k : TBy S a tb len) : TBy S1 a tb len := by
  unfold TBy
  rw [h.I ha]
  exact k
theorem Fi.tw {lo hi a len : Nat} {tb : Nat → Nat} {S S1 : MS} (h : Fi lo hi S S1) (ha : a + 1 < lo ∨ hi ≤ a) (k : TW S a tb len) : TW S1 a tb len := by
  refine ⟨?_, h.tb (by omega) k.2⟩
  rw [h.I (by omega)]
  exact k.1
theorem kf_put {d a len : Nat} {tb : Nat → Nat} {v : Int} {Q : Out → MS → Prop} (hlen : len + 4 ≤ 400) (hv : ∀ j, j < 4 → tb (len + j) = byt v j) : ∀ (j : Nat) {S : MS} {k : Nat}, k + j = 4 → TY S a → TW S a tb (len + k) → (∀ S', Fi a (a+2) S S' → TW S' a tb (len + 4) → Q (.inl none) S') → VX8_put_3 d Q (j + 1) a v (24 - 8 * (k : Int)) S := by
  intro j
  induction j with
  | zero =>
    intro S k hk hY hW h
    rw [show k = 4 by omega] at hW ⊢
    unfold VX8_put_3
    exact ⟨(by unfold R32; omega), fun _ => h S Fi.rf hW, fun c => by omega⟩
  | succ j ih =>
    intro S k hk hY hW h
    have hl := hY
    unfold TY at hl
    unfold VX8_put_3
    rw [byt_u (by omega)]
    simp only [hl, sI_K, sI_N, sI_R, sI_J, sJ_K, sJ_N, sJ_R, sJ_I, sR_K, sR_N, sR_I, sR_J, Option.some.injEq, exists_eq_left', true_and, and_true, and_self_left, Int.toNat_natCast, Int.toNat_zero, Int.reduceToNat, Int.reduceLT, Int.reduceLE, Nat.reduceLeDiff, Nat.reduceLT, Int.cast_ofNat_Int, forall_eq, ge_iff_le, Int.reduceNeg, Int.reduceAdd, Int.reduceSub, Int.reduceMul, Int.reduceEq, r32_0, r32_1, r32_m1, b01_0, b01_1, not_true_eq_false, not_false_eq_true, false_implies, true_implies, implies_true, forall_const]
    rw [hW.1]
    simp only [hl, sI_K, sI_N, sI_R, sI_J, sJ_K, sJ_N, sJ_R, sJ_I, sR_K, sR_N, sR_I, sR_J, Option.some.injEq, exists_eq_left', true_and, and_true, and_self_left, Int.toNat_natCast, Int.toNat_zero, Int.reduceToNat, Int.reduceLT, Int.reduceLE, Nat.reduceLeDiff, Nat.reduceLT, Int.cast_ofNat_Int, forall_eq, ge_iff_le, Int.reduceNeg, Int.reduceAdd, Int.reduceSub, Int.reduceMul, Int.reduceEq, r32_0, r32_1, r32_m1, b01_0, b01_1, not_true_eq_false, not_false_eq_true, false_implies, true_implies, implies_true, forall_const]
    have F : Fi a (a+2) S ((S.setI (a+1) (len + k) (byt v k : Nat)).setI a 1 (((len + k : Nat) : Int) + 1)) := (Fi.sI (by omega)).tr (Fi.sI (by omega))
    have hY' := F.ty hY
    refine ⟨(by unfold R32; omega), fun c => by omega, fun _ => ⟨⟨(by unfold R32; omega), (by unfold R32; omega)⟩, fun c => by omega, fun _ => ⟨by omega, ?_⟩⟩⟩
    rw [sI_Ia (show a ≠ a + 1 by omega), hW.1, show 24 - 8 * (k : Int) + (-8) = 24 - 8 * ((k + 1 : Nat) : Int) by omega]
    refine ih (k := k + 1) (by omega) hY' ⟨?_, by omega, fun i hi => ?_⟩ (fun S' f => h S' (F.tr f))
    · rw [sI_I, if_pos ⟨rfl, rfl⟩]; omega
    · rw [sI_Ia (by omega), sI_I]
      by_cases g : i = len + k
      · rw [if_pos ⟨rfl, g⟩, g, hv k (by omega)]
        exact ⟨byt_lt _ _, rfl⟩
      · rw [if_neg (fun c => g c.2)]
        exact hW.2.2 i (by omega)
theorem k_put {d a len : Nat} {tb tb' : Nat → Nat} {v : Int} {S : MS} {Q : Out → MS → Prop} (hd : 1 ≤ d) (hY : TY S a) (hW : TW S a tb len) (hlen : len + 4 ≤ 400) (h0 : ∀ i, i < len → tb' i = tb i) (hv : ∀ j, j < 4 → tb' (len + j) = byt v j) (h : ∀ S', Fi a (a+2) S S' → TW S' a tb' (len + 4) → Q (.inl none) S') : Mw hX8_put yX8_put d [vA a, vI v] S Q := by
  obtain ⟨dd, rfl⟩ : ∃ e, d = e + 1 := ⟨d - 1, by omega⟩
  refine MX8_put ?_
  unfold VX8_put_0
  have := kf_put (d := dd) (Q := Q) (tb := tb') (v := v) hlen hv 4 (k := 0) (by omega) hY ⟨by rw [hW.1]; rfl, by omega, fun i hi => by rw [h0 i hi]; exact hW.2.2 i hi⟩ h
  exact ⟨_, this⟩
theorem k_useUp {d a len : Nat} {tb : Nat → Nat} {S : MS} {Q : Out → MS → Prop} (hd : 1 ≤ d) (hY : TY S a) (hW : TW S a tb len) (h : ∀ S', Fi a (a+1) S S' → TBy S' a tb len → S'.I a 1 = 0 → Q (.inl (some (vI (len : Nat)))) S') : Mw hX8_useUp yX8_useUp d [vA a] S Q := by
  have hl := hY
  unfold TY at hl
  obtain ⟨dd, rfl⟩ : ∃ e, d = e + 1 := ⟨d - 1, by omega⟩
  refine MX8_useUp ?_
  unfold VX8_useUp_0
  simp only [hl, sI_K, sI_N, sI_R, sI_J, sJ_K, sJ_N, sJ_R, sJ_I, sR_K, sR_N, sR_I, sR_J, Option.some.injEq, exists_eq_left', true_and, and_true, and_self_left, Int.toNat_natCast, Int.toNat_zero, Int.reduceToNat, Int.reduceLT, Int.reduceLE, Nat.reduceLeDiff, Nat.reduceLT, Int.cast_ofNat_Int, forall_eq, ge_iff_le, Int.reduceNeg, Int.reduceAdd, Int.reduceSub, Int.reduceMul, Int.reduceEq, r32_0, r32_1, r32_m1, b01_0, b01_1, not_true_eq_false, not_false_eq_true, false_implies, true_implies, implies_true, forall_const]
  rw [hW.1]
  have F : Fi a (a+1) S (S.setI a 1 0) := Fi.sI (by omega)
  exact h _ F (F.tb (by omega) hW.2) (by rw [sI_I, if_pos ⟨rfl, rfl⟩])
theorem k_tAt {d a len i : Nat} {tb : Nat → Nat} {x : Int} {S : MS} {Q : Out → MS → Prop} (hd : 1 ≤ d) (hY : TY S a) (hB : TBy S a tb len) (hx : x = (i : Int)) (hi : i < len) (h : Q (.inl (some (vI (tb i : Nat)))) S) : Mw hX8_at yX8_at d [vA a, vI x] S Q := by
  subst hx
  have hl := hY
  unfold TY at hl
  have h4 := hB.1
  obtain ⟨dd, rfl⟩ : ∃ e, d = e + 1 := ⟨d - 1, by omega⟩
  refine MX8_at ?_
  unfold VX8_at_0
  simp only [hl, sI_K, sI_N, sI_R, sI_J, sJ_K, sJ_N, sJ_R, sJ_I, sR_K, sR_N, sR_I, sR_J, Option.some.injEq, exists_eq_left', true_and, and_true, and_self_left, Int.toNat_natCast, Int.toNat_zero, Int.reduceToNat, Int.reduceLT, Int.reduceLE, Nat.reduceLeDiff, Nat.reduceLT, Int.cast_ofNat_Int, forall_eq, ge_iff_le, Int.reduceNeg, Int.reduceAdd, Int.reduceSub, Int.reduceMul, Int.reduceEq, r32_0, r32_1, r32_m1, b01_0, b01_1, not_true_eq_false, not_false_eq_true, false_implies, true_implies, implies_true, forall_const]
  rw [(hB.2 i hi).2]
  exact ⟨(by unfold R32; omega), fun c => by omega, fun _ => ⟨⟨(by unfold R32; omega), (by unfold R32; omega)⟩, fun c => by omega, fun _ => ⟨by omega, h⟩⟩⟩
/-! a row told -/
def tdF (tb : Nat → Nat) (p q : Nat) : Nat := if q < p then tb q - 48 else 0
def tdI (n : Nat) (tb : Nat → Nat) (p : Nat) : Prop := (∀ q, q < p → 48 ≤ tb q ∧ tb q < 48 + n) ∧ ∀ q r, q < p → r < p → tb q = tb r → q = r
def tdS (tb : Nat → Nat) (p t : Nat) : Bool := (List.range p).any (fun q => decide (tb q = 48 + t))
theorem tdS_iff {tb : Nat → Nat} {p t : Nat} : tdS tb p t = true ↔ ∃ q, q < p ∧ tb q = 48 + t := by
  unfold tdS
  rw [List.any_eq_true]
  constructor
  · rintro ⟨q, h1, h2⟩
    exact ⟨q, List.mem_range.mp h1, of_decide_eq_true h2⟩
  · rintro ⟨q, h1, h2⟩
    exact ⟨q, List.mem_range.mpr h1, decide_eq_true h2⟩
theorem sB_48 {v k : Nat} (hv : v < 256) (hk : k < 8) : sB v = 48 + (k : Int) ↔ v = 48 + k := by
  unfold sB
  split <;> omega
theorem tpB_iff {n r : Nat} {tb : Nat → Nat} (h3 : 3 ≤ n) (h7 : n ≤ 7) (hr : r < fct n) (hb : ∀ i, i < n → tb i < 256) : tpB n tb r = true ↔ ∀ p, p < n → tb p = 48 + rat n r p := by
  unfold tpB
  constructor
  · intro h p hp
    have := of_decide_eq_true (allB_iff h p hp)
    exact (sB_48 (hb p hp) (by have := rat_lt h3 h7 hr hp; omega)).mp this
  · intro h
    have : ∀ k, k ≤ n → allB (fun k => decide (sB (tb k) = 48 + (rat n r k : Int))) k = true := by
      intro k
      induction k with
      | zero => intro _; rfl
      | succ k ih =>
        intro hk
        show (decide (sB (tb k) = 48 + (rat n r k : Int)) && allB (fun k => decide (sB (tb k) = 48 + (rat n r k : Int))) k) = true
        rw [ih (by omega), decide_eq_true ((sB_48 (hb k (by omega)) (by have := rat_lt h3 h7 hr (show k < n by omega); omega)).mpr (h k (by omega)))]
        rfl
    exact this n (Nat.le_refl _)
/-- a row told and taken: its number; else nothing fits -/
theorem tp_yes {n : Nat} {tb : Nat → Nat} (h3 : 3 ≤ n) (h7 : n ≤ 7) (hb : ∀ i, i < n → tb i < 256) (h : tdI n tb n) : ∃ r, r < fct n ∧ tpR n tb n = (r : Int) ∧ rowP n r = pck (tdF tb n) n := by
  have pr : Prm n (tdF tb n) := by
    refine ⟨fun p hp => ?_, fun p q hp hq e => ?_⟩
    · unfold tdF; rw [if_pos hp]; have := h.1 p hp; omega
    · unfold tdF at e; rw [if_pos hp, if_pos hq] at e
      have := h.1 p hp; have := h.1 q hq
      exact h.2 p q hp hq (by omega)
  obtain ⟨r1, r2⟩ := row_of h3 h7 pr
  have td : ∀ p, p < n → tb p = 48 + tdF tb n p := fun p hp => by unfold tdF; rw [if_pos hp]; have := h.1 p hp; omega
  refine ⟨_, r1, ?_, ?_⟩
  · unfold tpR
    rw [if_pos rfl]
    refine ff_at ((tpB_iff h3 h7 r1 hb).mpr (fun p hp => by rw [r2 p hp]; exact td p hp)) (Nat.zero_le _) (by omega) (fun u _ hu hub => ?_)
    have hu' : u < fct n := by omega
    refine row_eq h3 h7 hu' r1 (fun p hp => ?_)
    have := (tpB_iff h3 h7 hu' hb).mp hub p hp
    rw [r2 p hp]
    have := td p hp
    omega
  · rw [rowP_pck n _ (by omega)]
    exact pck_cong r2
theorem tp_no {n : Nat} {tb : Nat → Nat} (h3 : 3 ≤ n) (h7 : n ≤ 7) (hb : ∀ i, i < n → tb i < 256) (h : ¬ tdI n tb n) : tpR n tb n = -1 := by
  unfold tpR
  rw [if_pos rfl]
  refine ff_no (fun u _ hu => ?_)
  cases e : tpB n tb u
  · rfl
  · exfalso
    have hu' : u < fct n := by omega
    have k := (tpB_iff h3 h7 hu' hb).mp e
    refine h ⟨fun q hq => ?_, fun q r hq hr eq => ?_⟩
    · have := rat_lt h3 h7 hu' hq
      rw [k q hq]; omega
    · rw [k q hq, k r hr] at eq
      exact rat_inj h3 h7 hu' hq hr (by omega)
theorem kf_packed {d a n : Nat} {tb : Nat → Nat} {S : MS} {Q : Out → MS → Prop} (hd : 1 ≤ d) (h3 : 3 ≤ n) (h7 : n ≤ 7) (hY : TY S a) (hB : TBy S a tb n) (h1 : ∀ r, r < fct n → tpR n tb n = (r : Int) → Q (.inl (some (vI (rowP n r : Nat)))) S) (h0 : tpR n tb n = -1 → Q (.inl (some (vI (-1)))) S) : ∀ (j : Nat) {p : Nat}, p + j = n → tdI n tb p → VX8_packedRow_15 d Q (j + 1) a (n : Nat) (pck (tdF tb p) n : Nat) (mskN (tdS tb p) n : Nat) (p : Nat) S := by
  have hl := hY
  unfold TY at hl
  have p7 := p2_7 h7
  have hb : ∀ i, i < n → tb i < 256 := fun i hi => (hB.2 i hi).1
  intro j
  induction j with
  | zero =>
    intro p hp hI
    rw [show p = n by omega] at hI ⊢
    obtain ⟨r, r1, r2, r3⟩ := tp_yes h3 h7 hb hI
    unfold VX8_packedRow_15
    have := h1 r r1 r2
    rw [r3] at this
    exact ⟨⟨(by unfold R32; omega), (by unfold R32; omega)⟩, fun _ => this, fun c => by omega⟩
  | succ j ih =>
    intro p hp hI
    have hp' : p < n := by omega
    have bp := hb p hp'
    have t8 : ∀ q, q < n → tdF tb p q < 8 := fun q hq => by
      unfold tdF
      by_cases g : q < p
      · rw [if_pos g]; have := hI.1 q g; omega
      · rw [if_neg g]; omega
    have ml := mskN_lt (tdS tb p) n
    unfold VX8_packedRow_15
    refine ⟨⟨(by unfold R32; omega), (by unfold R32; omega)⟩, fun c => by omega, fun _ => ⟨hl.1, k_tAt hd hY hB rfl hp' (oI_i ⟨(by unfold R32; omega), fun c => h0 (tp_no h3 h7 hb (fun k => by have := k.1 p hp'; omega)), fun c => ⟨⟨(by unfold R32; omega), (by unfold R32; omega)⟩, fun c2 => h0 (tp_no h3 h7 hb (fun k => by have := k.1 p hp'; omega)), fun c2 => ?_⟩⟩)⟩⟩
    obtain ⟨t, ht, htn⟩ : ∃ t, tb p = 48 + t ∧ t < n := ⟨tb p - 48, by omega, by omega⟩
    rw [ht, show ((48 + t : Nat) : Int) - 48 = (t : Int) by omega]
    refine c_holds hd rfl rfl (by omega) (by omega) (fun q hq => oI_i ⟨hq.r, fun c3 => ?_, fun c3 => h0 (tp_no h3 h7 hb (fun k => ?_))⟩)
    · have ns : tdS tb p t = false := by
        rcases hq with ⟨rfl, -⟩ | ⟨-, k⟩
        · exact absurd c3 (by decide)
        · rw [mskN_bit, decide_eq_true htn] at k
          cases e : tdS tb p t
          · rfl
          · rw [e] at k; exact absurd rfl k
      have hI' : tdI n tb (p + 1) := by
        have key : ∀ q, q < p → tb q ≠ tb p := fun q hq e => by
          have : tdS tb p t = true := tdS_iff.mpr ⟨q, hq, by rw [e, ht]⟩
          rw [ns] at this
          exact absurd this (by decide)
        refine ⟨fun q hq => ?_, fun q r hq hr e => ?_⟩
        · by_cases g : q = p
          · subst g; omega
          · exact hI.1 q (by omega)
        · by_cases g : q = p
          · by_cases g2 : r = p
            · omega
            · subst g; exact absurd e.symm (key r (by omega))
          · by_cases g2 : r = p
            · subst g2; exact absurd e (key q (by omega))
            · exact hI.2 q r (by omega) (by omega) e
      have := ih (p := p + 1) (by omega) hI'
      rw [pck_put h7 t8 (by omega) hp' (by unfold tdF; rw [if_neg (by omega)]), i1_shl (by omega), iOr_n (by omega) (by have : 2 ^ t < 2 ^ n := Nat.pow_lt_pow_right (by decide) htn; omega), mskN_or _ htn]
      rw [pck_cong (g := fun q => if q = p then t else tdF tb p q) (fun q hq => ?_), mskN_cong (q := fun u => tdS tb p u || decide (u = t)) (fun u hu => ?_)] at this
      · exact this
      · rw [Bool.eq_iff_iff, Bool.or_eq_true, tdS_iff, tdS_iff, decide_eq_true_iff]
        constructor
        · rintro ⟨q, q1, q2⟩
          by_cases g : q = p
          · exact Or.inr (by rw [g, ht] at q2; omega)
          · exact Or.inl ⟨q, by omega, q2⟩
        · rintro (⟨q, q1, q2⟩ | e)
          · exact ⟨q, by omega, q2⟩
          · exact ⟨p, by omega, by rw [ht, e]⟩
      · unfold tdF
        by_cases g : q = p
        · rw [if_pos g, if_pos (by omega), g, ht]; omega
        · rw [if_neg g]
          by_cases g2 : q < p
          · rw [if_pos g2, if_pos (by omega)]
          · rw [if_neg g2, if_neg (by omega)]
    · have sn : tdS tb p t = true := by
        rcases hq with ⟨-, k⟩ | ⟨rfl, -⟩
        · rw [mskN_bit, decide_eq_true htn] at k; exact k
        · exact absurd rfl c3
      obtain ⟨q, q1, q2⟩ := tdS_iff.mp sn
      have := k.2 q p (by omega) hp' (by rw [q2, ht])
      omega
/-- the row on the tape, packed -/
noncomputable def tdP (n : Nat) (tb : Nat → Nat) (len : Nat) : Int := if tpR n tb len < 0 then -1 else (rowP n (tpR n tb len).toNat : Int)
theorem k_packedRow {d a n len : Nat} {tb : Nat → Nat} {S : MS} {Q : Out → MS → Prop} {x y : Int} (hd : 2 ≤ d) (ex : x = (len : Int)) (ey : y = (n : Int)) (h3 : 3 ≤ n) (h7 : n ≤ 7) (hY : TY S a) (hB : TBy S a tb len) (h : Q (.inl (some (vI (tdP n tb len)))) S) : Mw hX8_packedRow yX8_packedRow d [vA a, vI x, vI y] S Q := by
  subst ex ey
  have h4 := hB.1
  obtain ⟨dd, rfl⟩ : ∃ e, d = e + 1 := ⟨d - 1, by omega⟩
  refine MX8_packedRow ?_
  unfold VX8_packedRow_0
  refine ⟨⟨(by unfold R32; omega), (by unfold R32; omega)⟩, fun c => ?_, fun c => ?_⟩
  · have c' : len = n := by omega
    subst c'
    have := kf_packed (d := dd) (Q := Q) (by omega) h3 h7 hY hB (fun r _ e => by unfold tdP at h; rw [e, if_neg (by omega), Int.toNat_natCast] at h; exact h) (fun e => by unfold tdP at h; rw [e, if_pos (by decide)] at h; exact h) len (p := 0) (by omega) ⟨fun q hq => absurd hq (Nat.not_lt_zero q), fun q r hq => absurd hq (Nat.not_lt_zero q)⟩
    rw [pck_cong (g := fun _ => 0) (fun p _ => by unfold tdF; rw [if_neg (by omega)]), pck_0, mskN_cong (p := tdS tb 0) (q := fun _ => false) (fun u _ => rfl), mskN_no] at this
    exact ⟨_, this⟩
  · have e : tpR n tb len = -1 := by unfold tpR; rw [if_neg (fun k => c (by omega))]
    unfold tdP at h
    rw [e, if_pos (by decide)] at h
    exact h
