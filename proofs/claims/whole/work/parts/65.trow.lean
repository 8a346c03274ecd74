/-! the row by weights -/
theorem cntB_lt {p q : Nat → Bool} : ∀ {n : Nat}, (∀ k, k < n → p k = true → q k = true) → (∃ k, k < n ∧ q k = true ∧ p k = false) → cntB p n < cntB q n
  | 0, _, h => by obtain ⟨k, hk, -⟩ := h; omega
  | n + 1, h1, h2 => by
    have le : ∀ m, m ≤ n + 1 → cntB p m ≤ cntB q m := by
      intro m
      induction m with
      | zero => intro _; exact Nat.le_refl _
      | succ m ih =>
        intro hm
        have := ih (by omega)
        have := h1 m (by omega)
        unfold cntB
        by_cases c : p m = true
        · rw [if_pos c, if_pos (this c)]; omega
        · rw [if_neg c]; split <;> omega
    obtain ⟨k, hk, hq, hp⟩ := h2
    unfold cntB
    by_cases e : k = n
    · subst e
      have := le k (by omega)
      rw [hq, hp]
      simp only [Bool.false_eq_true, if_false, if_true]
      omega
    · have := cntB_lt (n := n) (fun k hk => h1 k (by omega)) ⟨k, by omega, hq, hp⟩
      have h4 := h1 n (by omega)
      by_cases c : p n = true
      · rw [if_pos c, if_pos (h4 c)]; omega
      · rw [if_neg c]; split <;> omega
theorem cntB_allT (n : Nat) : cntB (fun _ => true) n = n := by
  induction n with
  | zero => rfl
  | succ n ih => unfold cntB; rw [ih]; rfl
theorem ow_irr {w : Nat → Int} {a : Nat} : ¬ ow w a a := by unfold ow; omega
theorem ow_tot {w : Nat → Int} {a b : Nat} (h : a ≠ b) : ow w a b ∨ ow w b a := by unfold ow; omega
theorem ow_as {w : Nat → Int} {a b : Nat} (h : ow w a b) : ¬ ow w b a := by unfold ow at *; omega
theorem ow_tr {w : Nat → Int} {a b c : Nat} (h : ow w a b) (k : ow w b c) : ow w a c := by unfold ow at *; omega
/-- how many a thing outweighs: its place -/
noncomputable def rkW (w : Nat → Int) (n t : Nat) : Nat := cntB (fun u => dc (ow w t u)) n
theorem rk_lt {w : Nat → Int} {n a b : Nat} (hb : b < n) (h : ow w a b) : rkW w n b < rkW w n a := by
  refine cntB_lt (fun k hk e => dc_y (ow_tr h (dc_iff.mp e))) ⟨b, hb, dc_y h, dc_n ow_irr⟩
theorem rk_iff {w : Nat → Int} {n a b : Nat} (ha : a < n) (hb : b < n) : rkW w n b < rkW w n a ↔ ow w a b := by
  constructor
  · intro h
    by_cases e : a = b
    · subst e; omega
    · rcases ow_tot (w := w) e with k | k
      · exact k
      · have := rk_lt ha k
        omega
  · exact rk_lt hb
theorem rk_prm {w : Nat → Int} {n : Nat} : Prm n (rkW w n) := by
  refine ⟨fun t ht => ?_, fun a b ha hb e => ?_⟩
  · have := cntB_lt (p := fun u => dc (ow w t u)) (q := fun _ => true) (n := n) (fun _ _ _ => rfl) ⟨t, ht, rfl, dc_n ow_irr⟩
    rw [cntB_allT] at this
    exact this
  · apply Classical.byContradiction
    intro c
    rcases ow_tot (w := w) c with k | k
    · have := rk_lt hb k; omega
    · have := rk_lt ha k; omega
theorem prm_ex {f : Nat → Nat} {n p : Nat} (h : Prm n f) (hp : p < n) : ∃ t, t < n ∧ f t = p := by
  apply Classical.byContradiction
  intro c
  have e := eqc_prm h hp
  rw [eqc_0 (fun q hq k => c ⟨q, hq, k⟩)] at e
  omega
/-- the inverse of a permutation -/
noncomputable def inv (f : Nat → Nat) (n p : Nat) : Nat := @dite Nat (∃ t, t < n ∧ f t = p) (Classical.propDecidable _) (fun h => h.choose) (fun _ => 0)
theorem inv_ok {f : Nat → Nat} {n p : Nat} (h : Prm n f) (hp : p < n) : inv f n p < n ∧ f (inv f n p) = p := by
  unfold inv
  rw [dif_pos (prm_ex h hp)]
  exact (prm_ex h hp).choose_spec
theorem inv_prm {f : Nat → Nat} {n : Nat} (h : Prm n f) : Prm n (inv f n) := by
  refine ⟨fun p hp => (inv_ok h hp).1, fun p q hp hq e => ?_⟩
  rw [← (inv_ok h hp).2, ← (inv_ok h hq).2, e]
noncomputable def rW (w : Nat → Int) (n : Nat) : Nat := rnk n (inv (rkW w n) n) n
theorem rW_lt {w : Nat → Int} {n : Nat} (h3 : 3 ≤ n) (h7 : n ≤ 7) : rW w n < fct n := (row_of h3 h7 (inv_prm rk_prm)).1
theorem rW_plc {w : Nat → Int} {n t : Nat} (h3 : 3 ≤ n) (h7 : n ≤ 7) (ht : t < n) : plc n (rW w n) t = rkW w n t := by
  have a := row_of h3 h7 (inv_prm (rk_prm (w := w) (n := n)))
  have hk := (rk_prm (w := w)).1 t ht
  have e : rat n (rW w n) (rkW w n t) = t := by
    have := a.2 (rkW w n t) hk
    show rat n (rnk n (inv (rkW w n) n) n) _ = _
    rw [this]
    have b := inv_ok (rk_prm (w := w)) hk
    exact rk_prm.2 _ _ b.1 ht b.2
  have := plc_rat h3 h7 (rW_lt (w := w) h3 h7) hk
  rw [e] at this
  exact this
/-- a row is the true one just if its things rise -/
theorem rW_iff {w : Nat → Int} {n r : Nat} (h3 : 3 ≤ n) (h7 : n ≤ 7) (hr : r < fct n) : r = rW w n ↔ ∀ k, 1 ≤ k → k < n → ow w (rat n r k) (rat n r (k - 1)) := by
  have hw := rW_lt (w := w) h3 h7
  constructor
  · intro e k h1 h2
    rw [e]
    have a1 := rat_lt h3 h7 hw h2
    have a2 := rat_lt h3 h7 hw (show k - 1 < n by omega)
    rw [← rk_iff a1 a2, ← rW_plc h3 h7 a1, ← rW_plc h3 h7 a2, plc_rat h3 h7 hw h2, plc_rat h3 h7 hw (by omega)]
    omega
  · intro h
    -- chain
    have ch : ∀ j i, i + j < n → 0 < j → ow w (rat n r (i + j)) (rat n r i) := by
      intro j
      induction j with
      | zero => intro i _ h0; omega
      | succ j ih =>
        intro i hij _
        have s := h (i + (j + 1)) (by omega) hij
        rw [show i + (j + 1) - 1 = i + j by omega] at s
        by_cases j0 : j = 0
        · subst j0; exact s
        · exact ow_tr s (ih i (by omega) (by omega))
    -- so places are ranks
    have key : ∀ p, p < n → rkW w n (rat n r p) = p := by
      intro p hp
      unfold rkW
      have e : cntB (fun u => dc (ow w (rat n r p) u)) n = cntB (fun q => dc (ow w (rat n r p) (rat n r q))) n := (cntB_prm (rat_prm h3 h7 hr) (fun u => dc (ow w (rat n r p) u))).symm
      rw [e]
      obtain ⟨c, rfl⟩ : ∃ c, n = p + c := ⟨n - p, by omega⟩
      rw [cntB_split, cntB_0 (n := c) (fun k hk => dc_n (fun k2 => ?_)), Nat.add_zero]
      · have : cntB (fun q => dc (ow w (rat (p + c) r p) (rat (p + c) r q))) p = cntB (fun _ => true) p := cntB_cong (fun q hq => dc_y (by have := ch (p - q) q (by omega) (by omega); rw [show q + (p - q) = p by omega] at this; exact this))
        rw [this, cntB_allT]
      · by_cases k0 : k = 0
        · subst k0; exact ow_irr k2
        · exact ow_as k2 (ch k p (by omega) (by omega))
    apply row_eq h3 h7 hr hw
    intro p hp
    have b1 := rat_lt h3 h7 hr hp
    have b2 := rat_lt h3 h7 hw hp
    apply (rk_prm (w := w) (n := n)).2 _ _ b1 b2
    rw [key p hp, ← rW_plc h3 h7 b2, plc_rat h3 h7 hw hp]
theorem bfr_u {n r x t : Nat} (h3 : 3 ≤ n) (h7 : n ≤ 7) (hr : r < fct n) (ht : t < n) : bfr n r x t = cntB (fun u => decide (plc n r u < plc n r t) && x.testBit u) n := by
  rw [← cntB_prm (rat_prm h3 h7 hr) (fun u => decide (plc n r u < plc n r t) && x.testBit u)]
  have hp := plc_lt h3 h7 hr ht
  have e : cntB (fun p => decide (plc n r (rat n r p) < plc n r t) && x.testBit (rat n r p)) n = cntB (fun p => decide (p < plc n r t) && x.testBit (rat n r p)) n := cntB_cong (fun p hp => by rw [plc_rat h3 h7 hr hp])
  rw [e]
  unfold bfr
  obtain ⟨c, hc⟩ : ∃ c, n = plc n r t + c := ⟨n - plc n r t, by omega⟩
  generalize plc n r t = q at hc hp
  have s := cntB_split (fun p => decide (p < q) && x.testBit (rat n r p)) q c
  rw [← hc] at s
  rw [s, cntB_0 (n := c) (fun k hk => by rw [decide_eq_false (by omega)]; rfl), Nat.add_zero]
  exact cntB_cong (fun k hk => by simp [hk, mem])
theorem ff_at {p : Nat → Bool} {t0 : Nat} : ∀ {j t : Nat}, p t0 = true → t ≤ t0 → t0 < t + j → (∀ u, t ≤ u → u < t + j → p u = true → u = t0) → ff p j t = (t0 : Int)
  | 0, t, _, h1, h2, _ => by omega
  | j + 1, t, h0, h1, h2, h3 => by
    unfold ff
    by_cases c : p t = true
    · rw [if_pos c, h3 t (Nat.le_refl _) (by omega) c]
    · rw [if_neg c]
      have : t ≠ t0 := fun e => c (by rw [e]; exact h0)
      exact ff_at h0 (by omega) (by omega) (fun u a b => h3 u (by omega) (by omega))
theorem ff_no {p : Nat → Bool} : ∀ {j t : Nat}, (∀ u, t ≤ u → u < t + j → p u = false) → ff p j t = -1
  | 0, _, _ => rfl
  | j + 1, t, h => by
    unfold ff
    rw [if_neg (by rw [h t (Nat.le_refl _) (by omega)]; decide)]
    exact ff_no (fun u a b => h u (by omega) (by omega))
/-- who truly rises is who rises by the true row -/
theorem trF_rs {w : Nat → Int} {n kn x : Nat} (h3 : 3 ≤ n) (h7 : n ≤ 7) (hk : kn < 3) (hx : x < 2 ^ n) (hp : pc x = pansK kn) : trF w n kn x = (rsN n kn x (rW w n) : Nat) ∧ rsN n kn x (rW w n) < n ∧ x.testBit (rsN n kn x (rW w n)) = true := by
  have hr := rW_lt (w := w) h3 h7
  obtain ⟨-, a1, a2, -⟩ := rs_N (kn := kn) h3 h7 hr hx (by rw [hp]; exact belK_pans hk)
  have key : ∀ t, t < n → x.testBit t = true → (owC w n x t = bfr n (rW w n) x t) := by
    intro t ht hb
    rw [bfr_u h3 h7 hr ht]
    unfold owC
    refine cntB_cong (fun u hu => ?_)
    by_cases c : x.testBit u = true
    · by_cases g : ow w t u
      · rw [dc_y ⟨fun e => ow_irr (by rw [e] at g; exact g), c, g⟩, c, rW_plc h3 h7 hu, rW_plc h3 h7 ht]
        simp [rk_lt hu g]
      · rw [dc_n (fun k => g k.2.2), c, rW_plc h3 h7 hu, rW_plc h3 h7 ht, decide_eq_false (fun k => g ((rk_iff ht hu).mp k))]
        rfl
    · rw [dc_n (fun k => c k.2.1)]
      simp [c]
  refine ⟨ff_at ?_ (Nat.zero_le _) (by omega) (fun u _ hu hb => ?_), a1, a2⟩
  · unfold trB
    rw [a2, key _ a1 a2, (rs_iff h3 h7 hr hx (by rw [hp]; exact belK_pans hk) a1 a2).mp rfl]
    simp
  · unfold trB at hb
    rw [Bool.and_eq_true] at hb
    have hu' : u < n := by omega
    have e := of_decide_eq_true hb.2
    rw [key u hu' hb.1] at e
    exact ((rs_iff h3 h7 hr hx (by rw [hp]; exact belK_pans hk) hu' hb.1).mpr e).symm
/-! the reference's search for it -/
theorem f_tw14 {d m n r : Nat} {S : MS} {Q : Out → MS → Prop} {c2 : Nat → Int → MS → Prop} (hd : 1 ≤ d) (hL : RLay S m) (hg : GW n (S.I (m+1))) (hT : Tb S m n) (hr : r < fct n) (h1 : r = rW (S.I (m+1)) n → Q (.inl (some (vI (r : Nat)))) S) (h2 : r ≠ rW (S.I (m+1)) n → c2 m ((r : Int) + 1) S) : ∀ (j : Nat) {k : Nat} {q : Int}, k + j = n → 1 ≤ k → BI q (∀ i, 1 ≤ i → i < k → ow (S.I (m+1)) (rat n r i) (rat n r (i - 1))) → VX11_trueRow_14 d c2 Q (j + 1) m (r : Nat) q (k : Nat) S := by
  have h3 := hg.1.1
  have h7 := hg.1.2.1
  have hf := fct_le h3 h7
  intro j
  induction j with
  | zero =>
    intro k q hk h1k hq
    have hl := hL
    unfold RLay at hl
    unfold VX11_trueRow_14
    simp only [hl, sI_K, sI_N, sI_R, sI_J, Option.some.injEq, exists_eq_left', true_and, and_true, Int.toNat_zero, Int.reduceToNat, Int.reduceLT, Int.reduceLE, Int.cast_ofNat_Int, forall_eq, ge_iff_le, Int.reduceNeg, Int.reduceAdd, Int.reduceSub, Int.reduceMul, Int.reduceEq, r32_0, r32_1, r32_m1, b01_0, b01_1, not_true_eq_false, not_false_eq_true, false_implies, true_implies, implies_true, forall_const]
    rw [hT.1]
    rw [show k = n by omega, ← rW_iff h3 h7 hr] at hq
    refine ⟨⟨(by unfold R32; omega), (by unfold R32; omega)⟩, fun _ => ⟨hq.r, fun c => h2 ?_, fun c => h1 ?_⟩, fun c => by omega⟩
    · rcases hq with ⟨rfl, -⟩ | ⟨-, hq⟩
      · omega
      · exact hq
    · rcases hq with ⟨-, hq⟩ | ⟨rfl, -⟩
      · exact hq
      · omega
  | succ j ih =>
    intro k q hk h1k hq
    have hl := hL
    unfold RLay at hl
    unfold VX11_trueRow_14 VX11_trueRow_51 VX11_trueRow_52
    simp only [hl, sI_K, sI_N, sI_R, sI_J, Option.some.injEq, exists_eq_left', true_and, and_true, Int.toNat_zero, Int.reduceToNat, Int.reduceLT, Int.reduceLE, Int.cast_ofNat_Int, forall_eq, ge_iff_le, Int.reduceNeg, Int.reduceAdd, Int.reduceSub, Int.reduceMul, Int.reduceEq, r32_0, r32_1, r32_m1, b01_0, b01_1, not_true_eq_false, not_false_eq_true, false_implies, true_implies, implies_true, forall_const]
    rw [hT.1]
    have a1 := rat_lt h3 h7 hr (show k < n by omega)
    have a2 := rat_lt h3 h7 hr (show k - 1 < n by omega)
    refine ⟨⟨(by unfold R32; omega), (by unfold R32; omega)⟩, fun _ => by omega, fun c => ⟨hq.r, fun c2 => ih (k := k + 1) (by omega) (by omega) (.n (fun g => ?_)), fun c2 => ?_⟩⟩
    · rcases hq with ⟨rfl, -⟩ | ⟨-, hq⟩
      · omega
      · exact hq (fun i a b => g i a (by omega))
    · have hq' : ∀ i, 1 ≤ i → i < k → ow (S.I (m+1)) (rat n r i) (rat n r (i - 1)) := by
        rcases hq with ⟨-, hq⟩ | ⟨rfl, -⟩
        · exact hq
        · omega
      refine c_at (r := r) (p := k) hd hL rfl rfl (by omega) (oI_i ⟨hL.1, c_at (r := r) (p := k - 1) hd hL rfl (by omega) (by omega) (oI_i ⟨hL.1, ?_⟩)⟩)
      rw [hT.2.2 r hr k (by omega), hT.2.2 r hr (k - 1) (by omega)]
      refine c_outweighs (n := n) hd hL hg rfl rfl a1 a2 (fun q2 hq2 => oI_i ⟨hq2.r, fun c3 => ih (k := k + 1) (by omega) (by omega) (.n (fun g => ?_)), fun c3 => ih (k := k + 1) (by omega) (by omega) (.y (fun i a b => ?_))⟩)
      · rcases hq2 with ⟨rfl, -⟩ | ⟨-, hq2⟩
        · omega
        · exact hq2 (g k (by omega) (by omega))
      · by_cases e : i = k
        · subst e
          rcases hq2 with ⟨-, hq2⟩ | ⟨rfl, -⟩
          · exact hq2
          · omega
        · exact hq' i a (by omega)
theorem f_tw2 {d m n : Nat} {S : MS} {Q : Out → MS → Prop} (hd : 1 ≤ d) (hL : RLay S m) (hg : GW n (S.I (m+1))) (hT : Tb S m n) (h : Q (.inl (some (vI (rW (S.I (m+1)) n : Nat)))) S) : ∀ (j : Nat) {r : Nat}, r + j = fct n → r ≤ rW (S.I (m+1)) n → VX11_trueRow_2 d Q (j + 1) m (r : Nat) S := by
  have h3 := hg.1.1
  have h7 := hg.1.2.1
  have hf := fct_le h3 h7
  have hw := rW_lt (w := S.I (m+1)) h3 h7
  intro j
  induction j with
  | zero => intro r hr hr2; omega
  | succ j ih =>
    intro r hr hr2
    have hl := hL
    unfold RLay at hl
    unfold VX11_trueRow_2
    simp only [hl, sI_K, sI_N, sI_R, sI_J, Option.some.injEq, exists_eq_left', true_and, and_true, Int.toNat_zero, Int.reduceToNat, Int.reduceLT, Int.reduceLE, Int.cast_ofNat_Int, forall_eq, ge_iff_le, Int.reduceNeg, Int.reduceAdd, Int.reduceSub, Int.reduceMul, Int.reduceEq, r32_0, r32_1, r32_m1, b01_0, b01_1, not_true_eq_false, not_false_eq_true, false_implies, true_implies, implies_true, forall_const]
    rw [hT.2.1]
    refine ⟨⟨(by unfold R32; omega), (by unfold R32; omega)⟩, fun _ => by omega, fun c => ⟨n, ?_⟩⟩
    obtain ⟨n', rfl⟩ : ∃ n', n = n' + 1 := ⟨n - 1, by omega⟩
    exact f_tw14 (r := r) hd hL hg hT (by omega) (fun e => by rw [e]; exact h) (fun e => ih (r := r + 1) (by omega) (by omega)) n' (k := 1) (by omega) (by omega) (.y (fun i a b => by omega))
theorem c_trueRow {d m n : Nat} {S : MS} {Q : Out → MS → Prop} (hd : 2 ≤ d) (hL : RLay S m) (hg : GW n (S.I (m+1))) (hT : Tb S m n) (h : Q (.inl (some (vI (rW (S.I (m+1)) n : Nat)))) S) : Mw hX11_trueRow yX11_trueRow d [vA m] S Q := by
  obtain ⟨dd, rfl⟩ : ∃ e, d = e + 1 := ⟨d - 1, by omega⟩
  refine MX11_trueRow ?_
  unfold VX11_trueRow_0
  exact ⟨_, f_tw2 (by omega) hL hg hT h (fct n) (r := 0) (by omega) (by omega)⟩
/-! the row that is told -/
/-- the row on the tape, or none -/
def tpB (n : Nat) (tb : Nat → Nat) (r : Nat) : Bool := allB (fun k => decide (sB (tb k) = 48 + (rat n r k : Int))) n
def tpR (n : Nat) (tb : Nat → Nat) (len : Nat) : Int := if len = n then ff (tpB n tb) (fct n) 0 else -1
theorem allB_of {q : Nat → Bool} : ∀ {n : Nat}, (∀ t, t < n → q t = true) → allB q n = true
  | 0, _ => rfl
  | n + 1, h => by
    unfold allB
    rw [h n (by omega), allB_of (n := n) (fun t ht => h t (by omega))]
    rfl
theorem sB_R {v : Nat} (h : v < 256) : -128 ≤ sB v ∧ sB v < 128 := by unfold sB; split <;> omega
theorem f_tp35 {d m n r : Nat} {tb : Nat → Nat} {S : MS} {Q : Out → MS → Prop} {c23 : Nat → Int → MS → Prop} (hd : 1 ≤ d) (hL : RLay S m) (h3 : 3 ≤ n) (h7 : n ≤ 7) (hT : Tb S m n) (h8 : S.I m 8 = (n : Int)) (ht : ∀ i, i < n → tb i < 256 ∧ S.I (m+4) i = sB (tb i)) (hr : r < fct n) (h1 : tpB n tb r = true → Q (.inl (some (vI (r : Nat)))) S) (h2 : tpB n tb r = false → c23 m ((r : Int) + 1) S) : ∀ (j : Nat) {k : Nat} {q : Int}, k + j = n → BI q (∀ i, i < k → sB (tb i) = 48 + (rat n r i : Int)) → VX11_tapedRow_35 d c23 Q (j + 1) m (r : Nat) q (k : Nat) S := by
  have hf := fct_le h3 h7
  intro j
  induction j with
  | zero =>
    intro k q hk hq
    have hl := hL
    unfold RLay at hl
    unfold VX11_tapedRow_35
    simp only [hl, sI_K, sI_N, sI_R, sI_J, Option.some.injEq, exists_eq_left', true_and, and_true, Int.toNat_zero, Int.reduceToNat, Int.reduceLT, Int.reduceLE, Int.cast_ofNat_Int, forall_eq, ge_iff_le, Int.reduceNeg, Int.reduceAdd, Int.reduceSub, Int.reduceMul, Int.reduceEq, r32_0, r32_1, r32_m1, b01_0, b01_1, not_true_eq_false, not_false_eq_true, false_implies, true_implies, implies_true, forall_const]
    rw [h8]
    rw [show k = n by omega] at hq
    refine ⟨⟨(by unfold R32; omega), (by unfold R32; omega)⟩, fun _ => ⟨hq.r, fun c => h2 ?_, fun c => h1 ?_⟩, fun c => by omega⟩
    · rcases hq with ⟨rfl, -⟩ | ⟨-, hq⟩
      · omega
      · cases e : tpB n tb r
        · rfl
        · exact absurd (fun i hi => of_decide_eq_true (allB_iff e i hi)) hq
    · rcases hq with ⟨-, hq⟩ | ⟨rfl, -⟩
      · exact allB_of (fun t ht => by simpa using hq t ht)
      · omega
  | succ j ih =>
    intro k q hk hq
    have hl := hL
    unfold RLay at hl
    have a1 := rat_lt h3 h7 hr (show k < n by omega)
    have t1 := ht k (by omega)
    have t2 := sB_R t1.1
    unfold VX11_tapedRow_35 VX11_tapedRow_69 VX11_tapedRow_70
    simp only [hl, sI_K, sI_N, sI_R, sI_J, Option.some.injEq, exists_eq_left', true_and, and_true, Int.toNat_zero, Int.reduceToNat, Int.reduceLT, Int.reduceLE, Int.cast_ofNat_Int, forall_eq, ge_iff_le, Int.reduceNeg, Int.reduceAdd, Int.reduceSub, Int.reduceMul, Int.reduceEq, r32_0, r32_1, r32_m1, b01_0, b01_1, not_true_eq_false, not_false_eq_true, false_implies, true_implies, implies_true, forall_const]
    rw [h8, Int.toNat_natCast, t1.2]
    refine ⟨⟨(by unfold R32; omega), (by unfold R32; omega)⟩, fun _ => by omega, fun c => ⟨hq.r, fun c2 => ih (k := k + 1) (by omega) (.n (fun g => ?_)), fun c2 => ⟨by omega, c_at (r := r) (p := k) hd hL rfl rfl (by omega) (oI_i ?_)⟩⟩⟩
    · rcases hq with ⟨rfl, -⟩ | ⟨-, hq⟩
      · omega
      · exact hq (fun i hi => g i (by omega))
    · rw [hT.2.2 r hr k (by omega)]
      have hq' : ∀ i, i < k → sB (tb i) = 48 + (rat n r i : Int) := by
        rcases hq with ⟨-, hq⟩ | ⟨rfl, -⟩
        · exact hq
        · omega
      refine ⟨⟨(by unfold R32; omega), (by unfold R32; omega)⟩, fun c3 => ih (k := k + 1) (by omega) (.n (fun g => c3 (g k (by omega)))), fun c3 => ih (k := k + 1) (by omega) (.y (fun i hi => ?_))⟩
      by_cases e : i = k
      · rw [e]; exact c3
      · exact hq' i (by omega)
theorem f_tp23 {d m n : Nat} {tb : Nat → Nat} {S : MS} {Q : Out → MS → Prop} (hd : 1 ≤ d) (hL : RLay S m) (h3 : 3 ≤ n) (h7 : n ≤ 7) (hT : Tb S m n) (h8 : S.I m 8 = (n : Int)) (ht : ∀ i, i < n → tb i < 256 ∧ S.I (m+4) i = sB (tb i)) : ∀ (j : Nat) {r : Nat}, r + j = fct n → Q (.inl (some (vI (ff (tpB n tb) j r)))) S → VX11_tapedRow_23 d Q (j + 1) m (r : Nat) S := by
  have hf := fct_le h3 h7
  intro j
  induction j with
  | zero =>
    intro r hr h
    have hl := hL
    unfold RLay at hl
    unfold VX11_tapedRow_23
    simp only [hl, sI_K, sI_N, sI_R, sI_J, Option.some.injEq, exists_eq_left', true_and, and_true, Int.toNat_zero, Int.reduceToNat, Int.reduceLT, Int.reduceLE, Int.cast_ofNat_Int, forall_eq, ge_iff_le, Int.reduceNeg, Int.reduceAdd, Int.reduceSub, Int.reduceMul, Int.reduceEq, r32_0, r32_1, r32_m1, b01_0, b01_1, not_true_eq_false, not_false_eq_true, false_implies, true_implies, implies_true, forall_const]
    rw [hT.2.1]
    exact ⟨⟨(by unfold R32; omega), (by unfold R32; omega)⟩, fun _ => h, fun c => by omega⟩
  | succ j ih =>
    intro r hr h
    have hl := hL
    unfold RLay at hl
    unfold VX11_tapedRow_23
    simp only [hl, sI_K, sI_N, sI_R, sI_J, Option.some.injEq, exists_eq_left', true_and, and_true, Int.toNat_zero, Int.reduceToNat, Int.reduceLT, Int.reduceLE, Int.cast_ofNat_Int, forall_eq, ge_iff_le, Int.reduceNeg, Int.reduceAdd, Int.reduceSub, Int.reduceMul, Int.reduceEq, r32_0, r32_1, r32_m1, b01_0, b01_1, not_true_eq_false, not_false_eq_true, false_implies, true_implies, implies_true, forall_const]
    rw [hT.2.1]
    unfold ff at h
    refine ⟨⟨(by unfold R32; omega), (by unfold R32; omega)⟩, fun _ => by omega, fun c => ⟨n + 1, f_tp35 (r := r) hd hL h3 h7 hT h8 ht (by omega) (fun e => ?_) (fun e => ih (r := r + 1) (by omega) ?_) n (k := 0) (by omega) (.y (fun i hi => absurd hi (Nat.not_lt_zero i)))⟩⟩
    · rw [if_pos e] at h; exact h
    · rw [if_neg (by rw [e]; decide)] at h; exact h
theorem tpR_r {n : Nat} {tb : Nat → Nat} {len : Nat} : -1 ≤ tpR n tb len ∧ tpR n tb len < (fct n : Int) := by
  have : ∀ (p : Nat → Bool) (j t : Nat), -1 ≤ ff p j t ∧ ff p j t < ((t + j : Nat) : Int) ∨ ff p j t = -1 := by
    intro p j
    induction j with
    | zero => intro t; exact Or.inr rfl
    | succ j ih =>
      intro t
      unfold ff
      split
      · left; omega
      · have := ih (t + 1); omega
  unfold tpR
  have h := this (tpB n tb) (fct n) 0
  split <;> omega
/-- what using up the tape leaves -/
def RT (m : Nat) (S S' : MS) : Prop := Fr m A0 (6 :: B0) S S' ∧ Tbl S' m ∧ S'.I m 6 = 0
theorem RQ.t {m : Nat} {S S1 S2 : MS} (h : RT m S S1) (k : RQ m S1 S2) : RT m S S2 := ⟨h.1.tr (k.1.wk (by decide) (by decide)), k.2, by rw [k.1.fld (by decide)]; exact h.2.2⟩
theorem RT.w {m : Nat} {S S' : MS} (h : RT m S S') : S'.I (m+1) = S.I (m+1) := h.1.arr (by decide) (by decide)
theorem RT.ri {m n : Nat} {S S' : MS} (h : RT m S S') (k : RI S m n) : RI S' m n := ⟨h.1.lay k.1, by rw [h.w]; exact k.2.1, h.2.1⟩
theorem fin3 {m : Nat} {S S' : MS} {Q : Out → MS → Prop} {A : Int × Int} {c v : Int} (h : ∀ S', RT m S S' → S'.I m 0 = A.1 → Q (.inl (some (vI A.2))) S') (e : A = (c, v)) (q : RT m S S') (t : S'.I m 0 = c) : Q (.inl (some (vI v))) S' := by
  have := h S' q (by rw [e]; exact t)
  rw [e] at this
  exact this
theorem c_tapedRow {d m n len : Nat} {tb : Nat → Nat} {S : MS} {Q : Out → MS → Prop} (hd : 3 ≤ d) (hI : RI S m n) (hP : Tp S m tb len) (h : ∀ S', RT m S S' → S'.I m 0 = 0 → Tb S' m n → Q (.inl (some (vI (tpR n tb len)))) S') : Mw hX11_tapedRow yX11_tapedRow d [vA m] S Q := by
  have hL := hI.1
  have hg := hI.2.1
  have h3 := hg.1.1
  have h7 := hg.1.2.1
  obtain ⟨h6, hlen, ht⟩ := hP
  obtain ⟨dd, rfl⟩ : ∃ e, d = e + 1 := ⟨d - 1, by omega⟩
  refine MX11_tapedRow ?_
  have hl := hL
  unfold RLay at hl
  unfold VX11_tapedRow_0
  simp only [hl, sI_K, sI_N, sI_R, sI_J, Option.some.injEq, exists_eq_left', true_and, and_true, Int.toNat_zero, Int.reduceToNat, Int.reduceLT, Int.reduceLE, Int.cast_ofNat_Int, forall_eq, ge_iff_le, Int.reduceNeg, Int.reduceAdd, Int.reduceSub, Int.reduceMul, Int.reduceEq, r32_0, r32_1, r32_m1, b01_0, b01_1, not_true_eq_false, not_false_eq_true, false_implies, true_implies, implies_true, forall_const]
  refine c_uses (by omega) hL (fun S1 f1 a1 a2 a3 a4 => oV_i ⟨(f1.lay hL).1, ?_⟩)
  have hw1 : S1.I (m+1) = S.I (m+1) := f1.arr (by decide) (by decide)
  refine c_fills (n := n) (by omega) (f1.lay hL) (f1.tbl (by decide) (by decide) (by decide) hI.2.2) h3 h7 (by rw [hw1]; exact hg.1.2.2) (fun S2 f2 t2 => oV_i ?_)
  have hL2 := f2.lay (f1.lay hL)
  have hw2 : S2.I (m+1) = S.I (m+1) := by rw [f2.arr (by decide) (by decide), hw1]
  have e8 : S2.I m 8 = (len : Int) := by rw [f2.fld (by decide), a4, h6]
  have q2 : RT m S S2 := ⟨(f1.wk (by decide) (by decide)).tr (f2.wk (by decide) (by decide)), t2.l h7, by rw [f2.fld (by decide), a2]⟩
  have e0 : S2.I m 0 = 0 := by rw [f2.fld (by decide), a1]
  refine ⟨hL2.1, hL2.1, c_things (by omega) hL2 (oI_i ?_)⟩
  rw [e8, hw2, hg.1.2.2]
  have := h S2 q2 e0 t2
  unfold tpR at this
  refine ⟨⟨(by unfold R32; omega), (by unfold R32; omega)⟩, fun c => ⟨fct n + 1, ?_⟩, fun c => ?_⟩
  · rw [if_pos (by omega)] at this
    refine f_tp23 (tb := tb) (by omega) hL2 h3 h7 t2 (by rw [e8]; omega) (fun i hi => ?_) (fct n) (r := 0) (by omega) this
    rw [f2.arr (by decide) (by decide), f1.arr (by decide) (by decide)]
    exact ht i (by omega)
  · rw [if_neg (by omega)] at this
    exact this
noncomputable def A_fits (n : Nat) (w : Nat → Int) (tb : Nat → Nat) (len : Nat) : Int × Int := if tpR n tb len < 0 then (1, 0) else (0, pI (FitA n w (tpR n tb len).toNat 0))
theorem c_fits {d m n len : Nat} {tb : Nat → Nat} {S : MS} {Q : Out → MS → Prop} (hd : 7 ≤ d) (hI : RI S m n) (hP : Tp S m tb len) (h : ∀ S', RT m S S' → S'.I m 0 = (A_fits n (S.I (m+1)) tb len).1 → Q (.inl (some (vI (A_fits n (S.I (m+1)) tb len).2))) S') : Mw hX11_fits yX11_fits d [vA m] S Q := by
  have hL := hI.1
  have hg := hI.2.1
  have hf := fct_le hg.1.1 hg.1.2.1
  have hr := tpR_r (n := n) (tb := tb) (len := len)
  obtain ⟨dd, rfl⟩ : ∃ e, d = e + 1 := ⟨d - 1, by omega⟩
  refine MX11_fits ?_
  have hl := hL
  unfold RLay at hl
  unfold VX11_fits_0
  simp only [hl, sI_K, sI_N, sI_R, sI_J, Option.some.injEq, exists_eq_left', true_and, and_true, Int.toNat_zero, Int.reduceToNat, Int.reduceLT, Int.reduceLE, Int.cast_ofNat_Int, forall_eq, ge_iff_le, Int.reduceNeg, Int.reduceAdd, Int.reduceSub, Int.reduceMul, Int.reduceEq, r32_0, r32_1, r32_m1, b01_0, b01_1, not_true_eq_false, not_false_eq_true, false_implies, true_implies, implies_true, forall_const]
  refine c_tapedRow (n := n) (by omega) hI hP (fun S1 q1 t1 T1 => oI_i ?_)
  have hL1 := q1.1.lay hL
  unfold VX11_fits_15
  refine ⟨(by unfold R32; omega), fun c => ⟨hL1.1, t_if (P := False) (by omega) hL1 (.n id) (fun _ => oI_i ?_) (fun k => k.elim)⟩, fun c => ⟨hL1.1, t_if (P := True) (by omega) hL1 (.y trivial) (fun k => absurd trivial k) (fun _ => oI_i ?_)⟩⟩
  · have hl := hL1
    unfold RLay at hl
    simp only [hl, sI_K, sI_N, sI_R, sI_J, Option.some.injEq, exists_eq_left', true_and, and_true, Int.toNat_zero, Int.reduceToNat, Int.reduceLT, Int.reduceLE, Int.cast_ofNat_Int, forall_eq, ge_iff_le, Int.reduceNeg, Int.reduceAdd, Int.reduceSub, Int.reduceMul, Int.reduceEq, r32_0, r32_1, r32_m1, b01_0, b01_1, not_true_eq_false, not_false_eq_true, false_implies, true_implies, implies_true, forall_const]
    refine c_fitsAll (n := n) (r := (tpR n tb len).toNat) (wo := 0) (by omega) hL1 (by rw [q1.w]; exact hg) T1 (by omega) rfl (by omega) (by decide) (fun S2 q f2 hq => oI_i ?_)
    rw [q1.w] at hq
    have q2 : RT m S S2 := RQ.t q1 ⟨f2.wk (by decide) (by decide), f2.tbl (by decide) (by decide) (by decide) q1.2.1⟩
    have t2 : S2.I m 0 = 0 := by rw [f2.fld (by decide), t1]
    refine ⟨hq.r, fun c2 => fin3 h ?_ q2 t2, fun c2 => fin3 h ?_ q2 t2⟩
    · unfold A_fits
      rw [if_neg (by omega), ← hq.e, c2]
    · unfold A_fits
      rw [if_neg (by omega), ← hq.e]
      rcases hq with ⟨e, -⟩ | ⟨e, -⟩
      · rw [e]
      · exact absurd e c2
  · have hl := hL1
    unfold RLay at hl
    simp only [hl, sI_K, sI_N, sI_R, sI_J, Option.some.injEq, exists_eq_left', true_and, and_true, Int.toNat_zero, Int.reduceToNat, Int.reduceLT, Int.reduceLE, Int.cast_ofNat_Int, forall_eq, ge_iff_le, Int.reduceNeg, Int.reduceAdd, Int.reduceSub, Int.reduceMul, Int.reduceEq, r32_0, r32_1, r32_m1, b01_0, b01_1, not_true_eq_false, not_false_eq_true, false_implies, true_implies, implies_true, forall_const]
    exact fin3 h (by unfold A_fits; rw [if_pos (by omega)]) (RQ.t q1 (RQ.s0 q1.2.1)) (by rw [sI_I, if_pos ⟨rfl, rfl⟩])
