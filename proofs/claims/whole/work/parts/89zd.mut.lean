/-! what changes the shed -/
def CG (x : Nat) (A B : Nat → Prop) (e : Nat) (S S' : MS) : Prop := S'.T = S.T ∧ (∀ a, a < x + 47 → a ≠ x → ¬ A a → S'.I a = S.I a) ∧ (∀ k, ¬ B k → S'.I x k = S.I x k) ∧ (∀ a, a < x + 197 → S'.K a = S.K a ∧ S'.N a = S.N a) ∧ (∀ a, x + 176 ≤ a → a < x + 197 → S'.I a = S.I a ∧ S'.J a = S.J a ∧ S'.R a = S.R a) ∧ S'.nx + 1000 * wn0 S' x ≤ S.nx + 1000 * wn0 S x + e ∧ S'.us + 100000 * wn0 S' x ≤ S.us + 100000 * wn0 S x + 6 * e
def nA : Nat → Prop := fun _ => False
def stA_ (x : Nat) : Nat → Prop := fun a => x + 12 ≤ a ∧ a < x + 20
def b12 : Nat → Prop := fun k => k = 12
theorem CJ.g {x : Nat} {S S1 : MS} (f : CJ x S S1) : CG x nA b12 1 S S1 := ⟨f.1, fun a h1 h2 _ => f.2.1 a h1 h2, f.2.2.1, f.2.2.2.1, f.2.2.2.2.1, f.2.2.2.2.2.1, f.2.2.2.2.2.2⟩
theorem CQ.g {x : Nat} {S S1 : MS} (f : CQ x S S1) : CG x nA b12 0 S S1 := ⟨f.1, fun a h1 h2 _ => f.2.1 a h1 h2, f.2.2.1, f.2.2.2.1, f.2.2.2.2.1, f.2.2.2.2.2.1.1, f.2.2.2.2.2.1.2⟩
theorem CG.wk {x e e' : Nat} {A A' B B' : Nat → Prop} {S S1 : MS} (f : CG x A B e S S1) (h1 : ∀ a, A a → A' a) (h2 : ∀ k, B k → B' k) (h3 : e ≤ e') : CG x A' B' e' S S1 := ⟨f.1, fun a g1 g2 g3 => f.2.1 a g1 g2 (fun z => g3 (h1 a z)), fun k g => f.2.2.1 k (fun z => g (h2 k z)), f.2.2.2.1, f.2.2.2.2.1, by have := f.2.2.2.2.2.1; omega, by have := f.2.2.2.2.2.2; omega⟩
theorem CG.tr {x e e' : Nat} {A B : Nat → Prop} {S S1 S2 : MS} (f : CG x A B e S S1) (g : CG x A B e' S1 S2) : CG x A B (e + e') S S2 := ⟨g.1.trans f.1, fun a h h' z => (g.2.1 a h h' z).trans (f.2.1 a h h' z), fun k h => (g.2.2.1 k h).trans (f.2.2.1 k h), fun a h => ⟨((g.2.2.2.1 a h).1).trans (f.2.2.2.1 a h).1, ((g.2.2.2.1 a h).2).trans (f.2.2.2.1 a h).2⟩, fun a h h' => ⟨((g.2.2.2.2.1 a h h').1).trans (f.2.2.2.2.1 a h h').1, ((g.2.2.2.2.1 a h h').2.1).trans (f.2.2.2.2.1 a h h').2.1, ((g.2.2.2.2.1 a h h').2.2).trans (f.2.2.2.2.1 a h h').2.2⟩, by have := f.2.2.2.2.2.1; have := g.2.2.2.2.2.1; omega, by have := f.2.2.2.2.2.2; have := g.2.2.2.2.2.2; omega⟩
theorem CG.rf {x : Nat} {A B : Nat → Prop} {S : MS} : CG x A B 0 S S := ⟨rfl, fun _ _ _ _ => rfl, fun _ _ => rfl, fun _ _ => ⟨rfl, rfl⟩, fun _ _ _ => ⟨rfl, rfl, rfl⟩, Nat.le_refl _, Nat.le_refl _⟩
theorem Fi.g {x l h_ : Nat} {A B : Nat → Prop} {S S1 : MS} (f : Fi l h_ S S1) (h1 : x + 1 ≤ l) (h2 : h_ ≤ x + 176) (hA : ∀ a, l ≤ a → a < h_ → a < x + 47 → A a) : CG x A B 0 S S1 := ⟨f.2.2.2.1, fun a g1 g2 g3 => f.I (by
  rcases Nat.lt_or_ge a l with c | c
  · exact Or.inl c
  · rcases Nat.lt_or_ge a h_ with d | d
    · exact absurd (hA a c d g1) g3
    · exact Or.inr d), fun k _ => by rw [f.I (by omega)], fun a _ => ⟨by rw [f.1], by rw [f.2.1]⟩, fun a _ _ => ⟨f.I (by omega), f.J (by omega), by rw [f.2.2.1]⟩, by
  have a3 : wn0 S1 x = wn0 S x := by unfold wn0; rw [f.2.2.1]
  have := f.2.2.2.2.1
  omega, by
  have a3 : wn0 S1 x = wn0 S x := by unfold wn0; rw [f.2.2.1]
  have := f.2.2.2.2.2.1
  omega⟩
theorem CG.sx {x k : Nat} {A B : Nat → Prop} {v : Int} {S : MS} (h : B k) : CG x A B 0 S (S.setI x k v) := ⟨rfl, fun a _ h2 _ => sI_Ia h2, fun j hj => by rw [sI_I, if_neg (fun z => hj (by rw [z.2]; exact h))], fun _ _ => ⟨rfl, rfl⟩, fun a h1 _ => ⟨sI_Ia (by omega), rfl, rfl⟩, Nat.le_refl _, Nat.le_refl _⟩
theorem CG.jk {x : Nat} {A B : Nat → Prop} {S S1 : MS} (f : CG x A B 0 S S1) (hx : x + 197 ≤ S1.nx) : CG x A B 1 S (S1.junk 6) := by
  refine ⟨f.1, f.2.1, f.2.2.1, fun a ha => ⟨?_, (f.2.2.2.1 a ha).2⟩, f.2.2.2.2.1, ?_, ?_⟩
  · rw [← (f.2.2.2.1 a ha).1]
    exact if_neg (by omega)
  · have := f.2.2.2.2.2.1
    show S1.nx + 1 + 1000 * wn0 S1 x ≤ _
    omega
  · have := f.2.2.2.2.2.2
    show S1.us + 6 + 100000 * wn0 S1 x ≤ _
    omega
/-- the store is another one: the rows left are to be found anew -/
theorem CI.mut {x n n' : Nat} {w w' : Nat → Int} {S S2 : MS} (h : CI S x n w) (hK : S2.K = S.K) (hN : S2.N = S.N) (hR : S2.R = S.R) (hx : S2.nx = S.nx) (hI : ∀ a, a ≠ x → x + 20 ≤ a → S2.I a = S.I a ∧ S2.J a = S.J a) (h0 : S2.I x 12 = 0) (hS : SS S2 (x+12) n' w') : CI S2 x n' w' := by
  obtain ⟨hX, -, ⟨⟨p, hL⟩, hV⟩, hW, hF⟩ := h
  have hx0 := hW.1
  have sm : ∀ lo hi, x + 20 ≤ lo → Sm lo hi S S2 := fun lo hi hlo a h1 h2 => ⟨by rw [hK], by rw [hN], (hI a (by omega) (by omega)).1, (hI a (by omega) (by omega)).2, by rw [hR]⟩
  refine ⟨hX.mv (fun a _ _ => ⟨by rw [hK], by rw [hN]⟩) (fun a _ _ _ _ => by rw [hR]), hS, ⟨⟨p, rs_sm (sm _ _ (by omega)) hL⟩, lvl_sm (sm _ _ (by omega)) (sm _ _ (by omega)) hV⟩, hW.mv hx (by rw [hR]) (sm _ _ (by omega)), Or.inl h0, fun hf => ?_⟩
  rw [h0] at hf
  exact absurd hf (by decide)
/-- the store is another one, but the rows left are the same -/
theorem CI.keep {x n : Nat} {w w' : Nat → Int} {S S2 : MS} (h : CI S x n w) (f : Fi (x+12) (x+20) S S2) (hS : SS S2 (x+12) n w') (hr : rowsL n w' 0 = rowsL n w 0) : CI S2 x n w' := by
  obtain ⟨hX, -, ⟨⟨p, hL⟩, hV⟩, hW, hF⟩ := h
  have hx0 := hW.1
  refine ⟨hX.mv (fun a _ _ => ⟨by rw [f.1], by rw [f.2.1]⟩) (fun a _ _ _ _ => by rw [f.2.2.1]), hS, ⟨⟨p, f.rs (by omega) hL⟩, lvl_sm (f.sm (by omega)) (f.sm (by omega)) hV⟩, hW.mv f.2.2.2.2.1 (by rw [f.2.2.1]) (f.sm (by omega)), by rw [f.I (by omega)]; exact hF.1, fun hf => ?_⟩
  rw [f.I (by omega)] at hf
  obtain ⟨f1, ⟨p, f2, f4, f5⟩, f6⟩ := hF.2 hf
  exact ⟨by rw [f.2.2.1]; exact f1, ⟨p, f.rs (by omega) f2, f4, by rw [hr]; exact f5⟩, by rw [hr]; exact f6.eq (by rw [f.I (by omega)])⟩
theorem misC_cg {n r mask s : Nat} {w u : Nat → Int} : ∀ {m : Nat}, (∀ i, i < m → nS u i = nS w i ∧ fitN n u r i = fitN n w r i) → misC n u r mask s m = misC n w r mask s m
  | 0, _ => rfl
  | m + 1, h => by
    show misC n u r mask s m + _ = misC n w r mask s m + _
    rw [misC_cg (fun i hi => h i (by omega)), (h m (by omega)).1, (h m (by omega)).2]
theorem rows_weight {n t : Nat} {v : Int} {w : Nat → Int} (ht : t < 7) : rowsL n (upW w (4 + t) v) 0 = rowsL n w 0 := by
  have e : ∀ q, 11 ≤ q → upW w (4 + t) v q = w q := fun q hq => upW_ne (by omega)
  have en : nN (upW w (4 + t) v) = nN w := by unfold nN; rw [upW_ne (by omega)]
  unfold rowsL
  refine List.filter_congr (fun r _ => ?_)
  unfold fitR
  rw [en]
  refine allB_cong (fun s _ => ?_)
  have el : lie (upW w (4 + t) v) s = lie w s := by unfold lie; rw [e _ (by omega)]
  rw [el, misC_cg (w := w) (fun i _ => ⟨by unfold nS; rw [e _ (by omega)], by unfold fitN kd nX nT nS; rw [e _ (by omega), e _ (by omega), e _ (by omega), e _ (by omega)]⟩)]
theorem rows_scale {n : Nat} {k p l : Int} {w : Nat → Int} (hg : GW n w) (h4 : sN w ≠ 4) : rowsL n (W_scale w k p l) 0 = rowsL n w 0 := by
  have g1 := hg.2.1
  have e : ∀ q, q ≠ 1 → ¬ (11 + 3 * sN w ≤ q ∧ q ≤ 13 + 3 * sN w) → W_scale w k p l q = w q := fun q h1 h2 => by rw [scale_at, if_neg h1, if_neg (by omega), if_neg (by omega), if_neg (by omega)]
  have en : nN (W_scale w k p l) = nN w := by unfold nN; rw [e 2 (by omega) (by omega)]
  have ns : ∀ i, nS (W_scale w k p l) i = nS w i := fun i => by unfold nS; rw [e _ (by omega) (by omega)]
  unfold rowsL
  refine List.filter_congr (fun r _ => ?_)
  unfold fitR
  rw [en]
  refine allB_cong (fun s hs => ?_)
  have em : misC n (W_scale w k p l) r 0 s (nN w) = misC n w r 0 s (nN w) := misC_cg (fun i hi => ⟨ns i, by
    have := (hg.nt hi).1.2
    unfold fitN
    rw [ns i]
    unfold kd nX nT
    rw [e _ (by omega) (by omega), e _ (by omega) (by omega), e _ (by omega) (by omega)]⟩)
  rw [em]
  by_cases c : s = sN w
  · rw [mis_0 hg (by omega) (nN w) (Nat.le_refl _), decide_eq_true (Nat.zero_le _), decide_eq_true (Nat.zero_le _)]
  · have el : lie (W_scale w k p l) s = lie w s := by unfold lie; rw [e _ (by omega) (by omega)]
    rw [el]
theorem q_things {d x n : Nat} {w : Nat → Int} {u : Int} {S : MS} {Q : Out → MS → Prop} (hd : 6 ≤ d) (hC : CI S x n w) (hu : R32 u) (h0 : A_things w u = 0 → ∀ S', CI S' x u.toNat (W_things w u.toNat) → CG x (stA_ x) b12 0 S S' → Q (.inl none) S') (h1 : A_things w u = 1 → ∀ S', CI S' x n w → CG x (stA_ x) b12 1 S S' → Q (.inr iae) S') (h2 : A_things w u = 2 → ∀ S', CI S' x n w → CG x (stA_ x) b12 1 S S' → Q (.inr ise) S') : Mw hX10_things yX10_things d [vA x, vI u] S Q := by
  have hX := hC.1
  have i8 := hC.i8
  have hx := hC.2.2.2.1.1
  unfold A_things at h0 h1 h2
  obtain ⟨dd, rfl⟩ : ∃ e, d = e + 1 := ⟨d - 1, by omega⟩
  refine MX10_things ?_
  unfold VX10_things_0
  unfold VX10_things_11
  refine ⟨⟨hu, (by unfold R32; omega)⟩, fun c => ⟨by omega, h1 (by rw [if_neg (by omega)]) _ hC.junk (CG.rf.jk hx)⟩, fun c => ⟨⟨hu, (by unfold R32; omega)⟩, fun c2 => ⟨hX.1, x+12, hX.2.1.2.2.1, hC.2.1.1.1, ?_⟩, fun c2 => ⟨by omega, h1 (by rw [if_neg (by omega)]) _ hC.junk (CG.rf.jk hx)⟩⟩⟩
  rw [i8.2.1]
  refine ⟨(by unfold R32; omega), fun c3 => ⟨hX.1, x+12, hX.2.1.2.2.1, hC.2.1.1.1, k_setThings (k := u.toNat) (by omega) hC.2.1 (by omega) (by omega) (by omega) (by omega) (fun S1 f1 s1 => oV_i ⟨⟨by rw [f1.1]; exact hX.1, b01_0⟩, h0 (by rw [if_pos (by omega), if_neg (by omega)]) _ ?_ ?_⟩)⟩, fun c3 => ⟨by omega, h2 (by rw [if_pos (by omega), if_pos (by omega)]) _ hC.junk (CG.rf.jk hx)⟩⟩
  · refine hC.mut (by show S1.K = _; rw [f1.1]) (by show S1.N = _; rw [f1.2.1]) (by show S1.R = _; rw [f1.2.2.1]) (by show S1.nx = _; rw [f1.2.2.2.2.1]) (fun a h1 h2 => ⟨by rw [sI_Ia h1, f1.I (by omega)], by show S1.J a = _; rw [f1.J (by omega)]⟩) (by rw [sI_I, if_pos ⟨rfl, rfl⟩]) ?_
    exact (Fi.sI (lo := x) (hi := x+1) (by omega) : Fi x (x+1) S1 (S1.setI x 12 0)).ss (by omega) s1
  · exact (f1.g (A := stA_ x) (B := b12) (by omega) (by omega) (fun a h1 h2 _ => ⟨h1, h2⟩)).tr (CG.sx (A := stA_ x) (B := b12) rfl)
theorem q_scale {d x n : Nat} {w : Nat → Int} {k p l : Int} {S : MS} {Q : Out → MS → Prop} (hd : 6 ≤ d) (hC : CI S x n w) (hk : R32 k) (hp : R32 p) (hl : R32 l) (h : ∀ S', CI S' x n (U_scale w k p l) → CG x (stA_ x) b12 1 S S' → Q (oR (A_scale w k p l) [iae, uoe]) S') : Mw hX10_scale yX10_scale d [vA x, vI k, vI p, vI l] S Q := by
  have hX := hC.1
  have i8 := hC.i8
  have hx := hC.2.2.2.1.1
  have bad : ¬ ((0 ≤ k ∧ k ≤ 2) ∧ (0 ≤ p ∧ p ≤ 99) ∧ (0 ≤ l ∧ l ≤ 3)) → Q (.inr iae) (S.junk 6) := fun z => by
    have eA : A_scale w k p l = (1, 0) := by unfold A_scale; rw [if_neg z]
    have eU : U_scale w k p l = w := by unfold U_scale; rw [eA]; exact if_neg (by decide)
    rw [eA, eU, oR_1] at h
    exact h _ hC.junk (CG.rf.jk hx)
  obtain ⟨dd, rfl⟩ : ∃ e, d = e + 1 := ⟨d - 1, by omega⟩
  refine MX10_scale ?_
  unfold VX10_scale_0
  unfold VX10_scale_25
  refine c_within (by omega) hk (by unfold R32; omega) (fun q1 hq1 => oI_i ⟨hq1.r, fun c1 => ⟨by omega, bad (fun z => ?_)⟩, fun c1 => c_within (by omega) hp (by unfold R32; omega) (fun q2 hq2 => oI_i ⟨hq2.r, fun c2 => ⟨by omega, bad (fun z => ?_)⟩, fun c2 => c_within (by omega) hl (by unfold R32; omega) (fun q3 hq3 => oI_i ⟨hq3.r, fun c3 => ?_, fun c3 => ⟨by omega, bad (fun z => ?_)⟩⟩)⟩)⟩)
  · rcases hq1 with ⟨rfl, -⟩ | ⟨-, k⟩; omega; exact k z.1
  · rcases hq2 with ⟨rfl, -⟩ | ⟨-, k⟩; omega; exact k z.2.1
  · have z1 : 0 ≤ k ∧ k ≤ 2 := by rcases hq1 with ⟨-, k⟩ | ⟨rfl, -⟩; exact k; omega
    have z2 : 0 ≤ p ∧ p ≤ 99 := by rcases hq2 with ⟨-, k⟩ | ⟨rfl, -⟩; exact k; omega
    have z3 : 0 ≤ l ∧ l ≤ 3 := by rcases hq3 with ⟨-, k⟩ | ⟨rfl, -⟩; exact k; omega
    refine ⟨hX.1, x+12, hX.2.1.2.2.1, hC.2.1.1.1, ?_⟩
    rw [i8.1]
    refine ⟨⟨(by unfold R32; omega), (by unfold R32; omega)⟩, fun c4 => ⟨hX.1, x+12, hX.2.1.2.2.1, hC.2.1.1.1, k_addScale (by omega) hC.2.1 (by omega) z1 z2 z3 (fun S1 f1 s1 => oI_i ?_)⟩, fun c4 => ⟨by omega, ?_⟩⟩
    · have eA : A_scale w k p l = (0, (sN w : Int)) := by unfold A_scale; rw [if_pos ⟨z1, z2, z3⟩, if_neg (by omega)]
      have eU : U_scale w k p l = W_scale w k p l := by unfold U_scale; rw [eA]; exact if_pos rfl
      rw [eA, eU, oR_0] at h
      exact h S1 (hC.keep f1 s1 (rows_scale hC.2.1.2.2 (by omega))) ((f1.g (A := stA_ x) (B := b12) (by omega) (by omega) (fun a h1 h2 _ => ⟨h1, h2⟩)).wk (fun _ z => z) (fun _ z => z) (by omega))
    · have eA : A_scale w k p l = (2, 0) := by unfold A_scale; rw [if_pos ⟨z1, z2, z3⟩, if_pos (by omega)]
      have eU : U_scale w k p l = w := by unfold U_scale; rw [eA]; exact if_neg (by decide)
      rw [eA, eU, oR_2] at h
      exact h _ hC.junk (CG.rf.jk hx)
  · rcases hq3 with ⟨rfl, -⟩ | ⟨-, k⟩; omega; exact k z.2.2
theorem q_weight {d x n : Nat} {w : Nat → Int} {t v : Int} {S : MS} {Q : Out → MS → Prop} (hd : 7 ≤ d) (hC : CI S x n w) (ht : R32 t) (hv : R32 v) (h : ∀ S', CI S' x n (U_weight n w t v) → CG x (stA_ x) b12 1 S S' → Q (oR (A_weight n w t v) [iob, iae]) S') : Mw hX10_weight yX10_weight d [vA x, vI t, vI v] S Q := by
  have hX := hC.1
  have g0 := hC.2.1.2.2.1
  have hx := hC.2.2.2.1.1
  obtain ⟨dd, rfl⟩ : ∃ e, d = e + 1 := ⟨d - 1, by omega⟩
  refine MX10_weight ?_
  unfold VX10_weight_0
  refine ⟨hX.1, k_needThing (by omega) hC ht (fun c => xV_i (c_within (by omega) hv (by unfold R32; omega) (fun q hq => oI_i ⟨hq.r, fun c2 => ?_, fun c2 => ⟨by omega, ?_⟩⟩))) (fun c => xV_x ?_)⟩
  · have z : 0 ≤ v ∧ v ≤ 999 := by rcases hq with ⟨-, k⟩ | ⟨rfl, -⟩; exact k; omega
    have eA : A_weight n w t v = (0, w (4 + t.toNat)) := by unfold A_weight; rw [if_pos c, if_pos z]
    have eU : U_weight n w t v = upW w (4 + t.toNat) v := by unfold U_weight; rw [eA]; exact if_pos rfl
    rw [eA, eU, oR_0] at h
    have hl := hC.2.1.1
    unfold SY at hl
    have wt := hC.2.1.2.1.2.1 t.toNat (by omega)
    have f1 : Fi (x+12) (x+20) S (S.setI (x+12+1) t.toNat v) := Fi.sI (by omega)
    refine ⟨hX.1, x+12, hX.2.1.2.2.1, hl.1, _, hl.2.1.1, ⟨hl.2.2.1.1, by omega, by rw [hl.2.2.2.1]; omega⟩, hX.1, x+12, hX.2.1.2.2.1, hl.1, _, hl.2.1.1, ⟨hl.2.2.1.1, by omega, by rw [hl.2.2.2.1]; omega⟩, ?_⟩
    rw [wt]
    exact h _ (hC.keep f1 (hC.2.1.wt_ (by omega) z.1 z.2) (rows_weight (by omega))) ((f1.g (A := stA_ x) (B := b12) (by omega) (by omega) (fun a h1 h2 _ => ⟨h1, h2⟩)).wk (fun _ z => z) (fun _ z => z) (by omega))
  · have z : ¬ (0 ≤ v ∧ v ≤ 999) := by rcases hq with ⟨rfl, -⟩ | ⟨-, k⟩; omega; exact k
    have eA : A_weight n w t v = (2, 0) := by unfold A_weight; rw [if_pos c, if_neg z]
    have eU : U_weight n w t v = w := by unfold U_weight; rw [eA]; exact if_neg (by decide)
    rw [eA, eU, oR_2] at h
    exact h _ hC.junk (CG.rf.jk hx)
  · have eA : A_weight n w t v = (1, 0) := by unfold A_weight; rw [if_neg c]
    have eU : U_weight n w t v = w := by unfold U_weight; rw [eA]; exact if_neg (by decide)
    rw [eA, eU, oR_1] at h
    exact h _ hC.junk (CG.rf.jk hx)
theorem q_note {d x n : Nat} {w : Nat → Int} {s u t : Int} {S : MS} {Q : Out → MS → Prop} (hd : 7 ≤ d) (hC : CI S x n w) (hs : R32 s) (hu : R32 u) (ht : R32 t) (h : ∀ S', CI S' x n (U_note n w s u t) → CG x (stA_ x) b12 1 S S' → Q (oR (A_note n w s u t) [iob, iae, uoe]) S') : Mw hX10_note yX10_note d [vA x, vI s, vI u, vI t] S Q := by
  have hX := hC.1
  have g0 := hC.2.1.2.2.1
  have p7 := p2_7 g0.2.1
  have i8 := hC.i8
  have hx := hC.2.2.2.1.1
  obtain ⟨dd, rfl⟩ : ∃ e, d = e + 1 := ⟨d - 1, by omega⟩
  refine MX10_note ?_
  unfold VX10_note_0
  unfold VX10_note_30
  refine ⟨hX.1, k_needScale (by omega) hC hs (fun c => xV_i ⟨hX.1, k_needLoad (s := s.toNat) (by omega) hC (by omega) (by omega) hu (fun cu => xV_i ?_) (fun cu => xV_x ?_)⟩) (fun c => xV_x ?_)⟩
  · have cu3 := IsSet3 cu
    have bad : ¬ okN n w s u t → Q (.inr iae) (S.junk 6) := fun z => by
      have eA : A_note n w s u t = (2, 0) := by unfold A_note; rw [if_pos c, cD_n z]
      have eU : U_note n w s u t = w := by unfold U_note; rw [eA]; exact if_neg (by decide)
      rw [eA, eU, oR_2] at h
      exact h _ hC.junk (CG.rf.jk hx)
    refine ⟨hX.1, x+12, hX.2.1.2.2.1, hC.2.1.1.1, c_isThing (by omega) hC.2.1 ht (fun q hq => oI_i ⟨hq.r, fun c2 => ⟨by omega, bad (fun z => ?_)⟩, fun c2 => ?_⟩)⟩
    · rcases hq with ⟨rfl, -⟩ | ⟨-, k⟩; omega; exact k z.2.1
    · have tk : 0 ≤ t ∧ t < (n : Int) := by rcases hq with ⟨-, k⟩ | ⟨rfl, -⟩; exact k; omega
      refine c_holds (x := u.toNat) (t := t.toNat) (by omega) (by omega) (by omega) (by omega) (by omega) (fun q2 hq2 => oI_i ⟨hq2.r, fun c3 => ?_, fun c3 => ⟨by omega, bad (fun z => ?_)⟩⟩)
      · have yb : u.toNat.testBit t.toNat = true := by rcases hq2 with ⟨-, k⟩ | ⟨rfl, -⟩; exact k; omega
        have ok : okN n w s u t := ⟨cu, tk, yb⟩
        refine ⟨hX.1, x+12, hX.2.1.2.2.1, hC.2.1.1.1, ?_⟩
        rw [i8.2.1]
        have f0 : Fi x (x+1) S (S.setI x 12 0) := Fi.sI (by omega)
        refine ⟨⟨(by unfold R32; omega), (by unfold R32; omega)⟩, fun c4 => ⟨⟨hX.1, b01_0⟩, hX.1, x+12, hX.2.1.2.2.1, hC.2.1.1.1, k_addNote (a := s.toNat) (x := u.toNat) (t := t.toNat) (by omega) (f0.ss (by omega) hC.2.1) (by omega) (by omega) (by omega) (by omega) (by omega) (by omega) cu3.2.2 (by omega) yb (fun S1 f1 s1 => oI_i ?_)⟩, fun c4 => ⟨by omega, ?_⟩⟩
        · have eA : A_note n w s u t = (0, (nN w : Int)) := by unfold A_note; rw [if_pos c, cD_y ok, if_neg (by omega)]
          have eU : U_note n w s u t = W_note w s u t := by unfold U_note; rw [eA]; exact if_pos rfl
          rw [eA, eU, oR_0] at h
          rw [show ((s.toNat : Nat) : Int) = s by omega, show ((u.toNat : Nat) : Int) = u by omega, show ((t.toNat : Nat) : Int) = t by omega] at s1
          refine h S1 (hC.mut (by rw [f1.1]; rfl) (by rw [f1.2.1]; rfl) (by rw [f1.2.2.1]; rfl) (by rw [f1.2.2.2.2.1]; rfl) (fun a h1 h2 => ⟨by rw [f1.I (by omega), sI_Ia h1], by rw [f1.J (by omega)]; rfl⟩) (by rw [f1.I (by omega), sI_I, if_pos ⟨rfl, rfl⟩]) s1) ?_
          exact ((CG.sx (A := stA_ x) (B := b12) rfl).tr (f1.g (A := stA_ x) (B := b12) (by omega) (by omega) (fun a h1 h2 _ => ⟨h1, h2⟩))).wk (fun _ z => z) (fun _ z => z) (by omega)
        · have eA : A_note n w s u t = (3, 0) := by unfold A_note; rw [if_pos c, cD_y ok, if_pos (by omega)]
          have eU : U_note n w s u t = w := by unfold U_note; rw [eA]; exact if_neg (by decide)
          rw [eA, eU, oR_3] at h
          exact h _ hC.junk (CG.rf.jk hx)
      · rcases hq2 with ⟨rfl, -⟩ | ⟨-, k⟩; omega; exact k z.2.2
  · have eA : A_note n w s u t = (2, 0) := by unfold A_note; rw [if_pos c, cD_n (fun z => cu z.1)]
    have eU : U_note n w s u t = w := by unfold U_note; rw [eA]; exact if_neg (by decide)
    rw [eA, eU, oR_2] at h
    exact h _ hC.junk (CG.rf.jk hx)
  · have eA : A_note n w s u t = (1, 0) := by unfold A_note; rw [if_neg c]
    have eU : U_note n w s u t = w := by unfold U_note; rw [eA]; exact if_neg (by decide)
    rw [eA, eU, oR_1] at h
    exact h _ hC.junk (CG.rf.jk hx)
theorem q_drop {d x n : Nat} {w : Nat → Int} {i : Int} {S : MS} {Q : Out → MS → Prop} (hd : 7 ≤ d) (hC : CI S x n w) (hi : R32 i) (h : ∀ S', CI S' x n (U_drop w i) → CG x (stA_ x) b12 1 S S' → Q (oR (A_drop w i) [iob]) S') : Mw hX10_drop yX10_drop d [vA x, vI i] S Q := by
  have hX := hC.1
  have i8 := hC.i8
  have hx := hC.2.2.2.1.1
  unfold U_drop A_drop at h
  obtain ⟨dd, rfl⟩ : ∃ e, d = e + 1 := ⟨d - 1, by omega⟩
  refine MX10_drop ?_
  unfold VX10_drop_0
  refine ⟨hX.1, k_needNote (by omega) hC hi (fun c => xV_i ⟨hX.1, x+12, hX.2.1.2.2.1, hC.2.1.1.1, k_putAway (i := i.toNat) (by omega) hC.2.1 (by omega) (by omega) (fun S1 f1 s1 => oV_i ?_)⟩) (fun c => xV_x ?_)⟩
  · rw [if_pos c, if_pos c, oR_0] at h
    have X1 : CI (S1.setI x 12 0) x n (W_drop w i.toNat) := hC.mut (by show S1.K = _; rw [f1.1]) (by show S1.N = _; rw [f1.2.1]) (by show S1.R = _; rw [f1.2.2.1]) (by show S1.nx = _; rw [f1.2.2.2.2.1]) (fun a h1 h2 => ⟨by rw [sI_Ia h1, f1.I (by omega)], by show S1.J a = _; rw [f1.J (by omega)]⟩) (by rw [sI_I, if_pos ⟨rfl, rfl⟩]) ((Fi.sI (lo := x) (hi := x+1) (by omega) : Fi x (x+1) S1 (S1.setI x 12 0)).ss (by omega) s1)
    have e9 := X1.i8.2.1
    have en : ((nN (W_drop w i.toNat) : Nat) : Int) = (nN w : Int) - 1 := by
      have g2 := hC.2.1.2.2.2.2.1
      have : W_drop w i.toNat 2 = w 2 - 1 := by unfold W_drop; rw [if_pos rfl]
      unfold nN
      unfold nN at c
      rw [this]
      omega
    refine ⟨⟨by rw [f1.1]; exact hX.1, b01_0⟩, X1.1.1, x+12, X1.1.2.1.2.2.1, X1.2.1.1.1, ?_⟩
    rw [e9, en]
    exact h _ X1 (((f1.g (A := stA_ x) (B := b12) (by omega) (by omega) (fun a h1 h2 _ => ⟨h1, h2⟩)).tr (CG.sx (A := stA_ x) (B := b12) rfl)).wk (fun _ z => z) (fun _ z => z) (by omega))
  · rw [if_neg c, if_neg c, oR_1] at h
    exact h _ hC.junk (CG.rf.jk hx)
