/-! the class's whole state -/
theorem ss_I {s n : Nat} {w : Nat → Int} {S S' : MS} (h : SS S s n w) (hY : SY S' s) (e : ∀ a, s ≤ a → a < s + 8 → S'.I a = S.I a) : SS S' s n w := by
  refine ⟨hY, ?_, h.2.2⟩
  have k := h.2.1
  unfold SW at k ⊢
  rw [e s (by omega) (by omega), e (s+1) (by omega) (by omega), e (s+2) (by omega) (by omega), e (s+3) (by omega) (by omega), e (s+4) (by omega) (by omega), e (s+5) (by omega) (by omega), e (s+6) (by omega) (by omega), e (s+7) (by omega) (by omega)]
  exact k
theorem SS.cong {s n : Nat} {w u : Nat → Int} {S : MS} (h : SS S s n w) (e : ∀ q, q < 71 → u q = w q) : SS S s n u := by
  obtain ⟨hY, ⟨⟨w0, w1, w2, w3⟩, wt, wk, wn⟩, hg⟩ := h
  have g1 := hg.2.1
  have g2 := hg.2.2.1
  have es : sN u = sN w := by unfold sN; rw [e 1 (by decide)]
  have en : nN u = nN w := by unfold nN; rw [e 2 (by decide)]
  refine ⟨hY, ⟨by rw [e 0 (by decide), e 1 (by decide), e 2 (by decide), e 3 (by decide)]; exact ⟨w0, w1, w2, w3⟩, fun t ht => by rw [e _ (by omega)]; exact wt t ht, fun i hi => ?_, fun i hi => ?_⟩, hg.cong e⟩
  · rw [es] at hi
    rw [e _ (by omega), e _ (by omega), e _ (by omega)]
    exact wk i hi
  · rw [en] at hi
    rw [e _ (by omega), e _ (by omega), e _ (by omega)]
    exact wn i hi
theorem GW.tx {n : Nat} {v : Int} {w : Nat → Int} (h : GW n w) (h0 : 0 ≤ v) (h1 : v ≤ 8) : GW n (upW w 3 v) := by
  have e : ∀ q, q ≠ 3 → upW w 3 v q = w q := fun q hq => upW_ne hq
  have es : sN (upW w 3 v) = sN w := by unfold sN; rw [e 1 (by omega)]
  have en : nN (upW w 3 v) = nN w := by unfold nN; rw [e 2 (by omega)]
  refine ⟨⟨h.1.1, h.1.2.1, by rw [e 0 (by omega)]; exact h.1.2.2⟩, by rw [es, e 1 (by omega)]; exact h.2.1, by rw [en, e 2 (by omega)]; exact h.2.2.1, by rw [upW_eq]; exact ⟨h0, h1⟩, fun u hu => by rw [e _ (by omega)]; exact h.wt hu, fun s hs => ?_, fun i hi => ?_⟩
  · rw [es] at hs
    have := h.sc hs
    unfold kd prc lie at this ⊢
    rw [e _ (by omega), e _ (by omega), e _ (by omega)]
    exact this
  · rw [en] at hi
    have := h.nt hi
    rw [es]
    unfold kd nS nX nT at this ⊢
    rw [e (23 + 3 * i) (by omega), e (24 + 3 * i) (by omega), e (25 + 3 * i) (by omega), e (11 + 3 * (w (23 + 3 * i)).toNat) (by omega)]
    exact this
theorem SS.tx {s n : Nat} {w : Nat → Int} {v : Int} {S : MS} (hS : SS S s n w) (h0 : 0 ≤ v) (h1 : v ≤ 8) : SS (S.setI s 10 v) s n (upW w 3 v) := by
  have f : Fi s (s+1) S (S.setI s 10 v) := Fi.sI (by omega)
  obtain ⟨hY, ⟨⟨w0, w1, w2, w3⟩, wt, wk, wn⟩, hg⟩ := hS
  have e : ∀ q, q ≠ 3 → upW w 3 v q = w q := fun q hq => upW_ne hq
  have es : sN (upW w 3 v) = sN w := by unfold sN; rw [e 1 (by omega)]
  have en : nN (upW w 3 v) = nN w := by unfold nN; rw [e 2 (by omega)]
  refine ⟨f.sy hY, ⟨?_, fun u hu => ?_, fun i hi => ?_, fun i hi => ?_⟩, hg.tx h0 h1⟩
  · rw [e 0 (by omega), e 1 (by omega), e 2 (by omega), upW_eq, sI_I, if_neg (by omega), sI_I, if_neg (by omega), sI_I, if_neg (by omega), sI_I, if_pos ⟨rfl, rfl⟩]
    exact ⟨w0, w1, w2, rfl⟩
  · rw [f.I (by omega), e _ (by omega)]
    exact wt u hu
  · rw [es] at hi
    rw [f.I (by omega), f.I (by omega), f.I (by omega), e _ (by omega), e _ (by omega), e _ (by omega)]
    exact wk i hi
  · rw [en] at hi
    rw [f.I (by omega), f.I (by omega), f.I (by omega), e _ (by omega), e _ (by omega), e _ (by omega)]
    exact wn i hi
/-- two sheds with the same head and the same notes -/
theorem SS.nt {s n : Nat} {w u : Nat → Int} {S : MS} (h : SS S s n w) (hg : GW n u) (hh : SmHd w u) (hl : ntL u = ntL w) : SS S s n u := by
  obtain ⟨hY, ⟨⟨w0, w1, w2, w3⟩, wt, wk, wn⟩, hw⟩ := h
  have g1 := hw.2.1
  have g2 := hw.2.2.1
  have k2 := hg.2.2.1
  have en : nN u = nN w := by rw [← ntL_len, hl, ntL_len]
  have es : sN u = sN w := by unfold sN; rw [hh 1 (by decide) (by decide)]
  refine ⟨hY, ⟨⟨by rw [hh 0 (by decide) (by decide)]; exact w0, by rw [hh 1 (by decide) (by decide)]; exact w1, by rw [k2.1, en, ← g2.1]; exact w2, by rw [hh 3 (by decide) (by decide)]; exact w3⟩, fun t ht => by rw [hh _ (by omega) (by omega)]; exact wt t ht, fun i hi => ?_, fun i hi => ?_⟩, hg⟩
  · rw [es] at hi
    rw [hh _ (by omega) (by omega), hh _ (by omega) (by omega), hh _ (by omega) (by omega)]
    exact wk i hi
  · have a := hg.nt hi
    have hi' : i < nN w := by omega
    have b := hw.nt hi'
    have c : nt3 u i = nt3 w i := by
      have c1 := ntL_get hi
      rw [hl, ntL_get hi'] at c1
      exact (Option.some.inj c1).symm
    unfold nt3 at c
    simp only [Prod.mk.injEq] at c
    rw [a.1.1, a.2.1.1, a.2.2.1, c.1, c.2.1, c.2.2, ← b.1.1, ← b.2.1.1, ← b.2.2.1]
    exact wn i hi'
/-- what the class's own state rests on is the same -/
theorem CI.all {x n : Nat} {w : Nat → Int} {S S1 : MS} (h : CI S x n w) (hK : S1.K = S.K) (hN : S1.N = S.N) (hR : S1.R = S.R) (hx : S1.nx = S.nx) (hI : ∀ a, (x + 12 ≤ a ∧ a < x + 20) ∨ (x + 28 ≤ a ∧ a < x + 176) ∨ x + 197 ≤ a → S1.I a = S.I a ∧ S1.J a = S.J a) (h12 : S1.I x 12 = S.I x 12) : CI S1 x n w := by
  obtain ⟨hX, hS, ⟨⟨p, hL⟩, hV⟩, hW, hF⟩ := h
  have hx0 := hW.1
  have sm : ∀ lo hi, ((x + 28 ≤ lo ∧ hi ≤ x + 176) ∨ x + 197 ≤ lo) → Sm lo hi S S1 := fun lo hi hlo a h1 h2 => ⟨by rw [hK], by rw [hN], (hI a (by omega)).1, (hI a (by omega)).2, by rw [hR]⟩
  have X1 : CX S1 x := hX.mv (fun a _ _ => ⟨by rw [hK], by rw [hN]⟩) (fun a _ _ _ _ => by rw [hR])
  refine ⟨X1, ss_I hS (by unfold SY; rw [hK, hN, hR]; exact hS.1) (fun a h1 h2 => (hI a (by omega)).1), ⟨⟨p, rs_sm (sm _ _ (by omega)) hL⟩, lvl_sm (sm _ _ (by omega)) (sm _ _ (by omega)) hV⟩, hW.mv hx (by rw [hR]) (sm _ _ (by omega)), by rw [h12]; exact hF.1, fun hf => ?_⟩
  rw [h12] at hf
  obtain ⟨f1, ⟨p, f2, f4, f5⟩, f6⟩ := hF.2 hf
  exact ⟨by rw [hR]; exact f1, ⟨p, rs_sm (sm _ _ (by omega)) f2, f4, f5⟩, f6.eq (by rw [(hI (x+55) (by omega)).1])⟩
def IMG (S : MS) (x : Nat) (i : Int) (v : Nat → Int) : Prop := S.I x 13 = i ∧ (i = 0 ∨ i = 1) ∧ (i = 1 → ∃ n', SS S (x+20) n' v)
def FS (S : MS) (x n : Nat) (w : Nat → Int) (tb : Nat → Nat) (len : Nat) (i : Int) (v : Nat → Int) (f : Int) : Prop := CI S x n w ∧ TW S (x+2) tb len ∧ IMG S x i v ∧ S.I x 14 = f ∧ R32 f
def tA : Nat → Prop := fun _ => True
theorem CG.t {x e : Nat} {A B : Nat → Prop} {S S1 : MS} (f : CG x A B e S S1) (h : e ≤ 1) : CG x tA tA 1 S S1 := f.wk (fun _ _ => trivial) (fun _ _ => trivial) h
/-- cells of the tape and of the image are the same -/
theorem FS.mv {x n n' len len' : Nat} {w w' v : Nat → Int} {tb tb' : Nat → Nat} {i f : Int} {S S' : MS} (h : FS S x n w tb len i v f) (hC : CI S' x n' w') (hT : TW S' (x+2) tb' len') (h20 : ∀ a, x + 20 ≤ a → a < x + 28 → S'.I a = S.I a) (h13 : S'.I x 13 = S.I x 13) (h14 : S'.I x 14 = S.I x 14) : FS S' x n' w' tb' len' i v f := by
  obtain ⟨-, -, ⟨i1, i2, i3⟩, f1, f2⟩ := h
  refine ⟨hC, hT, ⟨by rw [h13]; exact i1, i2, fun z => ?_⟩, by rw [h14]; exact f1, f2⟩
  obtain ⟨m, hm⟩ := i3 z
  exact ⟨m, ss_I hm hC.1.2.2.2.2.2.1 (fun a h1 h2 => h20 a (by omega) (by omega))⟩
theorem tw_I {a len : Nat} {tb : Nat → Nat} {S S' : MS} (h : TW S a tb len) (h0 : S'.I a 1 = S.I a 1) (h1 : S'.I (a+1) = S.I (a+1)) : TW S' a tb len := by
  refine ⟨by rw [h0]; exact h.1, h.2.1, fun i hi => ?_⟩
  rw [h1]
  exact h.2.2 i hi
theorem FS.g {x n n' len e : Nat} {A B : Nat → Prop} {w w' v : Nat → Int} {tb : Nat → Nat} {i f : Int} {S S' : MS} (h : FS S x n w tb len i v f) (g : CG x A B e S S') (hC : CI S' x n' w') (hA : ∀ a, A a → x + 4 ≤ a ∧ ¬ (x + 20 ≤ a ∧ a < x + 28)) (hB : ∀ k, B k → k = 12) : FS S' x n' w' tb len i v f := by
  refine h.mv hC (tw_I h.2.1 ?_ ?_) (fun a h1 h2 => g.2.1 a (by omega) (by omega) (fun z => ?_)) (g.2.2.1 13 (fun z => ?_)) (g.2.2.1 14 (fun z => ?_))
  · rw [g.2.1 (x+2) (by omega) (by omega) (fun z => by have := hA _ z; omega)]
  · exact g.2.1 (x+2+1) (by omega) (by omega) (fun z => by have := hA _ z; omega)
  · have := hA _ z; omega
  · have := hB _ z; omega
  · have := hB _ z; omega
theorem FS.j {x n len : Nat} {w v : Nat → Int} {tb : Nat → Nat} {i f : Int} {S S' : MS} (h : FS S x n w tb len i v f) (g : CJ x S S') (hC : CI S' x n w) : FS S' x n w tb len i v f := h.g g.g hC (fun a z => z.elim) (fun k z => z)
theorem FS.jt {x n len : Nat} {w v : Nat → Int} {tb : Nat → Nat} {i f : Int} {S S' : MS} (h : FS S x n w tb len i v f) (g : CJt x S S') (hC : CI S' x n w) : FS S' x n w tb 0 i v f ∧ CG x tA tA 1 S S' := by
  refine ⟨h.mv hC ⟨g.2.2.2.2.2.2, Nat.zero_le _, fun i hi => absurd hi (Nat.not_lt_zero i)⟩ (fun a h1 h2 => g.2.1 a (by omega) (by omega) (by omega)) (g.2.2.1 13 (by decide)) (g.2.2.1 14 (by decide)), g.1, fun a _ _ z => absurd trivial z, fun k z => absurd trivial z, g.2.2.2.1, g.2.2.2.2.1, g.2.2.2.2.2.1.1, g.2.2.2.2.2.1.2⟩
theorem FS.st {x n n' len e : Nat} {w w' v : Nat → Int} {tb : Nat → Nat} {i f : Int} {S S' : MS} (h : FS S x n w tb len i v f) (g : CG x (stA_ x) b12 e S S') (hC : CI S' x n' w') : FS S' x n' w' tb len i v f := h.g g hC (fun a z => ⟨by have := z.1; omega, fun y => by have := z.2; omega⟩) (fun k z => z)
/-! the tape is fed -/
theorem fdT_at {tb : Nat → Nat} {len k j : Nat} {a : Nat → Int} (hj : j < 4) : fdT tb len a (len + 4 * k + j) = byt (a k) j := by
  unfold fdT
  rw [if_neg (by omega), show (len + 4 * k + j - len) / 4 = k by omega, show (len + 4 * k + j - len) % 4 = j by omega]
theorem q_feed {d x n len : Nat} {w v : Nat → Int} {tb : Nat → Nat} {i f : Int} {a b c e g : Int} {S : MS} {Q : Out → MS → Prop} (hd : 2 ≤ d) (h : FS S x n w tb len i v f) (h0 : 400 < len + 20 → Q (.inl (some (vI (-1)))) S) (h1 : len + 20 ≤ 400 → ∀ S', FS S' x n w (fdT tb len (arg5 a b c e g)) (len + 20) i v f → CG x tA tA 1 S S' → Q (.inl (some (vI ((len + 20 : Nat) : Int)))) S') : Mw hX10_feed yX10_feed d [vA x, vI a, vI b, vI c, vI e, vI g] S Q := by
  have hC := h.1
  have hX := hC.1
  have hW := h.2.1
  have hY := hX.2.2.2.2.1
  have hlen := hW.2.1
  have kk : ∀ {S' : MS}, Fi (x+2) (x+2+2) S S' → S'.K x = 10 ∧ S'.R x 1 = some (x+2) ∧ S'.K (x+2) = 8 ∧ TY S' (x+2) := fun F => ⟨by rw [F.1]; exact hX.1, by rw [F.2.2.1]; exact hX.2.1.2.1, by rw [F.1]; exact hY.1, F.ty hY⟩
  have fe : ∀ k j, j < 4 → fdT tb len (arg5 a b c e g) (len + 4 * k + j) = byt (arg5 a b c e g k) j := fun k j hj => fdT_at hj
  obtain ⟨dd, rfl⟩ : ∃ e, d = e + 1 := ⟨d - 1, by omega⟩
  refine MX10_feed ?_
  unfold VX10_feed_0
  refine ⟨hX.1, x+2, hX.2.1.2.1, hY.1, ?_⟩
  rw [hW.1]
  refine ⟨⟨(by unfold R32; omega), (by unfold R32; omega)⟩, fun c1 => ⟨hX.1, x+2, hX.2.1.2.1, hY.1, ?_⟩, fun c1 => h0 (by omega)⟩
  refine k_put (tb := tb) (tb' := fdT tb len (arg5 a b c e g)) (by omega) hY hW (by omega) (fun i hi => by unfold fdT; rw [if_pos hi]) (fun j hj => fe 0 j hj) (fun S1 f1 w1 => oV_i ?_)
  obtain ⟨a1, a2, a3, a4⟩ := kk f1
  refine ⟨a1, x+2, a2, a3, ?_⟩
  refine k_put (tb' := fdT tb len (arg5 a b c e g)) (by omega) a4 w1 (by omega) (fun i hi => rfl) (fun j hj => fe 1 j hj) (fun S2 f2 w2 => oV_i ?_)
  have F2 := f1.tr f2
  obtain ⟨a1, a2, a3, a4⟩ := kk F2
  refine ⟨a1, x+2, a2, a3, ?_⟩
  refine k_put (tb' := fdT tb len (arg5 a b c e g)) (by omega) a4 w2 (by omega) (fun i hi => rfl) (fun j hj => fe 2 j hj) (fun S3 f3 w3 => oV_i ?_)
  have F3 := F2.tr f3
  obtain ⟨a1, a2, a3, a4⟩ := kk F3
  refine ⟨a1, x+2, a2, a3, ?_⟩
  refine k_put (tb' := fdT tb len (arg5 a b c e g)) (by omega) a4 w3 (by omega) (fun i hi => rfl) (fun j hj => fe 3 j hj) (fun S4 f4 w4 => oV_i ?_)
  have F4 := F3.tr f4
  obtain ⟨a1, a2, a3, a4⟩ := kk F4
  refine ⟨a1, x+2, a2, a3, ?_⟩
  refine k_put (tb' := fdT tb len (arg5 a b c e g)) (by omega) a4 w4 (by omega) (fun i hi => rfl) (fun j hj => fe 4 j hj) (fun S5 f5 w5 => oV_i ?_)
  have F5 := F4.tr f5
  obtain ⟨a1, a2, a3, a4⟩ := kk F5
  refine ⟨a1, x+2, a2, a3, ?_⟩
  rw [w5.1]
  have C5 := hC.low F5 (by omega) (by omega)
  refine h1 (by omega) S5 (h.mv C5 w5 (fun a z1 z2 => F5.I (by omega)) (by rw [F5.I (by omega)]) (by rw [F5.I (by omega)])) ((F5.g (A := tA) (B := tA) (by omega) (by omega) (fun _ _ _ _ => trivial)).t (by omega))
theorem q_end {d x n len : Nat} {w v : Nat → Int} {tb : Nat → Nat} {i f : Int} {u : Int} {S : MS} {Q : Out → MS → Prop} (hd : 1 ≤ d) (h : FS S x n w tb len i v f) (hu : R32 u) (h0 : ¬ (0 ≤ u ∧ u ≤ (len : Int)) → Q (.inl (some (vI 0))) S) (h1 : (0 ≤ u ∧ u ≤ (len : Int)) → ∀ S', FS S' x n w tb u.toNat i v f → CG x tA tA 1 S S' → Q (.inl (some (vI 1))) S') : Mw hX10_end yX10_end d [vA x, vI u] S Q := by
  have hC := h.1
  have hX := hC.1
  have hW := h.2.1
  have hY := hX.2.2.2.2.1
  have hlen := hW.2.1
  obtain ⟨dd, rfl⟩ : ∃ e, d = e + 1 := ⟨d - 1, by omega⟩
  refine MX10_end ?_
  unfold VX10_end_0
  refine ⟨hu, fun c => ⟨b01_0, h0 (by omega)⟩, fun c => ⟨hX.1, x+2, hX.2.1.2.1, hY.1, ?_⟩⟩
  rw [hW.1]
  refine ⟨⟨hu, (by unfold R32; omega)⟩, fun c1 => ⟨hX.1, x+2, hX.2.1.2.1, hY.1, b01_1, ?_⟩, fun c1 => ⟨b01_0, h0 (by omega)⟩⟩
  have F : Fi (x+2) (x+3) S (S.setI (x+2) 1 u) := Fi.sI (by omega)
  refine h1 (by omega) _ (h.mv (hC.low F (by omega) (by omega)) ⟨by rw [sI_I, if_pos ⟨rfl, rfl⟩]; omega, by omega, fun j hj => ?_⟩ (fun a z1 z2 => F.I (by omega)) (by rw [F.I (by omega)]) (by rw [F.I (by omega)])) ((F.g (A := tA) (B := tA) (by omega) (by omega) (fun _ _ _ _ => trivial)).t (by omega))
  rw [F.I (by omega)]
  exact hW.2.2 j (by omega)
theorem q_fault {d x n len : Nat} {w v : Nat → Int} {tb : Nat → Nat} {i f : Int} {S : MS} {Q : Out → MS → Prop} (hd : 1 ≤ d) (h : FS S x n w tb len i v f) (h0 : Q (.inl (some (vI f))) S) : Mw hX10_fault yX10_fault d [vA x] S Q := by
  obtain ⟨dd, rfl⟩ : ∃ e, d = e + 1 := ⟨d - 1, by omega⟩
  refine MX10_fault ?_
  unfold VX10_fault_0
  refine ⟨h.1.1.1, ?_⟩
  rw [h.2.2.2.1]
  exact h0
theorem q_image {d x n len : Nat} {w v : Nat → Int} {tb : Nat → Nat} {i f : Int} {S : MS} {Q : Out → MS → Prop} (hd : 2 ≤ d) (h : FS S x n w tb len i v f) (h0 : ∀ S', FS S' x n w tb len 1 w f → CG x tA tA 1 S S' → Q (.inl none) S') : Mw hX10_image yX10_image d [vA x] S Q := by
  have hC := h.1
  have hX := hC.1
  obtain ⟨dd, rfl⟩ : ∃ e, d = e + 1 := ⟨d - 1, by omega⟩
  refine MX10_image ?_
  unfold VX10_image_0
  refine ⟨hX.1, x+20, hX.2.1.2.2.2.1, hX.1, x+12, hX.2.1.2.2.1, hX.2.2.2.2.2.1.1, k_takeOver (by omega) hX.2.2.2.2.2.1 hC.2.1 (by omega) (fun S1 f1 s1 => oV_i ⟨⟨by rw [f1.1]; exact hX.1, b01_1⟩, ?_⟩)⟩
  have i1 : ∀ a, a ≠ x → (a < x + 20 ∨ x + 20 + 8 ≤ a) → (S1.setI x 13 1).I a = S.I a := fun a z1 z2 => by rw [sI_Ia z1, f1.I z2]
  have ix : ∀ k, k ≠ 13 → (S1.setI x 13 1).I x k = S.I x k := fun k z => by rw [sI_I, if_neg (fun y => z y.2), f1.I (by omega)]
  have C1 : CI (S1.setI x 13 1) x n w := hC.all (by show S1.K = _; rw [f1.1]) (by show S1.N = _; rw [f1.2.1]) (by show S1.R = _; rw [f1.2.2.1]) (by show S1.nx = _; rw [f1.2.2.2.2.1]) (fun a z => ⟨i1 a (by omega) (by omega), by show S1.J a = _; rw [f1.J (by omega)]⟩) (ix 12 (by decide))
  refine h0 _ ⟨C1, tw_I h.2.1 (by rw [i1 _ (by omega) (by omega)]) (by rw [i1 _ (by omega) (by omega)]), ⟨by rw [sI_I, if_pos ⟨rfl, rfl⟩], Or.inr rfl, fun _ => ⟨n, ss_I s1 C1.1.2.2.2.2.2.1 (fun a z1 z2 => by rw [sI_Ia (by omega)])⟩⟩, by rw [ix 14 (by decide)]; exact h.2.2.2.1, h.2.2.2.2⟩ (((f1.g (A := tA) (B := tA) (by omega) (by omega) (fun _ _ _ _ => trivial)).tr (CG.sx trivial)).t (by omega))
theorem q_back {d x n len : Nat} {w v : Nat → Int} {tb : Nat → Nat} {i f : Int} {S : MS} {Q : Out → MS → Prop} (hd : 2 ≤ d) (h : FS S x n w tb len i v f) (h0 : i = 0 → Q (.inl (some (vI 0))) S) (h1 : i = 1 → ∀ S' n', FS S' x n' v tb len i v f → CG x tA tA 1 S S' → Q (.inl (some (vI 1))) S') : Mw hX10_back yX10_back d [vA x] S Q := by
  have hC := h.1
  have hX := hC.1
  obtain ⟨i1, i2, i3⟩ := h.2.2.1
  obtain ⟨dd, rfl⟩ : ∃ e, d = e + 1 := ⟨d - 1, by omega⟩
  refine MX10_back ?_
  unfold VX10_back_0
  refine ⟨hX.1, ?_⟩
  rw [i1]
  refine ⟨(by unfold R32; omega), fun c => ?_, fun c => ⟨b01_0, h0 c⟩⟩
  have e1 : i = 1 := by omega
  obtain ⟨m, hm⟩ := i3 e1
  refine ⟨hX.1, x+12, hX.2.1.2.2.1, hX.1, x+20, hX.2.1.2.2.2.1, hC.2.1.1.1, k_takeOver (by omega) hC.2.1.1 hm (by omega) (fun S1 f1 s1 => oV_i ⟨⟨by rw [f1.1]; exact hX.1, b01_0⟩, b01_1, ?_⟩)⟩
  have j1 : ∀ a, a ≠ x → (a < x + 12 ∨ x + 12 + 8 ≤ a) → (S1.setI x 12 0).I a = S.I a := fun a z1 z2 => by rw [sI_Ia z1, f1.I z2]
  have jx : ∀ k, k ≠ 12 → (S1.setI x 12 0).I x k = S.I x k := fun k z => by rw [sI_I, if_neg (fun y => z y.2), f1.I (by omega)]
  have C1 : CI (S1.setI x 12 0) x m v := hC.mut (by show S1.K = _; rw [f1.1]) (by show S1.N = _; rw [f1.2.1]) (by show S1.R = _; rw [f1.2.2.1]) (by show S1.nx = _; rw [f1.2.2.2.2.1]) (fun a z1 z2 => ⟨j1 a z1 (by omega), by show S1.J a = _; rw [f1.J (by omega)]⟩) (by rw [sI_I, if_pos ⟨rfl, rfl⟩]) ((Fi.sI (lo := x) (hi := x+1) (by omega) : Fi x (x+1) S1 (S1.setI x 12 0)).ss (by omega) s1)
  refine h1 e1 _ m (h.mv C1 (tw_I h.2.1 (by rw [j1 _ (by omega) (by omega)]) (by rw [j1 _ (by omega) (by omega)])) (fun a z1 z2 => j1 a (by omega) (by omega)) (jx 13 (by decide)) (jx 14 (by decide))) (((f1.g (A := tA) (B := tA) (by omega) (by omega) (fun _ _ _ _ => trivial)).tr (CG.sx trivial)).t (by omega))
/-! one who has grown -/
theorem kf_grown {d x n t : Nat} {w : Nat → Int} {Q : Out → MS → Prop} {S0 : MS} (hd : 1 ≤ d) (hC : CI S0 x n w) (ht : t < n) (h : ∀ S' u, CI S' x n u → CG x (stA_ x) b12 0 S0 S' → GW n u → SmHd w u → ntL u = (ntL w).filter (ntK t) → Q (.inl (some (vI (((ntL w).length : Int) - ((ntL w).filter (ntK t)).length)))) S') : ∀ (j : Nat) {S : MS} {u : Nat → Int}, Fi (x+12) (x+12+8) S0 S → SS S (x+12) n u → SmHd w u → j ≤ nN w → ntL u = (ntL w).take j ++ ((ntL w).drop j).filter (ntK t) → VX10_grown_17 d Q (j + 1) x (t : Nat) ((nN w : Nat) : Int) ((j : Int) - 1) S := by
  have hX := hC.1
  have h7 := hC.2.1.2.2.1.2.1
  have p7 := p2_7 h7
  intro j
  induction j with
  | zero =>
    intro S u F hS hh hj hl
    have C1 : CI (S.setI x 12 0) x n u := hC.mut (by show S.K = _; rw [F.1]) (by show S.N = _; rw [F.2.1]) (by show S.R = _; rw [F.2.2.1]) (by show S.nx = _; rw [F.2.2.2.2.1]) (fun a z1 z2 => ⟨by rw [sI_Ia z1, F.I (by omega)], by show S.J a = _; rw [F.J (by omega)]⟩) (by rw [sI_I, if_pos ⟨rfl, rfl⟩]) ((Fi.sI (lo := x) (hi := x+1) (by omega) : Fi x (x+1) S (S.setI x 12 0)).ss (by omega) hS)
    have e9 := C1.i8.2.1
    unfold VX10_grown_17
    refine ⟨(by unfold R32; omega), fun _ => ⟨⟨by rw [F.1]; exact hX.1, b01_0⟩, C1.1.1, x+12, C1.1.2.1.2.2.1, C1.2.1.1.1, ?_⟩, fun c => by omega⟩
    rw [List.take_zero, List.nil_append, List.drop_zero] at hl
    have := h _ u C1 ((F.g (A := stA_ x) (B := b12) (by omega) (by omega) (fun a z1 z2 _ => ⟨z1, by omega⟩)).tr (CG.sx (A := stA_ x) (B := b12) rfl)) hS.2.2 hh hl
    rw [← hl, ntL_len, ntL_len] at this
    rw [e9]
    exact this
  | succ j ih =>
    intro S u F hS hh hj hl
    have g2 := hS.2.2.2.2.1
    have hlen : (ntL w).length = nN w := ntL_len w
    have lt : j < (ntL w).length := by omega
    have tl : ((ntL w).take (j + 1)).length = j + 1 := by rw [List.length_take]; omega
    have un : j < nN u := by
      rw [← ntL_len, hl, List.length_append, tl]
      omega
    have ex : (ntL w)[j]? = some (nt3 u j) := by
      rw [← ntL_get un, hl, List.getElem?_append_left (by omega), List.getElem?_take, if_pos (by omega)]
    have et : (ntL w).take (j + 1) = (ntL w).take j ++ [nt3 u j] := by
      rw [List.take_succ, ex]
      rfl
    have ed : (ntL w).drop j = nt3 u j :: (ntL w).drop (j + 1) := by
      rw [List.drop_eq_getElem_cons lt]
      congr 1
      rw [List.getElem?_eq_getElem lt] at ex
      exact Option.some.inj ex
    have tj : ((ntL w).take j).length = j := by rw [List.length_take]; omega
    have a := hS.2.2.nt un
    have wn := (hS.2.1.2.2.2 j un).2.1
    have hl' := hS.1
    unfold SY at hl'
    have xx : S.K x = 10 := by rw [F.1]; exact hX.1
    have x2 : S.R x 2 = some (x+12) := by rw [F.2.2.1]; exact hX.2.1.2.2.1
    unfold VX10_grown_17
    refine ⟨(by unfold R32; omega), fun c => by omega, fun _ => ⟨xx, x+12, x2, hl'.1, _, hl'.2.1.2.2.2.2.2.1, ⟨hl'.2.2.1.2.2.2.2.2.1, by omega, by rw [hl'.2.2.2.2.2.2.2.2.1]; omega⟩, ?_⟩⟩
    rw [show (((j + 1 : Nat) : Int) - 1).toNat = j by omega, wn, a.2.1.1, show ((j + 1 : Nat) : Int) - 1 = (j : Int) by omega]
    refine c_holds (by omega) rfl rfl (by omega) (by omega) (fun q hq => oI_i ⟨hq.r, fun c => ?_, fun c => ⟨xx, x+12, x2, hl'.1, k_putAway (by omega) hS rfl un (fun S1 f1 s1 => oV_i ?_)⟩⟩)
    · have hb : ntK t (nt3 u j) = true := by
        show (!((nX u j).testBit t)) = true
        rcases hq with ⟨rfl, -⟩ | ⟨-, k⟩
        · omega
        · simp at k; simp [k]
      unfold VX10_grown_45
      have := ih F hS hh (by omega) (by
        rw [hl, et, ed]
        simp [List.filter_cons, hb])
      exact this
    · have hb : ntK t (nt3 u j) = false := by
        show (!((nX u j).testBit t)) = false
        rcases hq with ⟨-, k⟩ | ⟨rfl, -⟩
        · simp [k]
        · omega
      unfold VX10_grown_45
      have := ih (F.tr f1) s1 (fun q h1 h2 => (drop_hd q h1 h2).trans (hh q h1 h2)) (by omega) (by
        rw [drop_ntL hS.2.2 un, hl, et, ed, List.append_assoc, List.eraseIdx_append_of_length_le (by omega), tj, Nat.sub_self]
        simp [List.filter_cons, hb])
      exact this
theorem q_grown {d x n : Nat} {w : Nat → Int} {t : Int} {S : MS} {Q : Out → MS → Prop} (hd : 7 ≤ d) (hC : CI S x n w) (ht : R32 t) (h0 : (0 ≤ t ∧ t < (n : Int)) → ∀ S' u, CI S' x n u → CG x (stA_ x) b12 0 S S' → GW n u → SmHd w u → ntL u = (ntL w).filter (ntK t.toNat) → Q (.inl (some (vI (((ntL w).length : Int) - ((ntL w).filter (ntK t.toNat)).length)))) S') (h1 : ¬ (0 ≤ t ∧ t < (n : Int)) → ∀ S', CI S' x n w → CG x (stA_ x) b12 1 S S' → Q (.inr iob) S') : Mw hX10_grown yX10_grown d [vA x, vI t] S Q := by
  have hX := hC.1
  have hx := hC.2.2.2.1.1
  have i8 := hC.i8
  obtain ⟨dd, rfl⟩ : ∃ e, d = e + 1 := ⟨d - 1, by omega⟩
  refine MX10_grown ?_
  unfold VX10_grown_0
  refine ⟨hX.1, k_needThing (by omega) hC ht (fun c => xV_i ⟨hX.1, x+12, hX.2.1.2.2.1, hC.2.1.1.1, ?_⟩) (fun c => xV_x (h1 c _ hC.junk (CG.rf.jk hx)))⟩
  rw [i8.2.1]
  have := kf_grown (d := dd) (t := t.toNat) (Q := Q) (by omega) hC (by omega) (h0 c) (nN w) Fi.rf hC.2.1 (fun _ _ _ => rfl) (Nat.le_refl _) (by rw [← ntL_len, List.take_length, List.drop_length]; simp)
  rw [show ((t.toNat : Nat) : Int) = t by omega] at this
  exact ⟨_, this⟩
