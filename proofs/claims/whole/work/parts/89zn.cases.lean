/-! the law's calls -/
def SC (x0 : Nat) (S : MS) (x4 : Int) : Prop := (x0 = S.T 16 ∧ S.T 17 < 2147483648) ∧ 0 ≤ x4 ∧ x4 + 6 ≤ (S.T 17 : Int)
theorem SC.k {x0 : Nat} {S S' : MS} {x4 : Int} (h : SC x0 S x4) (e : S'.T = S.T) (j : Int) (h0 : 0 ≤ j) (h1 : j < 6) : (x0 = S'.T 16 ∧ S'.T 17 < 2147483648) ∧ 0 ≤ (x4 + j) ∧ (x4 + j) < (S'.T 17 : Int) := by
  rw [e]
  exact ⟨h.1, by have := h.2.1; omega, by have := h.2.2; omega⟩
theorem scr_T {S S' : MS} (e : S'.T = S.T) (i : Int) : scr S' i = scr S i := by unfold scr; rw [e]
theorem r32_scr {S : MS} {i : Int} : R32 (scr S i) := ⟨Int32.le_toInt _, Int32.toInt_lt _⟩
theorem CO.o {x : Nat} {S : MS} (h : CO S x) : S.K (x+196) = 14 ∧ S.N (x+196) = 1 := by
  obtain ⟨_, _, _, _, _, _, z⟩ := h
  exact z
theorem CQ.md {x : Nat} {S S' : MS} (h : CQ x S S') : MD x S S' := h.g.md (by omega)
theorem FS.q {x n len : Nat} {w v : Nat → Int} {tb : Nat → Nat} {i f : Int} {S S' : MS} (h : FS S x n w tb len i v f) (g : CQ x S S') (hC : CI S' x n w) : FS S' x n w tb len i v f := h.g g.g hC (fun a z => z.elim) (fun k z => z)
theorem rows_same {n : Nat} {u w : Nat → Int} (hg : GW n w) (en : nN u = nN w) (es : ∀ q, 11 ≤ q → q < 23 → u q = w q) (e3 : ∀ i, i < nN w → nt3 u i = nt3 w i) : rowsL n u 0 = rowsL n w 0 := by
  have g1 := hg.2.1
  unfold rowsL
  refine List.filter_congr (fun r _ => ?_)
  unfold fitR
  rw [en]
  refine allB_cong (fun s hs => ?_)
  have el : lie u s = lie w s := by unfold lie; rw [es _ (by omega) (by omega)]
  rw [el, misC_cg (w := w) (fun i hi => ?_)]
  have c := e3 i hi
  unfold nt3 at c
  simp only [Prod.mk.injEq] at c
  have hs' := (hg.nt hi).1.2
  refine ⟨c.1, ?_⟩
  unfold fitN
  rw [c.1, c.2.1, c.2.2]
  have ek : kd u (nS w i) = kd w (nS w i) := by unfold kd; rw [es _ (by omega) (by omega)]
  rw [ek]
theorem CI.cg {x n : Nat} {u w : Nat → Int} {S : MS} (h : CI S x n w) (e : ∀ q, q < 71 → u q = w q) : CI S x n u := by
  have hg := h.2.1.2.2
  have g2 := hg.2.2.1
  refine h.keep Fi.rf (h.2.1.cong e) (rows_same hg (by unfold nN; rw [e 2 (by decide)]) (fun q _ _ => e q (by omega)) (fun i hi => ?_))
  unfold nt3 nS nX nT
  rw [e _ (by omega), e _ (by omega), e _ (by omega)]
theorem CI.nt {x n : Nat} {u w : Nat → Int} {S : MS} (h : CI S x n w) (hu : GW n u) (hh : SmHd w u) (hl : ntL u = ntL w) : CI S x n u := by
  have en : nN u = nN w := by rw [← ntL_len, hl, ntL_len]
  refine h.keep Fi.rf (h.2.1.nt hu hh hl) (rows_same h.2.1.2.2 en (fun q h1 h2 => hh q (by omega) (by omega)) (fun i hi => ?_))
  have c1 := ntL_get (w := u) (i := i) (by omega)
  rw [hl, ntL_get hi] at c1
  exact (Option.some.inj c1).symm
theorem FS.cg {x n len : Nat} {w u v v' : Nat → Int} {tb : Nat → Nat} {i f : Int} {S : MS} (h : FS S x n w tb len i v f) (e : ∀ q, q < 71 → u q = w q) (e2 : i = 1 → ∀ q, q < 71 → v' q = v q) : FS S x n u tb len i v' f := by
  refine ⟨h.1.cg e, h.2.1, ⟨h.2.2.1.1, h.2.2.1.2.1, fun z => ?_⟩, h.2.2.2⟩
  obtain ⟨m, hm⟩ := h.2.2.1.2.2 z
  exact ⟨m, hm.cong (e2 z)⟩
theorem FS.nt {x n len : Nat} {w u v : Nat → Int} {tb : Nat → Nat} {i f : Int} {S : MS} (h : FS S x n w tb len i v f) (hu : GW n u) (hh : SmHd w u) (hl : ntL u = ntL w) : FS S x n u tb len i v f := ⟨h.1.nt hu hh hl, h.2⟩
theorem MD.e {x a : Nat} {S S' : MS} (h : MD x S S') (h1 : x + 176 ≤ a) (h2 : a < x + 196) : S'.I a = S.I a := (h.2.2.1 a h1 h2).1
theorem case_feed {d n : Nat} {Q : Out → MS → Prop} {x0 x : Nat} {x4 : Int} {S : MS} (hd : 45 ≤ d) (hc : CO S x) (hs : SC x0 S x4) (hC : ∀ S', CO S' x → LSt x S S' → VL_law_23 d Q n x0 x (x+176) (x+196) (x4 + 6) S') : ((x0 = S.T 16 ∧ S.T 17 < 2147483648) ∧ 0 ≤ (x4 + 1) ∧ (x4 + 1) < S.T 17) ∧ (((x0 = S.T 16 ∧ S.T 17 < 2147483648) ∧ 0 ≤ (x4 + 2) ∧ (x4 + 2) < S.T 17) ∧ (((x0 = S.T 16 ∧ S.T 17 < 2147483648) ∧ 0 ≤ (x4 + 3) ∧ (x4 + 3) < S.T 17) ∧ (((x0 = S.T 16 ∧ S.T 17 < 2147483648) ∧ 0 ≤ (x4 + 4) ∧ (x4 + 4) < S.T 17) ∧ (((x0 = S.T 16 ∧ S.T 17 < 2147483648) ∧ 0 ≤ (x4 + 5) ∧ (x4 + 5) < S.T 17) ∧ (S.K x = 10 ∧ Mw hX10_feed yX10_feed d [vA x, vI (scr S (x4 + 1)), vI (scr S (x4 + 2)), vI (scr S (x4 + 3)), vI (scr S (x4 + 4)), vI (scr S (x4 + 5))] S (oI (fun r1 S1 => ((x0 = S1.T 16 ∧ S1.T 17 < 2147483648) ∧ 0 ≤ (x4 + 1) ∧ (x4 + 1) < S1.T 17) ∧ (((x0 = S1.T 16 ∧ S1.T 17 < 2147483648) ∧ 0 ≤ (x4 + 2) ∧ (x4 + 2) < S1.T 17) ∧ (((x0 = S1.T 16 ∧ S1.T 17 < 2147483648) ∧ 0 ≤ (x4 + 3) ∧ (x4 + 3) < S1.T 17) ∧ (((x0 = S1.T 16 ∧ S1.T 17 < 2147483648) ∧ 0 ≤ (x4 + 4) ∧ (x4 + 4) < S1.T 17) ∧ (((x0 = S1.T 16 ∧ S1.T 17 < 2147483648) ∧ 0 ≤ (x4 + 5) ∧ (x4 + 5) < S1.T 17) ∧ (S1.K (x+176) = 11 ∧ Mw hX11_feed yX11_feed d [vA (x+176), vI (scr S1 (x4 + 1)), vI (scr S1 (x4 + 2)), vI (scr S1 (x4 + 3)), vI (scr S1 (x4 + 4)), vI (scr S1 (x4 + 5))] S1 (oI (fun r2 S2 => (R32 r1 ∧ R32 r2) ∧ ((r1 = r2) → VL_law_2634 d (VL_law_23 d Q n) Q x0 x (x+176) (x+196) x4 S2) ∧ (¬ (r1 = r2) → (0 : Int) = 1 ∧ Q (.inl (some (vI 0))) S2))))))))))))))) := by
  obtain ⟨k, tb, len, hI, hP, hF, ho⟩ := hc
  refine ⟨hs.k rfl 1 (by decide) (by decide), hs.k rfl 2 (by decide) (by decide), hs.k rfl 3 (by decide) (by decide), hs.k rfl 4 (by decide) (by decide), hs.k rfl 5 (by decide) (by decide), hF.1.1.1, q_feed (by omega) hF (fun z => oI_nm ⟨hs.k rfl 1 (by decide) (by decide), hs.k rfl 2 (by decide) (by decide), hs.k rfl 3 (by decide) (by decide), hs.k rfl 4 (by decide) (by decide), hs.k rfl 5 (by decide) (by decide), hI.1.1, c_feed (by omega) hI.1 hP (fun _ => oI_nm ?_) (fun y => by omega)⟩) (fun z S5 F5 G5 => oI_nm ?_)⟩
  · obtain ⟨C6, L6⟩ := co_q hI hP ho hF MD.rf (RQ.s0 (c := 0) hI.2.2)
    exact d_cmp (hC _ C6 L6)
  · have M5 := G5.md (Nat.le_refl _)
    have I5 := hI.md M5
    have w5 : S5.I (x+176+1) = S.I (x+176+1) := M5.e (by omega) (by omega)
    have et : ∀ j, scr S5 j = scr S j := scr_T M5.1
    refine ⟨hs.k M5.1 1 (by decide) (by decide), hs.k M5.1 2 (by decide) (by decide), hs.k M5.1 3 (by decide) (by decide), hs.k M5.1 4 (by decide) (by decide), hs.k M5.1 5 (by decide) (by decide), I5.1.1, ?_⟩
    simp only [et]
    refine c_feed (by omega) I5.1 (hP.md M5) (fun y => by omega) (fun _ S6 f6 t6 T6 => oI_nm ?_)
    obtain ⟨C6, L6⟩ := co_end (S := S) (n := k) ⟨f6.lay I5.1, by rw [f6.arr (by decide) (by decide)]; exact I5.2.1, f6.tbl (by decide) (by decide) (by decide) I5.2.2⟩ T6 (by
      rw [f6.arr (o := 1) (by decide) (by decide), f6.fld (k := 4) (by decide), f6.fld (k := 10) (by decide), f6.arr (o := 2) (by decide) (by decide), w5, M5.e (a := x+176) (by omega) (by omega), M5.e (a := x+176+2) (by omega) (by omega)]
      exact F5) M5 f6 (by decide) ho
    exact d_cmp (hC S6 C6 L6)
theorem case_end {d n : Nat} {Q : Out → MS → Prop} {x0 x : Nat} {x4 : Int} {S : MS} (hd : 45 ≤ d) (hc : CO S x) (hs : SC x0 S x4) (hC : ∀ S', CO S' x → LSt x S S' → VL_law_23 d Q n x0 x (x+176) (x+196) (x4 + 6) S') : ((x0 = S.T 16 ∧ S.T 17 < 2147483648) ∧ 0 ≤ (x4 + 1) ∧ (x4 + 1) < S.T 17) ∧ (S.K x = 10 ∧ Mw hX10_end yX10_end d [vA x, vI (scr S (x4 + 1))] S (oI (fun r3 S3 => ((x0 = S3.T 16 ∧ S3.T 17 < 2147483648) ∧ 0 ≤ (x4 + 1) ∧ (x4 + 1) < S3.T 17) ∧ (S3.K (x+176) = 11 ∧ Mw hX11_end yX11_end d [vA (x+176), vI (scr S3 (x4 + 1))] S3 (oI (fun r4 S4 => (R32 r3 ∧ R32 r4) ∧ ((r3 = r4) → VL_law_2634 d (VL_law_23 d Q n) Q x0 x (x+176) (x+196) x4 S4) ∧ (¬ (r3 = r4) → (0 : Int) = 1 ∧ Q (.inl (some (vI 0))) S4))))))) := by
  obtain ⟨k, tb, len, hI, hP, hF, ho⟩ := hc
  refine ⟨hs.k rfl 1 (by decide) (by decide), hF.1.1.1, q_end (by omega) hF r32_scr (fun z => oI_nm ⟨hs.k rfl 1 (by decide) (by decide), hI.1.1, c_end (by omega) hI.1 r32_scr hP.1 hP.2.1 (fun _ => oI_nm ?_) (fun y => absurd y z)⟩) (fun z S5 F5 G5 => oI_nm ?_)⟩
  · obtain ⟨C6, L6⟩ := co_q hI hP ho hF MD.rf (RQ.s0 (c := 0) hI.2.2)
    exact d_cmp (hC _ C6 L6)
  · have M5 := G5.md (Nat.le_refl _)
    have I5 := hI.md M5
    have w5 : S5.I (x+176+1) = S.I (x+176+1) := M5.e (by omega) (by omega)
    have et : ∀ j, scr S5 j = scr S j := scr_T M5.1
    have P5 := hP.md M5
    refine ⟨hs.k M5.1 1 (by decide) (by decide), I5.1.1, ?_⟩
    simp only [et]
    refine c_end (by omega) I5.1 r32_scr P5.1 P5.2.1 (fun y => absurd z y) (fun _ => oI_nm ?_)
    have f6 : Fr (x+176) [] [0, 6] S5 ((S5.setI (x+176) 0 0).setI (x+176) 6 (scr S (x4 + 1))) := (Fr.sB (by decide)).tr (Fr.sB (by decide))
    obtain ⟨C6, L6⟩ := co_end (S := S) (n := k) (tb := tb) (len := (scr S (x4 + 1)).toNat) ⟨f6.lay I5.1, by rw [f6.arr (by decide) (by decide)]; exact I5.2.1, f6.tbl (by decide) (by decide) (by decide) I5.2.2⟩ ⟨by rw [sI_I, if_pos ⟨rfl, rfl⟩]; omega, by have := P5.2.1; omega, fun i hi => by rw [f6.arr (by decide) (by decide)]; exact P5.2.2 i (by omega)⟩ (by
      rw [f6.arr (o := 1) (by decide) (by decide), f6.fld (k := 4) (by decide), f6.fld (k := 10) (by decide), f6.arr (o := 2) (by decide) (by decide), w5, M5.e (a := x+176) (by omega) (by omega), M5.e (a := x+176+2) (by omega) (by omega)]
      exact F5) M5 f6 (by decide) ho
    exact d_cmp (hC _ C6 L6)
theorem case_shed {d n : Nat} {Q : Out → MS → Prop} {x0 x : Nat} {x4 : Int} {S : MS} (hd : 45 ≤ d) (hc : CO S x) (hs : SC x0 S x4) (hC : ∀ S', CO S' x → LSt x S S' → VL_law_23 d Q n x0 x (x+176) (x+196) (x4 + 6) S') : Mw hL_shed yL_shed d [vA x, vA (x+196)] S (oI (fun r5 S5 => S5.K (x+176) = 11 ∧ Mw hX11_shed yX11_shed d [vA (x+176)] S5 (oI (fun r6 S6 => S6.K (x+176) = 11 ∧ Mw hX11_thrown yX11_thrown d [vA (x+176)] S6 (oI (fun r7 S7 => (R32 r7 ∧ R32 r5) ∧ ((r7 = r5) → R32 r5 ∧ (¬ (r5 = 0) → VL_law_391 d (VL_law_23 d Q n) Q x0 x (x+176) (x+196) x4 S7) ∧ ((r5 = 0) → (S7.K (x+196) = 14 ∧ 0 ≤ (0 : Int) ∧ (0 : Int) < S7.N (x+196)) ∧ (R32 (lCmp (S7.J (x+196) ((0 : Int)).toNat) (i2L r6)) ∧ (((lCmp (S7.J (x+196) ((0 : Int)).toNat) (i2L r6)) = 0) → VL_law_391 d (VL_law_23 d Q n) Q x0 x (x+176) (x+196) x4 S7) ∧ (¬ ((lCmp (S7.J (x+196) ((0 : Int)).toNat) (i2L r6)) = 0) → (0 : Int) = 1 ∧ Q (.inl (some (vI 0))) S7)))) ∧ (¬ (r7 = r5) → (0 : Int) = 1 ∧ Q (.inl (some (vI 0))) S7))))))) := by
  obtain ⟨k, tb, len, hI, hP, hF, ho⟩ := hc
  have hg := hI.2.1
  have hgu : GW k (dr0 (S.I (x+176+1)) (S.I (x+176+3))) := hg.cong (fun q hq => by unfold dr0; rw [if_pos hq])
  refine l_shed (u := dr0 (S.I (x+176+1)) (S.I (x+176+3))) (by omega) hF ho (fun q hq => by unfold dr0; rw [if_pos hq]) (fun g e S5 F5 M5 => oI_nm ?_) (fun w' e z S5 F5 M5 => oI_nm ?_) (fun w' n' e z S5 F5 M5 J5 => oI_nm ?_)
  · have I5 := hI.md M5
    have w5 : S5.I (x+176+1) = S.I (x+176+1) := M5.e (by omega) (by omega)
    have d5 : S5.I (x+176+3) = S.I (x+176+3) := M5.e (by omega) (by omega)
    have e4 : S5.I (x+176) = S.I (x+176) := M5.e (by omega) (by omega)
    have e2 : S5.I (x+176+2) = S.I (x+176+2) := M5.e (by omega) (by omega)
    have hw3 : ∀ w', pText tb len (dr0 (S5.I (x+176+1)) (S5.I (x+176+3))) = .inr w' → w' 3 = S5.I (x+176+1) 3 := fun w' h => by
      rw [w5, d5] at h
      rw [w5]
      exact (pText_ok hgu h).2
    have tp0 : ∀ {S6 : MS}, RS (x+176) S5 S6 → Tp S6 (x+176) tb 0 := fun q6 => ⟨q6.2.2, Nat.zero_le _, fun i hi => absurd hi (Nat.not_lt_zero i)⟩
    have ru : ∀ {S6 : MS} {n' : Nat} {fa : Int}, RS (x+176) S5 S6 → S6.I (x+176) 10 = fa → FS S5 x n' (S6.I (x+176+1)) tb 0 (S.I (x+176) 4) (S.I (x+176+2)) fa → CO S6 x ∧ LSt x S S6 := fun q6 ea Fx => co_end ⟨q6.1.lay I5.1, Fx.1.2.1.2.2, q6.2.1⟩ (tp0 q6) (by
      rw [q6.1.fld (k := 4) (by decide), q6.1.arr (o := 2) (by decide) (by decide), e4, e2, ea]
      exact Fx) M5 q6.1 A1_20 ho
    refine ⟨I5.1.1, c_shed (by omega) I5 (hP.md M5) (fun f' e' S6 q6 t1 t0 t10 => oI_nm ⟨(q6.1.lay I5.1).1, c_thrown (by omega) (q6.1.lay I5.1) (oI_nm ?_)⟩) (fun w' e' => ?_) (fun w' e' => ?_) hw3⟩
    · rw [w5, d5, e] at e'
      cases e'
      obtain ⟨C6, L6⟩ := ru q6 t10 (by rw [t1, w5]; exact F5)
      exact h_cmp (A := (1, 0)) t0 r32_1 (fun z => absurd z (by decide)) C6.o (hC S6 C6 L6)
    · rw [w5, d5, e] at e'
      cases e'
    · rw [w5, d5, e] at e'
      cases e'
  · have I5 := hI.md M5
    have w5 : S5.I (x+176+1) = S.I (x+176+1) := M5.e (by omega) (by omega)
    have d5 : S5.I (x+176+3) = S.I (x+176+3) := M5.e (by omega) (by omega)
    have e4 : S5.I (x+176) = S.I (x+176) := M5.e (by omega) (by omega)
    have e2 : S5.I (x+176+2) = S.I (x+176+2) := M5.e (by omega) (by omega)
    have hw3 : ∀ w', pText tb len (dr0 (S5.I (x+176+1)) (S5.I (x+176+3))) = .inr w' → w' 3 = S5.I (x+176+1) 3 := fun w' h => by
      rw [w5, d5] at h
      rw [w5]
      exact (pText_ok hgu h).2
    have tp0 : ∀ {S6 : MS}, RS (x+176) S5 S6 → Tp S6 (x+176) tb 0 := fun q6 => ⟨q6.2.2, Nat.zero_le _, fun i hi => absurd hi (Nat.not_lt_zero i)⟩
    have ru : ∀ {S6 : MS} {n' : Nat} {fa : Int}, RS (x+176) S5 S6 → S6.I (x+176) 10 = fa → FS S5 x n' (S6.I (x+176+1)) tb 0 (S.I (x+176) 4) (S.I (x+176+2)) fa → CO S6 x ∧ LSt x S S6 := fun q6 ea Fx => co_end ⟨q6.1.lay I5.1, Fx.1.2.1.2.2, q6.2.1⟩ (tp0 q6) (by
      rw [q6.1.fld (k := 4) (by decide), q6.1.arr (o := 2) (by decide) (by decide), e4, e2, ea]
      exact Fx) M5 q6.1 A1_20 ho
    refine ⟨I5.1.1, c_shed (by omega) I5 (hP.md M5) (fun f' e' => ?_) (fun w'' e' z' S6 q6 t1 t0 t10 => oI_nm ⟨(q6.1.lay I5.1).1, c_thrown (by omega) (q6.1.lay I5.1) (oI_nm ?_)⟩) (fun w'' e' z' => ?_) hw3⟩
    · rw [w5, d5, e] at e'
      cases e'
    · obtain ⟨C6, L6⟩ := ru q6 t10 (by rw [t1, w5]; exact F5)
      exact h_cmp (A := (2, 0)) t0 (cdr2 (Or.inr (Or.inr rfl))) (fun z => absurd z (by decide)) C6.o (hC S6 C6 L6)
    · rw [w5] at z'
      exact absurd z z'
  · have I5 := hI.md M5
    have w5 : S5.I (x+176+1) = S.I (x+176+1) := M5.e (by omega) (by omega)
    have d5 : S5.I (x+176+3) = S.I (x+176+3) := M5.e (by omega) (by omega)
    have e4 : S5.I (x+176) = S.I (x+176) := M5.e (by omega) (by omega)
    have e2 : S5.I (x+176+2) = S.I (x+176+2) := M5.e (by omega) (by omega)
    have hw3 : ∀ w', pText tb len (dr0 (S5.I (x+176+1)) (S5.I (x+176+3))) = .inr w' → w' 3 = S5.I (x+176+1) 3 := fun w' h => by
      rw [w5, d5] at h
      rw [w5]
      exact (pText_ok hgu h).2
    have tp0 : ∀ {S6 : MS}, RS (x+176) S5 S6 → Tp S6 (x+176) tb 0 := fun q6 => ⟨q6.2.2, Nat.zero_le _, fun i hi => absurd hi (Nat.not_lt_zero i)⟩
    have ru : ∀ {S6 : MS} {n' : Nat} {fa : Int}, RS (x+176) S5 S6 → S6.I (x+176) 10 = fa → FS S5 x n' (S6.I (x+176+1)) tb 0 (S.I (x+176) 4) (S.I (x+176+2)) fa → CO S6 x ∧ LSt x S S6 := fun q6 ea Fx => co_end ⟨q6.1.lay I5.1, Fx.1.2.1.2.2, q6.2.1⟩ (tp0 q6) (by
      rw [q6.1.fld (k := 4) (by decide), q6.1.arr (o := 2) (by decide) (by decide), e4, e2, ea]
      exact Fx) M5 q6.1 A1_20 ho
    refine ⟨I5.1.1, c_shed (by omega) I5 (hP.md M5) (fun f' e' => ?_) (fun w'' e' z' => ?_) (fun w'' e' z' S6 q6 t1 t0 t10 => oI_nm ⟨(q6.1.lay I5.1).1, c_thrown (by omega) (q6.1.lay I5.1) (oI_nm ?_)⟩) hw3⟩
    · rw [w5, d5, e] at e'
      cases e'
    · rw [w5] at z'
      exact absurd z' z
    · rw [w5, d5, e] at e'
      cases e'
      rw [w5] at t1 ⊢
      obtain ⟨C6, L6⟩ := ru q6 t10 (F5.cg (fun q hq => t1 q hq) (fun _ _ _ => rfl))
      exact h_cmp (A := (0, S.I (x+176+1) 3 + 1)) t0 r32_0 (fun _ => by rw [q6.1.J]; exact J5) C6.o (hC S6 C6 L6)
theorem case_fault {d n : Nat} {Q : Out → MS → Prop} {x0 x : Nat} {x4 : Int} {S : MS} (hd : 45 ≤ d) (hc : CO S x) (hs : SC x0 S x4) (hC : ∀ S', CO S' x → LSt x S S' → VL_law_23 d Q n x0 x (x+176) (x+196) (x4 + 6) S') : S.K x = 10 ∧ Mw hX10_fault yX10_fault d [vA x] S (oI (fun r8 S8 => S8.K (x+176) = 11 ∧ Mw hX11_fault yX11_fault d [vA (x+176)] S8 (oI (fun r9 S9 => (R32 r8 ∧ R32 r9) ∧ ((r8 = r9) → VL_law_2634 d (VL_law_23 d Q n) Q x0 x (x+176) (x+196) x4 S9) ∧ (¬ (r8 = r9) → (0 : Int) = 1 ∧ Q (.inl (some (vI 0))) S9))))) := by
  obtain ⟨k, tb, len, hI, hP, hF, ho⟩ := hc
  refine ⟨hF.1.1.1, q_fault (by omega) hF (oI_nm ⟨hI.1.1, c_fault (by omega) hI.1 (oI_nm ?_)⟩)⟩
  obtain ⟨C6, L6⟩ := co_q hI hP ho hF MD.rf (RQ.s0 (c := 0) hI.2.2)
  exact d_cmp (hC _ C6 L6)
theorem case_things {d n : Nat} {Q : Out → MS → Prop} {x0 x : Nat} {x4 : Int} {S : MS} (hd : 45 ≤ d) (hc : CO S x) (hs : SC x0 S x4) (hC : ∀ S', CO S' x → LSt x S S' → VL_law_23 d Q n x0 x (x+176) (x+196) (x4 + 6) S') : ((x0 = S.T 16 ∧ S.T 17 < 2147483648) ∧ 0 ≤ (x4 + 1) ∧ (x4 + 1) < S.T 17) ∧ (Mw hL_things yL_things d [vA x, vI (scr S (x4 + 1))] S (oI (fun r10 S10 => ((x0 = S10.T 16 ∧ S10.T 17 < 2147483648) ∧ 0 ≤ (x4 + 1) ∧ (x4 + 1) < S10.T 17) ∧ (S10.K (x+176) = 11 ∧ Mw hX11_things_ yX11_things_ d [vA (x+176), vI (scr S10 (x4 + 1))] S10 (oV (fun S11 => S11.K (x+176) = 11 ∧ Mw hX11_thrown yX11_thrown d [vA (x+176)] S11 (oI (fun r12 S12 => (R32 r12 ∧ R32 r10) ∧ ((r12 = r10) → VL_law_2634 d (VL_law_23 d Q n) Q x0 x (x+176) (x+196) x4 S12) ∧ (¬ (r12 = r10) → (0 : Int) = 1 ∧ Q (.inl (some (vI 0))) S12))))))))) := by
  obtain ⟨k, tb, len, hI, hP, hF, ho⟩ := hc
  refine ⟨hs.k rfl 1 (by decide) (by decide), l_things (by omega) hF r32_scr (fun S5 n5 F5 M5 => oI_nm ?_)⟩
  have I5 := hI.md M5
  have w5 : S5.I (x+176+1) = S.I (x+176+1) := M5.e (by omega) (by omega)
  have et : ∀ j, scr S5 j = scr S j := scr_T M5.1
  refine ⟨hs.k M5.1 1 (by decide) (by decide), I5.1.1, ?_⟩
  simp only [et]
  refine c_things_ (by omega) I5 r32_scr (fun S6 q6 t6 => oV_i ⟨(q6.1.lay I5.1).1, c_thrown (by omega) (q6.1.lay I5.1) (oI_nm ?_)⟩)
  rw [w5] at q6 t6
  rw [t6]
  obtain ⟨C6, L6⟩ := co_u hI hP ho F5 M5 q6
  exact d_cmp (hC S6 C6 L6)
theorem case_scale {d n : Nat} {Q : Out → MS → Prop} {x0 x : Nat} {x4 : Int} {S : MS} (hd : 45 ≤ d) (hc : CO S x) (hs : SC x0 S x4) (hC : ∀ S', CO S' x → LSt x S S' → VL_law_23 d Q n x0 x (x+176) (x+196) (x4 + 6) S') : ((x0 = S.T 16 ∧ S.T 17 < 2147483648) ∧ 0 ≤ (x4 + 1) ∧ (x4 + 1) < S.T 17) ∧ (((x0 = S.T 16 ∧ S.T 17 < 2147483648) ∧ 0 ≤ (x4 + 2) ∧ (x4 + 2) < S.T 17) ∧ (((x0 = S.T 16 ∧ S.T 17 < 2147483648) ∧ 0 ≤ (x4 + 3) ∧ (x4 + 3) < S.T 17) ∧ (Mw hL_scale yL_scale d [vA x, vI (scr S (x4 + 1)), vI (scr S (x4 + 2)), vI (scr S (x4 + 3)), vA (x+196)] S (oI (fun r13 S13 => ((x0 = S13.T 16 ∧ S13.T 17 < 2147483648) ∧ 0 ≤ (x4 + 1) ∧ (x4 + 1) < S13.T 17) ∧ (((x0 = S13.T 16 ∧ S13.T 17 < 2147483648) ∧ 0 ≤ (x4 + 2) ∧ (x4 + 2) < S13.T 17) ∧ (((x0 = S13.T 16 ∧ S13.T 17 < 2147483648) ∧ 0 ≤ (x4 + 3) ∧ (x4 + 3) < S13.T 17) ∧ (S13.K (x+176) = 11 ∧ Mw hX11_scale yX11_scale d [vA (x+176), vI (scr S13 (x4 + 1)), vI (scr S13 (x4 + 2)), vI (scr S13 (x4 + 3))] S13 (oI (fun r14 S14 => S14.K (x+176) = 11 ∧ Mw hX11_thrown yX11_thrown d [vA (x+176)] S14 (oI (fun r15 S15 => (R32 r15 ∧ R32 r13) ∧ ((r15 = r13) → R32 r13 ∧ (¬ (r13 = 0) → VL_law_520 d (VL_law_23 d Q n) Q x0 x (x+176) (x+196) x4 S15) ∧ ((r13 = 0) → (S15.K (x+196) = 14 ∧ 0 ≤ (0 : Int) ∧ (0 : Int) < S15.N (x+196)) ∧ (R32 (lCmp (S15.J (x+196) ((0 : Int)).toNat) (i2L r14)) ∧ (((lCmp (S15.J (x+196) ((0 : Int)).toNat) (i2L r14)) = 0) → VL_law_520 d (VL_law_23 d Q n) Q x0 x (x+176) (x+196) x4 S15) ∧ (¬ ((lCmp (S15.J (x+196) ((0 : Int)).toNat) (i2L r14)) = 0) → (0 : Int) = 1 ∧ Q (.inl (some (vI 0))) S15)))) ∧ (¬ (r15 = r13) → (0 : Int) = 1 ∧ Q (.inl (some (vI 0))) S15))))))))))))) := by
  obtain ⟨k, tb, len, hI, hP, hF, ho⟩ := hc
  refine ⟨hs.k rfl 1 (by decide) (by decide), hs.k rfl 2 (by decide) (by decide), hs.k rfl 3 (by decide) (by decide), l_scale (by omega) hF ho r32_scr r32_scr r32_scr (fun S5 F5 M5 J5 => oI_nm ?_)⟩
  have I5 := hI.md M5
  have w5 : S5.I (x+176+1) = S.I (x+176+1) := M5.e (by omega) (by omega)
  have et : ∀ j, scr S5 j = scr S j := scr_T M5.1
  refine ⟨hs.k M5.1 1 (by decide) (by decide), hs.k M5.1 2 (by decide) (by decide), hs.k M5.1 3 (by decide) (by decide), I5.1.1, ?_⟩
  simp only [et]
  refine c_scale (by omega) I5 r32_scr r32_scr r32_scr (fun S6 q6 t6 => oI_nm ⟨(q6.1.lay I5.1).1, c_thrown (by omega) (q6.1.lay I5.1) (oI_nm ?_)⟩)
  rw [w5] at q6 t6 ⊢
  obtain ⟨C6, L6⟩ := co_u hI hP ho F5 M5 q6
  exact h_cmp t6 (cdr2 cd_scale) (fun z => by rw [q6.1.J]; exact J5 z) C6.o (hC S6 C6 L6)
theorem case_weight {d n : Nat} {Q : Out → MS → Prop} {x0 x : Nat} {x4 : Int} {S : MS} (hd : 45 ≤ d) (hc : CO S x) (hs : SC x0 S x4) (hC : ∀ S', CO S' x → LSt x S S' → VL_law_23 d Q n x0 x (x+176) (x+196) (x4 + 6) S') : ((x0 = S.T 16 ∧ S.T 17 < 2147483648) ∧ 0 ≤ (x4 + 1) ∧ (x4 + 1) < S.T 17) ∧ (((x0 = S.T 16 ∧ S.T 17 < 2147483648) ∧ 0 ≤ (x4 + 2) ∧ (x4 + 2) < S.T 17) ∧ (Mw hL_weight yL_weight d [vA x, vI (scr S (x4 + 1)), vI (scr S (x4 + 2)), vA (x+196)] S (oI (fun r16 S16 => ((x0 = S16.T 16 ∧ S16.T 17 < 2147483648) ∧ 0 ≤ (x4 + 1) ∧ (x4 + 1) < S16.T 17) ∧ (((x0 = S16.T 16 ∧ S16.T 17 < 2147483648) ∧ 0 ≤ (x4 + 2) ∧ (x4 + 2) < S16.T 17) ∧ (S16.K (x+176) = 11 ∧ Mw hX11_weight yX11_weight d [vA (x+176), vI (scr S16 (x4 + 1)), vI (scr S16 (x4 + 2))] S16 (oI (fun r17 S17 => S17.K (x+176) = 11 ∧ Mw hX11_thrown yX11_thrown d [vA (x+176)] S17 (oI (fun r18 S18 => (R32 r18 ∧ R32 r16) ∧ ((r18 = r16) → R32 r16 ∧ (¬ (r16 = 0) → VL_law_588 d (VL_law_23 d Q n) Q x0 x (x+176) (x+196) x4 S18) ∧ ((r16 = 0) → (S18.K (x+196) = 14 ∧ 0 ≤ (0 : Int) ∧ (0 : Int) < S18.N (x+196)) ∧ (R32 (lCmp (S18.J (x+196) ((0 : Int)).toNat) (i2L r17)) ∧ (((lCmp (S18.J (x+196) ((0 : Int)).toNat) (i2L r17)) = 0) → VL_law_588 d (VL_law_23 d Q n) Q x0 x (x+176) (x+196) x4 S18) ∧ (¬ ((lCmp (S18.J (x+196) ((0 : Int)).toNat) (i2L r17)) = 0) → (0 : Int) = 1 ∧ Q (.inl (some (vI 0))) S18)))) ∧ (¬ (r18 = r16) → (0 : Int) = 1 ∧ Q (.inl (some (vI 0))) S18))))))))))) := by
  obtain ⟨k, tb, len, hI, hP, hF, ho⟩ := hc
  refine ⟨hs.k rfl 1 (by decide) (by decide), hs.k rfl 2 (by decide) (by decide), l_weight (by omega) hF ho r32_scr r32_scr (fun S5 F5 M5 J5 => oI_nm ?_)⟩
  have I5 := hI.md M5
  have w5 : S5.I (x+176+1) = S.I (x+176+1) := M5.e (by omega) (by omega)
  have et : ∀ j, scr S5 j = scr S j := scr_T M5.1
  refine ⟨hs.k M5.1 1 (by decide) (by decide), hs.k M5.1 2 (by decide) (by decide), I5.1.1, ?_⟩
  simp only [et]
  refine c_weight (by omega) I5 r32_scr r32_scr (fun S6 q6 t6 => oI_nm ⟨(q6.1.lay I5.1).1, c_thrown (by omega) (q6.1.lay I5.1) (oI_nm ?_)⟩)
  rw [w5] at q6 t6 ⊢
  obtain ⟨C6, L6⟩ := co_u hI hP ho F5 M5 q6
  exact h_cmp t6 (cdr2 cd_weight) (fun z => by rw [q6.1.J]; exact J5 z) C6.o (hC S6 C6 L6)
theorem case_rises {d n : Nat} {Q : Out → MS → Prop} {x0 x : Nat} {x4 : Int} {S : MS} (hd : 45 ≤ d) (hc : CO S x) (hs : SC x0 S x4) (hC : ∀ S', CO S' x → LSt x S S' → VL_law_23 d Q n x0 x (x+176) (x+196) (x4 + 6) S') : ((x0 = S.T 16 ∧ S.T 17 < 2147483648) ∧ 0 ≤ (x4 + 1) ∧ (x4 + 1) < S.T 17) ∧ (((x0 = S.T 16 ∧ S.T 17 < 2147483648) ∧ 0 ≤ (x4 + 2) ∧ (x4 + 2) < S.T 17) ∧ (Mw hL_rises yL_rises d [vA x, vI (scr S (x4 + 1)), vI (scr S (x4 + 2)), vA (x+196)] S (oI (fun r19 S19 => ((x0 = S19.T 16 ∧ S19.T 17 < 2147483648) ∧ 0 ≤ (x4 + 1) ∧ (x4 + 1) < S19.T 17) ∧ (((x0 = S19.T 16 ∧ S19.T 17 < 2147483648) ∧ 0 ≤ (x4 + 2) ∧ (x4 + 2) < S19.T 17) ∧ (S19.K (x+176) = 11 ∧ Mw hX11_rises yX11_rises d [vA (x+176), vI (scr S19 (x4 + 1)), vI (scr S19 (x4 + 2))] S19 (oI (fun r20 S20 => S20.K (x+176) = 11 ∧ Mw hX11_thrown yX11_thrown d [vA (x+176)] S20 (oI (fun r21 S21 => (R32 r21 ∧ R32 r19) ∧ ((r21 = r19) → R32 r19 ∧ (¬ (r19 = 0) → VL_law_656 d (VL_law_23 d Q n) Q x0 x (x+176) (x+196) x4 S21) ∧ ((r19 = 0) → (S21.K (x+196) = 14 ∧ 0 ≤ (0 : Int) ∧ (0 : Int) < S21.N (x+196)) ∧ (R32 (lCmp (S21.J (x+196) ((0 : Int)).toNat) (i2L r20)) ∧ (((lCmp (S21.J (x+196) ((0 : Int)).toNat) (i2L r20)) = 0) → VL_law_656 d (VL_law_23 d Q n) Q x0 x (x+176) (x+196) x4 S21) ∧ (¬ ((lCmp (S21.J (x+196) ((0 : Int)).toNat) (i2L r20)) = 0) → (0 : Int) = 1 ∧ Q (.inl (some (vI 0))) S21)))) ∧ (¬ (r21 = r19) → (0 : Int) = 1 ∧ Q (.inl (some (vI 0))) S21))))))))))) := by
  obtain ⟨k, tb, len, hI, hP, hF, ho⟩ := hc
  refine ⟨hs.k rfl 1 (by decide) (by decide), hs.k rfl 2 (by decide) (by decide), l_rises (by omega) hF ho r32_scr r32_scr (fun S5 F5 M5 J5 => oI_nm ?_)⟩
  have I5 := hI.md M5
  have w5 : S5.I (x+176+1) = S.I (x+176+1) := M5.e (by omega) (by omega)
  have et : ∀ j, scr S5 j = scr S j := scr_T M5.1
  refine ⟨hs.k M5.1 1 (by decide) (by decide), hs.k M5.1 2 (by decide) (by decide), I5.1.1, ?_⟩
  simp only [et]
  refine c_rises (by omega) I5 r32_scr r32_scr (fun S6 q6 t6 => oI_nm ⟨(q6.1.lay I5.1).1, c_thrown (by omega) (q6.1.lay I5.1) (oI_nm ?_)⟩)
  rw [w5] at t6 ⊢
  obtain ⟨C6, L6⟩ := co_q hI hP ho F5 M5 q6
  exact h_cmp t6 (cdr2 cd_rises) (fun z => by rw [q6.1.J]; exact J5 z) C6.o (hC S6 C6 L6)
theorem case_note {d n : Nat} {Q : Out → MS → Prop} {x0 x : Nat} {x4 : Int} {S : MS} (hd : 45 ≤ d) (hc : CO S x) (hs : SC x0 S x4) (hC : ∀ S', CO S' x → LSt x S S' → VL_law_23 d Q n x0 x (x+176) (x+196) (x4 + 6) S') : ((x0 = S.T 16 ∧ S.T 17 < 2147483648) ∧ 0 ≤ (x4 + 1) ∧ (x4 + 1) < S.T 17) ∧ (((x0 = S.T 16 ∧ S.T 17 < 2147483648) ∧ 0 ≤ (x4 + 2) ∧ (x4 + 2) < S.T 17) ∧ (((x0 = S.T 16 ∧ S.T 17 < 2147483648) ∧ 0 ≤ (x4 + 3) ∧ (x4 + 3) < S.T 17) ∧ (Mw hL_note yL_note d [vA x, vI (scr S (x4 + 1)), vI (scr S (x4 + 2)), vI (scr S (x4 + 3)), vA (x+196)] S (oI (fun r22 S22 => ((x0 = S22.T 16 ∧ S22.T 17 < 2147483648) ∧ 0 ≤ (x4 + 1) ∧ (x4 + 1) < S22.T 17) ∧ (((x0 = S22.T 16 ∧ S22.T 17 < 2147483648) ∧ 0 ≤ (x4 + 2) ∧ (x4 + 2) < S22.T 17) ∧ (((x0 = S22.T 16 ∧ S22.T 17 < 2147483648) ∧ 0 ≤ (x4 + 3) ∧ (x4 + 3) < S22.T 17) ∧ (S22.K (x+176) = 11 ∧ Mw hX11_note yX11_note d [vA (x+176), vI (scr S22 (x4 + 1)), vI (scr S22 (x4 + 2)), vI (scr S22 (x4 + 3))] S22 (oI (fun r23 S23 => S23.K (x+176) = 11 ∧ Mw hX11_thrown yX11_thrown d [vA (x+176)] S23 (oI (fun r24 S24 => (R32 r24 ∧ R32 r22) ∧ ((r24 = r22) → R32 r22 ∧ (¬ (r22 = 0) → VL_law_736 d (VL_law_23 d Q n) Q x0 x (x+176) (x+196) x4 S24) ∧ ((r22 = 0) → (S24.K (x+196) = 14 ∧ 0 ≤ (0 : Int) ∧ (0 : Int) < S24.N (x+196)) ∧ (R32 (lCmp (S24.J (x+196) ((0 : Int)).toNat) (i2L r23)) ∧ (((lCmp (S24.J (x+196) ((0 : Int)).toNat) (i2L r23)) = 0) → VL_law_736 d (VL_law_23 d Q n) Q x0 x (x+176) (x+196) x4 S24) ∧ (¬ ((lCmp (S24.J (x+196) ((0 : Int)).toNat) (i2L r23)) = 0) → (0 : Int) = 1 ∧ Q (.inl (some (vI 0))) S24)))) ∧ (¬ (r24 = r22) → (0 : Int) = 1 ∧ Q (.inl (some (vI 0))) S24))))))))))))) := by
  obtain ⟨k, tb, len, hI, hP, hF, ho⟩ := hc
  refine ⟨hs.k rfl 1 (by decide) (by decide), hs.k rfl 2 (by decide) (by decide), hs.k rfl 3 (by decide) (by decide), l_note (by omega) hF ho r32_scr r32_scr r32_scr (fun S5 F5 M5 J5 => oI_nm ?_)⟩
  have I5 := hI.md M5
  have w5 : S5.I (x+176+1) = S.I (x+176+1) := M5.e (by omega) (by omega)
  have et : ∀ j, scr S5 j = scr S j := scr_T M5.1
  refine ⟨hs.k M5.1 1 (by decide) (by decide), hs.k M5.1 2 (by decide) (by decide), hs.k M5.1 3 (by decide) (by decide), I5.1.1, ?_⟩
  simp only [et]
  refine c_note (by omega) I5 r32_scr r32_scr r32_scr (fun S6 q6 t6 => oI_nm ⟨(q6.1.lay I5.1).1, c_thrown (by omega) (q6.1.lay I5.1) (oI_nm ?_)⟩)
  rw [w5] at q6 t6 ⊢
  obtain ⟨C6, L6⟩ := co_u hI hP ho F5 M5 q6
  exact h_cmp t6 (cdr3 cd_note) (fun z => by rw [q6.1.J]; exact J5 z) C6.o (hC S6 C6 L6)
theorem case_look {d n : Nat} {Q : Out → MS → Prop} {x0 x : Nat} {x4 : Int} {S : MS} (hd : 45 ≤ d) (hc : CO S x) (hs : SC x0 S x4) (hC : ∀ S', CO S' x → LSt x S S' → VL_law_23 d Q n x0 x (x+176) (x+196) (x4 + 6) S') : ((x0 = S.T 16 ∧ S.T 17 < 2147483648) ∧ 0 ≤ (x4 + 1) ∧ (x4 + 1) < S.T 17) ∧ (((x0 = S.T 16 ∧ S.T 17 < 2147483648) ∧ 0 ≤ (x4 + 2) ∧ (x4 + 2) < S.T 17) ∧ (Mw hL_look yL_look d [vA x, vI (scr S (x4 + 1)), vI (scr S (x4 + 2)), vA (x+196)] S (oI (fun r25 S25 => ((x0 = S25.T 16 ∧ S25.T 17 < 2147483648) ∧ 0 ≤ (x4 + 1) ∧ (x4 + 1) < S25.T 17) ∧ (((x0 = S25.T 16 ∧ S25.T 17 < 2147483648) ∧ 0 ≤ (x4 + 2) ∧ (x4 + 2) < S25.T 17) ∧ (S25.K (x+176) = 11 ∧ Mw hX11_look yX11_look d [vA (x+176), vI (scr S25 (x4 + 1)), vI (scr S25 (x4 + 2))] S25 (oI (fun r26 S26 => S26.K (x+176) = 11 ∧ Mw hX11_thrown yX11_thrown d [vA (x+176)] S26 (oI (fun r27 S27 => (R32 r27 ∧ R32 r25) ∧ ((r27 = r25) → R32 r25 ∧ (¬ (r25 = 0) → VL_law_804 d (VL_law_23 d Q n) Q x0 x (x+176) (x+196) x4 S27) ∧ ((r25 = 0) → (S27.K (x+196) = 14 ∧ 0 ≤ (0 : Int) ∧ (0 : Int) < S27.N (x+196)) ∧ (R32 (lCmp (S27.J (x+196) ((0 : Int)).toNat) (i2L r26)) ∧ (((lCmp (S27.J (x+196) ((0 : Int)).toNat) (i2L r26)) = 0) → VL_law_804 d (VL_law_23 d Q n) Q x0 x (x+176) (x+196) x4 S27) ∧ (¬ ((lCmp (S27.J (x+196) ((0 : Int)).toNat) (i2L r26)) = 0) → (0 : Int) = 1 ∧ Q (.inl (some (vI 0))) S27)))) ∧ (¬ (r27 = r25) → (0 : Int) = 1 ∧ Q (.inl (some (vI 0))) S27))))))))))) := by
  obtain ⟨k, tb, len, hI, hP, hF, ho⟩ := hc
  refine ⟨hs.k rfl 1 (by decide) (by decide), hs.k rfl 2 (by decide) (by decide), l_look (by omega) hF ho r32_scr r32_scr (fun S5 F5 M5 J5 => oI_nm ?_)⟩
  have I5 := hI.md M5
  have w5 : S5.I (x+176+1) = S.I (x+176+1) := M5.e (by omega) (by omega)
  have et : ∀ j, scr S5 j = scr S j := scr_T M5.1
  refine ⟨hs.k M5.1 1 (by decide) (by decide), hs.k M5.1 2 (by decide) (by decide), I5.1.1, ?_⟩
  simp only [et]
  refine c_look (by omega) I5 r32_scr r32_scr (fun S6 q6 t6 => oI_nm ⟨(q6.1.lay I5.1).1, c_thrown (by omega) (q6.1.lay I5.1) (oI_nm ?_)⟩)
  rw [w5] at t6 ⊢
  obtain ⟨C6, L6⟩ := co_q hI hP ho F5 M5 q6
  exact h_cmp t6 (cdr2 cd_look) (fun z => by rw [q6.1.J]; exact J5 z) C6.o (hC S6 C6 L6)
theorem case_drop {d n : Nat} {Q : Out → MS → Prop} {x0 x : Nat} {x4 : Int} {S : MS} (hd : 45 ≤ d) (hc : CO S x) (hs : SC x0 S x4) (hC : ∀ S', CO S' x → LSt x S S' → VL_law_23 d Q n x0 x (x+176) (x+196) (x4 + 6) S') : ((x0 = S.T 16 ∧ S.T 17 < 2147483648) ∧ 0 ≤ (x4 + 1) ∧ (x4 + 1) < S.T 17) ∧ (Mw hL_drop yL_drop d [vA x, vI (scr S (x4 + 1)), vA (x+196)] S (oI (fun r28 S28 => ((x0 = S28.T 16 ∧ S28.T 17 < 2147483648) ∧ 0 ≤ (x4 + 1) ∧ (x4 + 1) < S28.T 17) ∧ (S28.K (x+176) = 11 ∧ Mw hX11_drop yX11_drop d [vA (x+176), vI (scr S28 (x4 + 1))] S28 (oI (fun r29 S29 => S29.K (x+176) = 11 ∧ Mw hX11_thrown yX11_thrown d [vA (x+176)] S29 (oI (fun r30 S30 => (R32 r30 ∧ R32 r28) ∧ ((r30 = r28) → R32 r28 ∧ (¬ (r28 = 0) → VL_law_860 d (VL_law_23 d Q n) Q x0 x (x+176) (x+196) x4 S30) ∧ ((r28 = 0) → (S30.K (x+196) = 14 ∧ 0 ≤ (0 : Int) ∧ (0 : Int) < S30.N (x+196)) ∧ (R32 (lCmp (S30.J (x+196) ((0 : Int)).toNat) (i2L r29)) ∧ (((lCmp (S30.J (x+196) ((0 : Int)).toNat) (i2L r29)) = 0) → VL_law_860 d (VL_law_23 d Q n) Q x0 x (x+176) (x+196) x4 S30) ∧ (¬ ((lCmp (S30.J (x+196) ((0 : Int)).toNat) (i2L r29)) = 0) → (0 : Int) = 1 ∧ Q (.inl (some (vI 0))) S30)))) ∧ (¬ (r30 = r28) → (0 : Int) = 1 ∧ Q (.inl (some (vI 0))) S30))))))))) := by
  obtain ⟨k, tb, len, hI, hP, hF, ho⟩ := hc
  refine ⟨hs.k rfl 1 (by decide) (by decide), l_drop (by omega) hF ho r32_scr (fun S5 F5 M5 J5 => oI_nm ?_)⟩
  have I5 := hI.md M5
  have w5 : S5.I (x+176+1) = S.I (x+176+1) := M5.e (by omega) (by omega)
  have et : ∀ j, scr S5 j = scr S j := scr_T M5.1
  refine ⟨hs.k M5.1 1 (by decide) (by decide), I5.1.1, ?_⟩
  simp only [et]
  refine c_drop (by omega) I5 r32_scr (fun S6 q6 t6 => oI_nm ⟨(q6.1.lay I5.1).1, c_thrown (by omega) (q6.1.lay I5.1) (oI_nm ?_)⟩)
  rw [w5] at q6 t6 ⊢
  obtain ⟨C6, L6⟩ := co_u hI hP ho F5 M5 q6
  exact h_cmp t6 (cdr1 cd_drop) (fun z => by rw [q6.1.J]; exact J5 z) C6.o (hC S6 C6 L6)
theorem case_rows {d n : Nat} {Q : Out → MS → Prop} {x0 x : Nat} {x4 : Int} {S : MS} (hd : 45 ≤ d) (hc : CO S x) (hs : SC x0 S x4) (hC : ∀ S', CO S' x → LSt x S S' → VL_law_23 d Q n x0 x (x+176) (x+196) (x4 + 6) S') : S.K x = 10 ∧ Mw hX10_rows yX10_rows d [vA x] S (oI (fun r31 S31 => S31.K (x+176) = 11 ∧ Mw hX11_rows yX11_rows d [vA (x+176)] S31 (oI (fun r32 S32 => (R32 r31 ∧ R32 r32) ∧ ((r31 = r32) → VL_law_2634 d (VL_law_23 d Q n) Q x0 x (x+176) (x+196) x4 S32) ∧ (¬ (r31 = r32) → (0 : Int) = 1 ∧ Q (.inl (some (vI 0))) S32))))) := by
  obtain ⟨k, tb, len, hI, hP, hF, ho⟩ := hc
  refine ⟨hF.1.1.1, q_rows (by omega) hF.1 (fun S5 C5 J5 => oI_nm ?_)⟩
  have M5 := J5.md
  have F5 := hF.q J5 C5
  have I5 := hI.md M5
  have w5 : S5.I (x+176+1) = S.I (x+176+1) := M5.e (by omega) (by omega)
  have et : ∀ j, scr S5 j = scr S j := scr_T M5.1
  refine ⟨I5.1.1, ?_⟩
  refine c_rows (by omega) I5 (fun S6 q6 t6 => oI_nm ?_)
  rw [w5]
  obtain ⟨C6, L6⟩ := co_q hI hP ho F5 M5 q6
  exact d_cmp (hC S6 C6 L6)
theorem case_row {d n : Nat} {Q : Out → MS → Prop} {x0 x : Nat} {x4 : Int} {S : MS} (hd : 45 ≤ d) (hc : CO S x) (hs : SC x0 S x4) (hC : ∀ S', CO S' x → LSt x S S' → VL_law_23 d Q n x0 x (x+176) (x+196) (x4 + 6) S') : ((x0 = S.T 16 ∧ S.T 17 < 2147483648) ∧ 0 ≤ (x4 + 1) ∧ (x4 + 1) < S.T 17) ∧ (((x0 = S.T 16 ∧ S.T 17 < 2147483648) ∧ 0 ≤ (x4 + 2) ∧ (x4 + 2) < S.T 17) ∧ (Mw hL_row yL_row d [vA x, vI (scr S (x4 + 1)), vI (scr S (x4 + 2)), vA (x+196)] S (oI (fun r33 S33 => ((x0 = S33.T 16 ∧ S33.T 17 < 2147483648) ∧ 0 ≤ (x4 + 1) ∧ (x4 + 1) < S33.T 17) ∧ (((x0 = S33.T 16 ∧ S33.T 17 < 2147483648) ∧ 0 ≤ (x4 + 2) ∧ (x4 + 2) < S33.T 17) ∧ (S33.K (x+176) = 11 ∧ Mw hX11_row yX11_row d [vA (x+176), vI (scr S33 (x4 + 1)), vI (scr S33 (x4 + 2))] S33 (oI (fun r34 S34 => S34.K (x+176) = 11 ∧ Mw hX11_thrown yX11_thrown d [vA (x+176)] S34 (oI (fun r35 S35 => (R32 r35 ∧ R32 r33) ∧ ((r35 = r33) → R32 r33 ∧ (¬ (r33 = 0) → VL_law_941 d (VL_law_23 d Q n) Q x0 x (x+176) (x+196) x4 S35) ∧ ((r33 = 0) → (S35.K (x+196) = 14 ∧ 0 ≤ (0 : Int) ∧ (0 : Int) < S35.N (x+196)) ∧ (R32 (lCmp (S35.J (x+196) ((0 : Int)).toNat) (i2L r34)) ∧ (((lCmp (S35.J (x+196) ((0 : Int)).toNat) (i2L r34)) = 0) → VL_law_941 d (VL_law_23 d Q n) Q x0 x (x+176) (x+196) x4 S35) ∧ (¬ ((lCmp (S35.J (x+196) ((0 : Int)).toNat) (i2L r34)) = 0) → (0 : Int) = 1 ∧ Q (.inl (some (vI 0))) S35)))) ∧ (¬ (r35 = r33) → (0 : Int) = 1 ∧ Q (.inl (some (vI 0))) S35))))))))))) := by
  obtain ⟨k, tb, len, hI, hP, hF, ho⟩ := hc
  refine ⟨hs.k rfl 1 (by decide) (by decide), hs.k rfl 2 (by decide) (by decide), l_row (by omega) hF ho r32_scr r32_scr (fun S5 F5 M5 J5 => oI_nm ?_)⟩
  have I5 := hI.md M5
  have w5 : S5.I (x+176+1) = S.I (x+176+1) := M5.e (by omega) (by omega)
  have et : ∀ j, scr S5 j = scr S j := scr_T M5.1
  refine ⟨hs.k M5.1 1 (by decide) (by decide), hs.k M5.1 2 (by decide) (by decide), I5.1.1, ?_⟩
  simp only [et]
  refine c_row (by omega) I5 r32_scr r32_scr (fun S6 q6 t6 => oI_nm ⟨(q6.1.lay I5.1).1, c_thrown (by omega) (q6.1.lay I5.1) (oI_nm ?_)⟩)
  rw [w5] at t6 ⊢
  obtain ⟨C6, L6⟩ := co_q hI hP ho F5 M5 q6
  exact h_cmp t6 (cdr1 cd_row) (fun z => by rw [q6.1.J]; exact J5 z) C6.o (hC S6 C6 L6)
theorem case_fits {d n : Nat} {Q : Out → MS → Prop} {x0 x : Nat} {x4 : Int} {S : MS} (hd : 45 ≤ d) (hc : CO S x) (hs : SC x0 S x4) (hC : ∀ S', CO S' x → LSt x S S' → VL_law_23 d Q n x0 x (x+176) (x+196) (x4 + 6) S') : Mw hL_fits yL_fits d [vA x, vA (x+196)] S (oI (fun r36 S36 => S36.K (x+176) = 11 ∧ Mw hX11_fits yX11_fits d [vA (x+176)] S36 (oI (fun r37 S37 => S37.K (x+176) = 11 ∧ Mw hX11_thrown yX11_thrown d [vA (x+176)] S37 (oI (fun r38 S38 => (R32 r38 ∧ R32 r36) ∧ ((r38 = r36) → R32 r36 ∧ (¬ (r36 = 0) → VL_law_992 d (VL_law_23 d Q n) Q x0 x (x+176) (x+196) x4 S38) ∧ ((r36 = 0) → (S38.K (x+196) = 14 ∧ 0 ≤ (0 : Int) ∧ (0 : Int) < S38.N (x+196)) ∧ (R32 r37 ∧ ((r37 = 0) → VL_law_986 d (VL_law_23 d Q n) Q x0 x (x+176) (x+196) x4 (0#64) (S38.J (x+196) ((0 : Int)).toNat) S38) ∧ (¬ (r37 = 0) → VL_law_986 d (VL_law_23 d Q n) Q x0 x (x+176) (x+196) x4 (1#64) (S38.J (x+196) ((0 : Int)).toNat) S38)))) ∧ (¬ (r38 = r36) → (0 : Int) = 1 ∧ Q (.inl (some (vI 0))) S38))))))) := by
  obtain ⟨k, tb, len, hI, hP, hF, ho⟩ := hc
  refine l_fits (by omega) hF ho  (fun S5 F5 M5 J5 => oI_nm ?_)
  have I5 := hI.md M5
  have w5 : S5.I (x+176+1) = S.I (x+176+1) := M5.e (by omega) (by omega)
  have et : ∀ j, scr S5 j = scr S j := scr_T M5.1
  refine ⟨I5.1.1, ?_⟩
  refine c_fits (by omega) I5 (hP.md M5)  (fun S6 q6 t6 => oI_nm ⟨(q6.1.lay I5.1).1, c_thrown (by omega) (q6.1.lay I5.1) (oI_nm ?_)⟩)
  rw [w5] at t6 ⊢
  obtain ⟨C6, L6⟩ := co_t hI hP ho F5 M5 q6
  unfold VL_law_986
  exact h_cmpb t6 (cdr1 cd_fits) (fun z => by rw [q6.1.J]; exact J5 z) C6.o (hC S6 C6 L6)
theorem case_may {d n : Nat} {Q : Out → MS → Prop} {x0 x : Nat} {x4 : Int} {S : MS} (hd : 45 ≤ d) (hc : CO S x) (hs : SC x0 S x4) (hC : ∀ S', CO S' x → LSt x S S' → VL_law_23 d Q n x0 x (x+176) (x+196) (x4 + 6) S') : ((x0 = S.T 16 ∧ S.T 17 < 2147483648) ∧ 0 ≤ (x4 + 1) ∧ (x4 + 1) < S.T 17) ∧ (Mw hL_may yL_may d [vA x, vI (scr S (x4 + 1)), vA (x+196)] S (oI (fun r39 S39 => ((x0 = S39.T 16 ∧ S39.T 17 < 2147483648) ∧ 0 ≤ (x4 + 1) ∧ (x4 + 1) < S39.T 17) ∧ (S39.K (x+176) = 11 ∧ Mw hX11_may yX11_may d [vA (x+176), vI (scr S39 (x4 + 1))] S39 (oI (fun r40 S40 => S40.K (x+176) = 11 ∧ Mw hX11_thrown yX11_thrown d [vA (x+176)] S40 (oI (fun r41 S41 => (R32 r41 ∧ R32 r39) ∧ ((r41 = r39) → R32 r39 ∧ (¬ (r39 = 0) → VL_law_1048 d (VL_law_23 d Q n) Q x0 x (x+176) (x+196) x4 S41) ∧ ((r39 = 0) → (S41.K (x+196) = 14 ∧ 0 ≤ (0 : Int) ∧ (0 : Int) < S41.N (x+196)) ∧ (R32 (lCmp (S41.J (x+196) ((0 : Int)).toNat) (i2L r40)) ∧ (((lCmp (S41.J (x+196) ((0 : Int)).toNat) (i2L r40)) = 0) → VL_law_1048 d (VL_law_23 d Q n) Q x0 x (x+176) (x+196) x4 S41) ∧ (¬ ((lCmp (S41.J (x+196) ((0 : Int)).toNat) (i2L r40)) = 0) → (0 : Int) = 1 ∧ Q (.inl (some (vI 0))) S41)))) ∧ (¬ (r41 = r39) → (0 : Int) = 1 ∧ Q (.inl (some (vI 0))) S41))))))))) := by
  obtain ⟨k, tb, len, hI, hP, hF, ho⟩ := hc
  refine ⟨hs.k rfl 1 (by decide) (by decide), l_may (by omega) hF ho r32_scr (fun S5 F5 M5 J5 => oI_nm ?_)⟩
  have I5 := hI.md M5
  have w5 : S5.I (x+176+1) = S.I (x+176+1) := M5.e (by omega) (by omega)
  have et : ∀ j, scr S5 j = scr S j := scr_T M5.1
  refine ⟨hs.k M5.1 1 (by decide) (by decide), I5.1.1, ?_⟩
  simp only [et]
  refine c_may (by omega) I5 r32_scr (fun S6 q6 t6 => oI_nm ⟨(q6.1.lay I5.1).1, c_thrown (by omega) (q6.1.lay I5.1) (oI_nm ?_)⟩)
  rw [w5] at t6 ⊢
  obtain ⟨C6, L6⟩ := co_q hI hP ho F5 M5 q6
  exact h_cmp t6 (cdr1 cd_may) (fun z => by rw [q6.1.J]; exact J5 z) C6.o (hC S6 C6 L6)
theorem case_heavier {d n : Nat} {Q : Out → MS → Prop} {x0 x : Nat} {x4 : Int} {S : MS} (hd : 45 ≤ d) (hc : CO S x) (hs : SC x0 S x4) (hC : ∀ S', CO S' x → LSt x S S' → VL_law_23 d Q n x0 x (x+176) (x+196) (x4 + 6) S') : ((x0 = S.T 16 ∧ S.T 17 < 2147483648) ∧ 0 ≤ (x4 + 1) ∧ (x4 + 1) < S.T 17) ∧ (((x0 = S.T 16 ∧ S.T 17 < 2147483648) ∧ 0 ≤ (x4 + 2) ∧ (x4 + 2) < S.T 17) ∧ (Mw hL_heavier yL_heavier d [vA x, vI (scr S (x4 + 1)), vI (scr S (x4 + 2)), vA (x+196)] S (oI (fun r42 S42 => ((x0 = S42.T 16 ∧ S42.T 17 < 2147483648) ∧ 0 ≤ (x4 + 1) ∧ (x4 + 1) < S42.T 17) ∧ (((x0 = S42.T 16 ∧ S42.T 17 < 2147483648) ∧ 0 ≤ (x4 + 2) ∧ (x4 + 2) < S42.T 17) ∧ (S42.K (x+176) = 11 ∧ Mw hX11_heavier yX11_heavier d [vA (x+176), vI (scr S42 (x4 + 1)), vI (scr S42 (x4 + 2))] S42 (oI (fun r43 S43 => S43.K (x+176) = 11 ∧ Mw hX11_thrown yX11_thrown d [vA (x+176)] S43 (oI (fun r44 S44 => (R32 r44 ∧ R32 r42) ∧ ((r44 = r42) → R32 r42 ∧ (¬ (r42 = 0) → VL_law_1116 d (VL_law_23 d Q n) Q x0 x (x+176) (x+196) x4 S44) ∧ ((r42 = 0) → (S44.K (x+196) = 14 ∧ 0 ≤ (0 : Int) ∧ (0 : Int) < S44.N (x+196)) ∧ (R32 (lCmp (S44.J (x+196) ((0 : Int)).toNat) (i2L r43)) ∧ (((lCmp (S44.J (x+196) ((0 : Int)).toNat) (i2L r43)) = 0) → VL_law_1116 d (VL_law_23 d Q n) Q x0 x (x+176) (x+196) x4 S44) ∧ (¬ ((lCmp (S44.J (x+196) ((0 : Int)).toNat) (i2L r43)) = 0) → (0 : Int) = 1 ∧ Q (.inl (some (vI 0))) S44)))) ∧ (¬ (r44 = r42) → (0 : Int) = 1 ∧ Q (.inl (some (vI 0))) S44))))))))))) := by
  obtain ⟨k, tb, len, hI, hP, hF, ho⟩ := hc
  refine ⟨hs.k rfl 1 (by decide) (by decide), hs.k rfl 2 (by decide) (by decide), l_heavier (by omega) hF ho r32_scr r32_scr (fun S5 F5 M5 J5 => oI_nm ?_)⟩
  have I5 := hI.md M5
  have w5 : S5.I (x+176+1) = S.I (x+176+1) := M5.e (by omega) (by omega)
  have et : ∀ j, scr S5 j = scr S j := scr_T M5.1
  refine ⟨hs.k M5.1 1 (by decide) (by decide), hs.k M5.1 2 (by decide) (by decide), I5.1.1, ?_⟩
  simp only [et]
  refine c_heavier (by omega) I5 r32_scr r32_scr (fun S6 q6 t6 => oI_nm ⟨(q6.1.lay I5.1).1, c_thrown (by omega) (q6.1.lay I5.1) (oI_nm ?_)⟩)
  rw [w5] at t6 ⊢
  obtain ⟨C6, L6⟩ := co_q hI hP ho F5 M5 q6
  exact h_cmp t6 (cdr2 cd_heavier) (fun z => by rw [q6.1.J]; exact J5 z) C6.o (hC S6 C6 L6)
theorem case_places {d n : Nat} {Q : Out → MS → Prop} {x0 x : Nat} {x4 : Int} {S : MS} (hd : 45 ≤ d) (hc : CO S x) (hs : SC x0 S x4) (hC : ∀ S', CO S' x → LSt x S S' → VL_law_23 d Q n x0 x (x+176) (x+196) (x4 + 6) S') : ((x0 = S.T 16 ∧ S.T 17 < 2147483648) ∧ 0 ≤ (x4 + 1) ∧ (x4 + 1) < S.T 17) ∧ (Mw hL_places yL_places d [vA x, vI (scr S (x4 + 1)), vA (x+196)] S (oI (fun r45 S45 => ((x0 = S45.T 16 ∧ S45.T 17 < 2147483648) ∧ 0 ≤ (x4 + 1) ∧ (x4 + 1) < S45.T 17) ∧ (S45.K (x+176) = 11 ∧ Mw hX11_places yX11_places d [vA (x+176), vI (scr S45 (x4 + 1))] S45 (oI (fun r46 S46 => S46.K (x+176) = 11 ∧ Mw hX11_thrown yX11_thrown d [vA (x+176)] S46 (oI (fun r47 S47 => (R32 r47 ∧ R32 r45) ∧ ((r47 = r45) → R32 r45 ∧ (¬ (r45 = 0) → VL_law_1172 d (VL_law_23 d Q n) Q x0 x (x+176) (x+196) x4 S47) ∧ ((r45 = 0) → (S47.K (x+196) = 14 ∧ 0 ≤ (0 : Int) ∧ (0 : Int) < S47.N (x+196)) ∧ (R32 (lCmp (S47.J (x+196) ((0 : Int)).toNat) (i2L r46)) ∧ (((lCmp (S47.J (x+196) ((0 : Int)).toNat) (i2L r46)) = 0) → VL_law_1172 d (VL_law_23 d Q n) Q x0 x (x+176) (x+196) x4 S47) ∧ (¬ ((lCmp (S47.J (x+196) ((0 : Int)).toNat) (i2L r46)) = 0) → (0 : Int) = 1 ∧ Q (.inl (some (vI 0))) S47)))) ∧ (¬ (r47 = r45) → (0 : Int) = 1 ∧ Q (.inl (some (vI 0))) S47))))))))) := by
  obtain ⟨k, tb, len, hI, hP, hF, ho⟩ := hc
  refine ⟨hs.k rfl 1 (by decide) (by decide), l_places (by omega) hF ho r32_scr (fun S5 F5 M5 J5 => oI_nm ?_)⟩
  have I5 := hI.md M5
  have w5 : S5.I (x+176+1) = S.I (x+176+1) := M5.e (by omega) (by omega)
  have et : ∀ j, scr S5 j = scr S j := scr_T M5.1
  refine ⟨hs.k M5.1 1 (by decide) (by decide), I5.1.1, ?_⟩
  simp only [et]
  refine c_places (by omega) I5 r32_scr (fun S6 q6 t6 => oI_nm ⟨(q6.1.lay I5.1).1, c_thrown (by omega) (q6.1.lay I5.1) (oI_nm ?_)⟩)
  rw [w5] at t6 ⊢
  obtain ⟨C6, L6⟩ := co_q hI hP ho F5 M5 q6
  exact h_cmp t6 (cdr1 cd_places) (fun z => by rw [q6.1.J]; exact J5 z) C6.o (hC S6 C6 L6)
theorem case_ends {d n : Nat} {Q : Out → MS → Prop} {x0 x : Nat} {x4 : Int} {S : MS} (hd : 45 ≤ d) (hc : CO S x) (hs : SC x0 S x4) (hC : ∀ S', CO S' x → LSt x S S' → VL_law_23 d Q n x0 x (x+176) (x+196) (x4 + 6) S') : S.K x = 10 ∧ Mw hX10_ends yX10_ends d [vA x] S (oI (fun r48 S48 => S48.K (x+176) = 11 ∧ Mw hX11_ends yX11_ends d [vA (x+176)] S48 (oI (fun r49 S49 => (R32 r48 ∧ R32 r49) ∧ ((r48 = r49) → VL_law_2634 d (VL_law_23 d Q n) Q x0 x (x+176) (x+196) x4 S49) ∧ (¬ (r48 = r49) → (0 : Int) = 1 ∧ Q (.inl (some (vI 0))) S49))))) := by
  obtain ⟨k, tb, len, hI, hP, hF, ho⟩ := hc
  refine ⟨hF.1.1.1, q_ends (by omega) hF.1 (fun S5 C5 J5 => oI_nm ?_)⟩
  have M5 := J5.md
  have F5 := hF.q J5 C5
  have I5 := hI.md M5
  have w5 : S5.I (x+176+1) = S.I (x+176+1) := M5.e (by omega) (by omega)
  have et : ∀ j, scr S5 j = scr S j := scr_T M5.1
  refine ⟨I5.1.1, ?_⟩
  refine c_ends (by omega) I5 (fun S6 q6 t6 => oI_nm ?_)
  rw [w5]
  obtain ⟨C6, L6⟩ := co_q hI hP ho F5 M5 q6
  exact d_cmp (hC S6 C6 L6)
theorem case_goose {d n : Nat} {Q : Out → MS → Prop} {x0 x : Nat} {x4 : Int} {S : MS} (hd : 45 ≤ d) (hc : CO S x) (hs : SC x0 S x4) (hC : ∀ S', CO S' x → LSt x S S' → VL_law_23 d Q n x0 x (x+176) (x+196) (x4 + 6) S') : S.K x = 10 ∧ Mw hX10_goose yX10_goose d [vA x] S (oI (fun r50 S50 => S50.K (x+176) = 11 ∧ Mw hX11_goose yX11_goose d [vA (x+176)] S50 (oI (fun r51 S51 => (R32 r50 ∧ R32 r51) ∧ ((r50 = r51) → VL_law_2634 d (VL_law_23 d Q n) Q x0 x (x+176) (x+196) x4 S51) ∧ (¬ (r50 = r51) → (0 : Int) = 1 ∧ Q (.inl (some (vI 0))) S51))))) := by
  obtain ⟨k, tb, len, hI, hP, hF, ho⟩ := hc
  refine ⟨hF.1.1.1, q_goose (by omega) hF.1 (fun S5 C5 J5 => oI_nm ?_)⟩
  have M5 := J5.md
  have F5 := hF.q J5 C5
  have I5 := hI.md M5
  have w5 : S5.I (x+176+1) = S.I (x+176+1) := M5.e (by omega) (by omega)
  have et : ∀ j, scr S5 j = scr S j := scr_T M5.1
  refine ⟨I5.1.1, ?_⟩
  refine c_goose (by omega) I5 (fun S6 q6 t6 => oI_nm ?_)
  rw [w5]
  obtain ⟨C6, L6⟩ := co_q hI hP ho F5 M5 q6
  exact d_cmp (hC S6 C6 L6)
theorem case_centre {d n : Nat} {Q : Out → MS → Prop} {x0 x : Nat} {x4 : Int} {S : MS} (hd : 45 ≤ d) (hc : CO S x) (hs : SC x0 S x4) (hC : ∀ S', CO S' x → LSt x S S' → VL_law_23 d Q n x0 x (x+176) (x+196) (x4 + 6) S') : S.K x = 10 ∧ Mw hX10_centre yX10_centre d [vA x] S (oI (fun r52 S52 => S52.K (x+176) = 11 ∧ Mw hX11_centre yX11_centre d [vA (x+176)] S52 (oI (fun r53 S53 => (R32 r52 ∧ R32 r53) ∧ ((r52 = r53) → VL_law_2634 d (VL_law_23 d Q n) Q x0 x (x+176) (x+196) x4 S53) ∧ (¬ (r52 = r53) → (0 : Int) = 1 ∧ Q (.inl (some (vI 0))) S53))))) := by
  obtain ⟨k, tb, len, hI, hP, hF, ho⟩ := hc
  refine ⟨hF.1.1.1, q_centre (by omega) hF.1 (fun S5 C5 J5 => oI_nm ?_)⟩
  have M5 := J5.md
  have F5 := hF.q J5 C5
  have I5 := hI.md M5
  have w5 : S5.I (x+176+1) = S.I (x+176+1) := M5.e (by omega) (by omega)
  have et : ∀ j, scr S5 j = scr S j := scr_T M5.1
  refine ⟨I5.1.1, ?_⟩
  refine c_centre (by omega) I5 (fun S6 q6 t6 => oI_nm ?_)
  rw [w5]
  obtain ⟨C6, L6⟩ := co_q hI hP ho F5 M5 q6
  exact d_cmp (hC S6 C6 L6)
theorem case_known {d n : Nat} {Q : Out → MS → Prop} {x0 x : Nat} {x4 : Int} {S : MS} (hd : 45 ≤ d) (hc : CO S x) (hs : SC x0 S x4) (hC : ∀ S', CO S' x → LSt x S S' → VL_law_23 d Q n x0 x (x+176) (x+196) (x4 + 6) S') : S.K x = 10 ∧ Mw hX10_known yX10_known d [vA x] S (oI (fun r54 S54 => S54.K (x+176) = 11 ∧ Mw hX11_known yX11_known d [vA (x+176)] S54 (oI (fun r55 S55 => (R32 r54 ∧ R32 r55) ∧ ((r54 = r55) → VL_law_2634 d (VL_law_23 d Q n) Q x0 x (x+176) (x+196) x4 S55) ∧ (¬ (r54 = r55) → (0 : Int) = 1 ∧ Q (.inl (some (vI 0))) S55))))) := by
  obtain ⟨k, tb, len, hI, hP, hF, ho⟩ := hc
  refine ⟨hF.1.1.1, q_known (by omega) hF.1 (fun S5 C5 J5 => oI_nm ?_)⟩
  have M5 := J5.md
  have F5 := hF.q J5 C5
  have I5 := hI.md M5
  have w5 : S5.I (x+176+1) = S.I (x+176+1) := M5.e (by omega) (by omega)
  have et : ∀ j, scr S5 j = scr S j := scr_T M5.1
  refine ⟨I5.1.1, ?_⟩
  refine c_known (by omega) I5 (fun S6 q6 t6 => oI_nm ?_)
  rw [w5]
  obtain ⟨C6, L6⟩ := co_q hI hP ho F5 M5 q6
  exact d_cmp (hC S6 C6 L6)
theorem case_quarrels {d n : Nat} {Q : Out → MS → Prop} {x0 x : Nat} {x4 : Int} {S : MS} (hd : 45 ≤ d) (hc : CO S x) (hs : SC x0 S x4) (hC : ∀ S', CO S' x → LSt x S S' → VL_law_23 d Q n x0 x (x+176) (x+196) (x4 + 6) S') : S.K x = 10 ∧ Mw hX10_quarrels yX10_quarrels d [vA x] S (oI (fun r56 S56 => S56.K (x+176) = 11 ∧ Mw hX11_quarrels yX11_quarrels d [vA (x+176)] S56 (oI (fun r57 S57 => (R32 r56 ∧ R32 r57) ∧ ((r56 = r57) → VL_law_2634 d (VL_law_23 d Q n) Q x0 x (x+176) (x+196) x4 S57) ∧ (¬ (r56 = r57) → (0 : Int) = 1 ∧ Q (.inl (some (vI 0))) S57))))) := by
  obtain ⟨k, tb, len, hI, hP, hF, ho⟩ := hc
  refine ⟨hF.1.1.1, q_quarrels (by omega) hF.1 (fun S5 C5 J5 => oI_nm ?_)⟩
  have M5 := J5.md
  have F5 := hF.q J5 C5
  have I5 := hI.md M5
  have w5 : S5.I (x+176+1) = S.I (x+176+1) := M5.e (by omega) (by omega)
  have et : ∀ j, scr S5 j = scr S j := scr_T M5.1
  refine ⟨I5.1.1, ?_⟩
  refine c_quarrels (by omega) I5 (fun S6 q6 t6 => oI_nm ?_)
  rw [w5]
  obtain ⟨C6, L6⟩ := co_q hI hP ho F5 M5 q6
  exact d_cmp (hC S6 C6 L6)
theorem case_proof {d n : Nat} {Q : Out → MS → Prop} {x0 x : Nat} {x4 : Int} {S : MS} (hd : 45 ≤ d) (hc : CO S x) (hs : SC x0 S x4) (hC : ∀ S', CO S' x → LSt x S S' → VL_law_23 d Q n x0 x (x+176) (x+196) (x4 + 6) S') : S.K x = 10 ∧ Mw hX10_proof yX10_proof d [vA x] S (oI (fun r58 S58 => S58.K (x+176) = 11 ∧ Mw hX11_proof yX11_proof d [vA (x+176)] S58 (oI (fun r59 S59 => (R32 r58 ∧ R32 r59) ∧ ((r58 = r59) → VL_law_2634 d (VL_law_23 d Q n) Q x0 x (x+176) (x+196) x4 S59) ∧ (¬ (r58 = r59) → (0 : Int) = 1 ∧ Q (.inl (some (vI 0))) S59))))) := by
  obtain ⟨k, tb, len, hI, hP, hF, ho⟩ := hc
  refine ⟨hF.1.1.1, q_proof (by omega) hF.1 (fun S5 C5 J5 => oI_nm ?_)⟩
  have M5 := J5.md
  have F5 := hF.q J5 C5
  have I5 := hI.md M5
  have w5 : S5.I (x+176+1) = S.I (x+176+1) := M5.e (by omega) (by omega)
  have et : ∀ j, scr S5 j = scr S j := scr_T M5.1
  refine ⟨I5.1.1, ?_⟩
  refine c_proof (by omega) I5 (fun S6 q6 t6 => oI_nm ?_)
  rw [w5]
  obtain ⟨C6, L6⟩ := co_q hI hP ho F5 M5 q6
  exact d_cmp (hC S6 C6 L6)
theorem case_wrongly {d n : Nat} {Q : Out → MS → Prop} {x0 x : Nat} {x4 : Int} {S : MS} (hd : 45 ≤ d) (hc : CO S x) (hs : SC x0 S x4) (hC : ∀ S', CO S' x → LSt x S S' → VL_law_23 d Q n x0 x (x+176) (x+196) (x4 + 6) S') : S.K x = 10 ∧ Mw hX10_wrongly yX10_wrongly d [vA x] S (oI (fun r60 S60 => S60.K (x+176) = 11 ∧ Mw hX11_wrongly yX11_wrongly d [vA (x+176)] S60 (oI (fun r61 S61 => (R32 r60 ∧ R32 r61) ∧ ((r60 = r61) → VL_law_2634 d (VL_law_23 d Q n) Q x0 x (x+176) (x+196) x4 S61) ∧ (¬ (r60 = r61) → (0 : Int) = 1 ∧ Q (.inl (some (vI 0))) S61))))) := by
  obtain ⟨k, tb, len, hI, hP, hF, ho⟩ := hc
  refine ⟨hF.1.1.1, q_wrongly (by omega) hF.1 (fun S5 C5 J5 => oI_nm ?_)⟩
  have M5 := J5.md
  have F5 := hF.q J5 C5
  have I5 := hI.md M5
  have w5 : S5.I (x+176+1) = S.I (x+176+1) := M5.e (by omega) (by omega)
  have et : ∀ j, scr S5 j = scr S j := scr_T M5.1
  refine ⟨I5.1.1, ?_⟩
  refine c_wrongly (by omega) I5 (fun S6 q6 t6 => oI_nm ?_)
  rw [w5]
  obtain ⟨C6, L6⟩ := co_q hI hP ho F5 M5 q6
  exact d_cmp (hC S6 C6 L6)
theorem case_mends {d n : Nat} {Q : Out → MS → Prop} {x0 x : Nat} {x4 : Int} {S : MS} (hd : 45 ≤ d) (hc : CO S x) (hs : SC x0 S x4) (hC : ∀ S', CO S' x → LSt x S S' → VL_law_23 d Q n x0 x (x+176) (x+196) (x4 + 6) S') : ((x0 = S.T 16 ∧ S.T 17 < 2147483648) ∧ 0 ≤ (x4 + 1) ∧ (x4 + 1) < S.T 17) ∧ (Mw hL_mends yL_mends d [vA x, vI (scr S (x4 + 1)), vA (x+196)] S (oI (fun r62 S62 => ((x0 = S62.T 16 ∧ S62.T 17 < 2147483648) ∧ 0 ≤ (x4 + 1) ∧ (x4 + 1) < S62.T 17) ∧ (S62.K (x+176) = 11 ∧ Mw hX11_mends yX11_mends d [vA (x+176), vI (scr S62 (x4 + 1))] S62 (oI (fun r63 S63 => S63.K (x+176) = 11 ∧ Mw hX11_thrown yX11_thrown d [vA (x+176)] S63 (oI (fun r64 S64 => (R32 r64 ∧ R32 r62) ∧ ((r64 = r62) → R32 r62 ∧ (¬ (r62 = 0) → VL_law_1319 d (VL_law_23 d Q n) Q x0 x (x+176) (x+196) x4 S64) ∧ ((r62 = 0) → (S64.K (x+196) = 14 ∧ 0 ≤ (0 : Int) ∧ (0 : Int) < S64.N (x+196)) ∧ (R32 (lCmp (S64.J (x+196) ((0 : Int)).toNat) (i2L r63)) ∧ (((lCmp (S64.J (x+196) ((0 : Int)).toNat) (i2L r63)) = 0) → VL_law_1319 d (VL_law_23 d Q n) Q x0 x (x+176) (x+196) x4 S64) ∧ (¬ ((lCmp (S64.J (x+196) ((0 : Int)).toNat) (i2L r63)) = 0) → (0 : Int) = 1 ∧ Q (.inl (some (vI 0))) S64)))) ∧ (¬ (r64 = r62) → (0 : Int) = 1 ∧ Q (.inl (some (vI 0))) S64))))))))) := by
  obtain ⟨k, tb, len, hI, hP, hF, ho⟩ := hc
  refine ⟨hs.k rfl 1 (by decide) (by decide), l_mends (by omega) hF ho r32_scr (fun S5 F5 M5 J5 => oI_nm ?_)⟩
  have I5 := hI.md M5
  have w5 : S5.I (x+176+1) = S.I (x+176+1) := M5.e (by omega) (by omega)
  have et : ∀ j, scr S5 j = scr S j := scr_T M5.1
  refine ⟨hs.k M5.1 1 (by decide) (by decide), I5.1.1, ?_⟩
  simp only [et]
  refine c_mends (by omega) I5 r32_scr (fun S6 q6 t6 => oI_nm ⟨(q6.1.lay I5.1).1, c_thrown (by omega) (q6.1.lay I5.1) (oI_nm ?_)⟩)
  rw [w5] at t6 ⊢
  obtain ⟨C6, L6⟩ := co_q hI hP ho F5 M5 q6
  exact h_cmp t6 (cdr1 cd_mends) (fun z => by rw [q6.1.J]; exact J5 z) C6.o (hC S6 C6 L6)
theorem case_nearly {d n : Nat} {Q : Out → MS → Prop} {x0 x : Nat} {x4 : Int} {S : MS} (hd : 45 ≤ d) (hc : CO S x) (hs : SC x0 S x4) (hC : ∀ S', CO S' x → LSt x S S' → VL_law_23 d Q n x0 x (x+176) (x+196) (x4 + 6) S') : Mw hL_nearly yL_nearly d [vA x, vA (x+196)] S (oI (fun r65 S65 => S65.K (x+176) = 11 ∧ Mw hX11_nearly yX11_nearly d [vA (x+176)] S65 (oI (fun r66 S66 => S66.K (x+176) = 11 ∧ Mw hX11_thrown yX11_thrown d [vA (x+176)] S66 (oI (fun r67 S67 => (R32 r67 ∧ R32 r65) ∧ ((r67 = r65) → R32 r65 ∧ (¬ (r65 = 0) → VL_law_1363 d (VL_law_23 d Q n) Q x0 x (x+176) (x+196) x4 S67) ∧ ((r65 = 0) → (S67.K (x+196) = 14 ∧ 0 ≤ (0 : Int) ∧ (0 : Int) < S67.N (x+196)) ∧ (R32 (lCmp (S67.J (x+196) ((0 : Int)).toNat) (i2L r66)) ∧ (((lCmp (S67.J (x+196) ((0 : Int)).toNat) (i2L r66)) = 0) → VL_law_1363 d (VL_law_23 d Q n) Q x0 x (x+176) (x+196) x4 S67) ∧ (¬ ((lCmp (S67.J (x+196) ((0 : Int)).toNat) (i2L r66)) = 0) → (0 : Int) = 1 ∧ Q (.inl (some (vI 0))) S67)))) ∧ (¬ (r67 = r65) → (0 : Int) = 1 ∧ Q (.inl (some (vI 0))) S67))))))) := by
  obtain ⟨k, tb, len, hI, hP, hF, ho⟩ := hc
  refine l_nearly (by omega) hF ho  (fun S5 F5 M5 J5 => oI_nm ?_)
  have I5 := hI.md M5
  have w5 : S5.I (x+176+1) = S.I (x+176+1) := M5.e (by omega) (by omega)
  have et : ∀ j, scr S5 j = scr S j := scr_T M5.1
  refine ⟨I5.1.1, ?_⟩
  refine c_nearly (by omega) I5 (hP.md M5)  (fun S6 q6 t6 => oI_nm ⟨(q6.1.lay I5.1).1, c_thrown (by omega) (q6.1.lay I5.1) (oI_nm ?_)⟩)
  rw [w5] at t6 ⊢
  obtain ⟨C6, L6⟩ := co_t hI hP ho F5 M5 q6
  exact h_cmp t6 (cdr1 cd_nearly) (fun z => by rw [q6.1.J]; exact J5 z) C6.o (hC S6 C6 L6)
theorem case_votes {d n : Nat} {Q : Out → MS → Prop} {x0 x : Nat} {x4 : Int} {S : MS} (hd : 45 ≤ d) (hc : CO S x) (hs : SC x0 S x4) (hC : ∀ S', CO S' x → LSt x S S' → VL_law_23 d Q n x0 x (x+176) (x+196) (x4 + 6) S') : ((x0 = S.T 16 ∧ S.T 17 < 2147483648) ∧ 0 ≤ (x4 + 1) ∧ (x4 + 1) < S.T 17) ∧ (Mw hL_votes yL_votes d [vA x, vI (scr S (x4 + 1)), vA (x+196)] S (oI (fun r68 S68 => ((x0 = S68.T 16 ∧ S68.T 17 < 2147483648) ∧ 0 ≤ (x4 + 1) ∧ (x4 + 1) < S68.T 17) ∧ (S68.K (x+176) = 11 ∧ Mw hX11_votes yX11_votes d [vA (x+176), vI (scr S68 (x4 + 1))] S68 (oI (fun r69 S69 => S69.K (x+176) = 11 ∧ Mw hX11_thrown yX11_thrown d [vA (x+176)] S69 (oI (fun r70 S70 => (R32 r70 ∧ R32 r68) ∧ ((r70 = r68) → R32 r68 ∧ (¬ (r68 = 0) → VL_law_1419 d (VL_law_23 d Q n) Q x0 x (x+176) (x+196) x4 S70) ∧ ((r68 = 0) → (S70.K (x+196) = 14 ∧ 0 ≤ (0 : Int) ∧ (0 : Int) < S70.N (x+196)) ∧ (R32 (lCmp (S70.J (x+196) ((0 : Int)).toNat) (i2L r69)) ∧ (((lCmp (S70.J (x+196) ((0 : Int)).toNat) (i2L r69)) = 0) → VL_law_1419 d (VL_law_23 d Q n) Q x0 x (x+176) (x+196) x4 S70) ∧ (¬ ((lCmp (S70.J (x+196) ((0 : Int)).toNat) (i2L r69)) = 0) → (0 : Int) = 1 ∧ Q (.inl (some (vI 0))) S70)))) ∧ (¬ (r70 = r68) → (0 : Int) = 1 ∧ Q (.inl (some (vI 0))) S70))))))))) := by
  obtain ⟨k, tb, len, hI, hP, hF, ho⟩ := hc
  refine ⟨hs.k rfl 1 (by decide) (by decide), l_votes (by omega) hF ho r32_scr (fun S5 F5 M5 J5 => oI_nm ?_)⟩
  have I5 := hI.md M5
  have w5 : S5.I (x+176+1) = S.I (x+176+1) := M5.e (by omega) (by omega)
  have et : ∀ j, scr S5 j = scr S j := scr_T M5.1
  refine ⟨hs.k M5.1 1 (by decide) (by decide), I5.1.1, ?_⟩
  simp only [et]
  refine c_votes (by omega) I5 r32_scr (fun S6 q6 t6 => oI_nm ⟨(q6.1.lay I5.1).1, c_thrown (by omega) (q6.1.lay I5.1) (oI_nm ?_)⟩)
  rw [w5] at t6 ⊢
  obtain ⟨C6, L6⟩ := co_q hI hP ho F5 M5 q6
  exact h_cmp t6 (cdr1 cd_votes) (fun z => by rw [q6.1.J]; exact J5 z) C6.o (hC S6 C6 L6)
theorem case_laying {d n : Nat} {Q : Out → MS → Prop} {x0 x : Nat} {x4 : Int} {S : MS} (hd : 45 ≤ d) (hc : CO S x) (hs : SC x0 S x4) (hC : ∀ S', CO S' x → LSt x S S' → VL_law_23 d Q n x0 x (x+176) (x+196) (x4 + 6) S') : ((x0 = S.T 16 ∧ S.T 17 < 2147483648) ∧ 0 ≤ (x4 + 1) ∧ (x4 + 1) < S.T 17) ∧ (((x0 = S.T 16 ∧ S.T 17 < 2147483648) ∧ 0 ≤ (x4 + 2) ∧ (x4 + 2) < S.T 17) ∧ (((x0 = S.T 16 ∧ S.T 17 < 2147483648) ∧ 0 ≤ (x4 + 3) ∧ (x4 + 3) < S.T 17) ∧ (R32 (scr S (x4 + 3)) ∧ (((scr S (x4 + 3)) = 0) → VL_law_1449 d (VL_law_23 d Q n) Q x0 x (x+176) (x+196) x4 0 (scr S (x4 + 2)) (scr S (x4 + 1)) x S) ∧ (¬ ((scr S (x4 + 3)) = 0) → VL_law_1449 d (VL_law_23 d Q n) Q x0 x (x+176) (x+196) x4 1 (scr S (x4 + 2)) (scr S (x4 + 1)) x S)))) := by
  obtain ⟨k, tb, len, hI, hP, hF, ho⟩ := hc
  have core : ∀ bl, B01 bl → (scr S (x4 + 3) = 0 → bl = 0) → (¬ scr S (x4 + 3) = 0 → bl = 1) → VL_law_1449 d (VL_law_23 d Q n) Q x0 x (x+176) (x+196) x4 bl (scr S (x4 + 2)) (scr S (x4 + 1)) x S := by
    intro bl hb h0 h1
    unfold VL_law_1449
    refine l_laying (by omega) hF ho r32_scr r32_scr hb (fun S5 F5 M5 J5 => oI_nm ?_)
    have I5 := hI.md M5
    have w5 : S5.I (x+176+1) = S.I (x+176+1) := M5.e (by omega) (by omega)
    have et : ∀ j, scr S5 j = scr S j := scr_T M5.1
    have go : VL_law_1482 d (VL_law_23 d Q n) Q x0 x (x+176) (x+196) x4 (nm (A_laying k (S.I (x+176+1)) (scr S (x4 + 1)) (scr S (x4 + 2)) bl).1) bl (scr S (x4 + 2)) (scr S (x4 + 1)) (x+176) S5 := by
      unfold VL_law_1482
      refine ⟨I5.1.1, c_laying (by omega) I5 r32_scr r32_scr hb (fun S6 q6 t6 => oI_nm ⟨(q6.1.lay I5.1).1, c_thrown (by omega) (q6.1.lay I5.1) (oI_nm ?_)⟩)⟩
      rw [w5] at t6 ⊢
      obtain ⟨C6, L6⟩ := co_q hI hP ho F5 M5 q6
      exact h_cmp t6 (cdr2 cd_laying) (fun z => by rw [q6.1.J]; exact J5 z) C6.o (hC S6 C6 L6)
    simp only [et]
    exact ⟨hs.k M5.1 1 (by decide) (by decide), hs.k M5.1 2 (by decide) (by decide), hs.k M5.1 3 (by decide) (by decide), r32_scr, fun z => by have e := h0 z; subst e; exact go, fun z => by have e := h1 z; subst e; exact go⟩
  exact ⟨hs.k rfl 1 (by decide) (by decide), hs.k rfl 2 (by decide) (by decide), hs.k rfl 3 (by decide) (by decide), r32_scr, fun z => core 0 b01_0 (fun _ => rfl) (fun y => absurd z y), fun z => core 1 b01_1 (fun y => absurd y z) (fun _ => rfl)⟩
theorem case_next {d n : Nat} {Q : Out → MS → Prop} {x0 x : Nat} {x4 : Int} {S : MS} (hd : 45 ≤ d) (hc : CO S x) (hs : SC x0 S x4) (hC : ∀ S', CO S' x → LSt x S S' → VL_law_23 d Q n x0 x (x+176) (x+196) (x4 + 6) S') : ((x0 = S.T 16 ∧ S.T 17 < 2147483648) ∧ 0 ≤ (x4 + 1) ∧ (x4 + 1) < S.T 17) ∧ (Mw hL_next yL_next d [vA x, vI (scr S (x4 + 1)), vA (x+196)] S (oI (fun r71 S71 => ((x0 = S71.T 16 ∧ S71.T 17 < 2147483648) ∧ 0 ≤ (x4 + 1) ∧ (x4 + 1) < S71.T 17) ∧ (S71.K (x+176) = 11 ∧ Mw hX11_next yX11_next d [vA (x+176), vI (scr S71 (x4 + 1))] S71 (oI (fun r72 S72 => S72.K (x+176) = 11 ∧ Mw hX11_thrown yX11_thrown d [vA (x+176)] S72 (oI (fun r73 S73 => (R32 r73 ∧ R32 r71) ∧ ((r73 = r71) → R32 r71 ∧ (¬ (r71 = 0) → VL_law_1571 d (VL_law_23 d Q n) Q x0 x (x+176) (x+196) x4 S73) ∧ ((r71 = 0) → (S73.K (x+196) = 14 ∧ 0 ≤ (0 : Int) ∧ (0 : Int) < S73.N (x+196)) ∧ (R32 (lCmp (S73.J (x+196) ((0 : Int)).toNat) (i2L r72)) ∧ (((lCmp (S73.J (x+196) ((0 : Int)).toNat) (i2L r72)) = 0) → VL_law_1571 d (VL_law_23 d Q n) Q x0 x (x+176) (x+196) x4 S73) ∧ (¬ ((lCmp (S73.J (x+196) ((0 : Int)).toNat) (i2L r72)) = 0) → (0 : Int) = 1 ∧ Q (.inl (some (vI 0))) S73)))) ∧ (¬ (r73 = r71) → (0 : Int) = 1 ∧ Q (.inl (some (vI 0))) S73))))))))) := by
  obtain ⟨k, tb, len, hI, hP, hF, ho⟩ := hc
  refine ⟨hs.k rfl 1 (by decide) (by decide), l_next (by omega) hF ho r32_scr (fun S5 F5 M5 J5 => oI_nm ?_)⟩
  have I5 := hI.md M5
  have w5 : S5.I (x+176+1) = S.I (x+176+1) := M5.e (by omega) (by omega)
  have et : ∀ j, scr S5 j = scr S j := scr_T M5.1
  refine ⟨hs.k M5.1 1 (by decide) (by decide), I5.1.1, ?_⟩
  simp only [et]
  refine c_next (by omega) I5 r32_scr (fun S6 q6 t6 => oI_nm ⟨(q6.1.lay I5.1).1, c_thrown (by omega) (q6.1.lay I5.1) (oI_nm ?_)⟩)
  rw [w5] at t6 ⊢
  obtain ⟨C6, L6⟩ := co_q hI hP ho F5 M5 q6
  exact h_cmp t6 (cdr1 cd_next) (fun z => by rw [q6.1.J]; exact J5 z) C6.o (hC S6 C6 L6)
theorem case_fewest {d n : Nat} {Q : Out → MS → Prop} {x0 x : Nat} {x4 : Int} {S : MS} (hd : 45 ≤ d) (hc : CO S x) (hs : SC x0 S x4) (hC : ∀ S', CO S' x → LSt x S S' → VL_law_23 d Q n x0 x (x+176) (x+196) (x4 + 6) S') : ((x0 = S.T 16 ∧ S.T 17 < 2147483648) ∧ 0 ≤ (x4 + 1) ∧ (x4 + 1) < S.T 17) ∧ (Mw hL_fewest yL_fewest d [vA x, vI (scr S (x4 + 1)), vA (x+196)] S (oI (fun r74 S74 => ((x0 = S74.T 16 ∧ S74.T 17 < 2147483648) ∧ 0 ≤ (x4 + 1) ∧ (x4 + 1) < S74.T 17) ∧ (S74.K (x+176) = 11 ∧ Mw hX11_fewest yX11_fewest d [vA (x+176), vI (scr S74 (x4 + 1))] S74 (oI (fun r75 S75 => S75.K (x+176) = 11 ∧ Mw hX11_thrown yX11_thrown d [vA (x+176)] S75 (oI (fun r76 S76 => (R32 r76 ∧ R32 r74) ∧ ((r76 = r74) → R32 r74 ∧ (¬ (r74 = 0) → VL_law_1627 d (VL_law_23 d Q n) Q x0 x (x+176) (x+196) x4 S76) ∧ ((r74 = 0) → (S76.K (x+196) = 14 ∧ 0 ≤ (0 : Int) ∧ (0 : Int) < S76.N (x+196)) ∧ (R32 (lCmp (S76.J (x+196) ((0 : Int)).toNat) (i2L r75)) ∧ (((lCmp (S76.J (x+196) ((0 : Int)).toNat) (i2L r75)) = 0) → VL_law_1627 d (VL_law_23 d Q n) Q x0 x (x+176) (x+196) x4 S76) ∧ (¬ ((lCmp (S76.J (x+196) ((0 : Int)).toNat) (i2L r75)) = 0) → (0 : Int) = 1 ∧ Q (.inl (some (vI 0))) S76)))) ∧ (¬ (r76 = r74) → (0 : Int) = 1 ∧ Q (.inl (some (vI 0))) S76))))))))) := by
  obtain ⟨k, tb, len, hI, hP, hF, ho⟩ := hc
  refine ⟨hs.k rfl 1 (by decide) (by decide), l_fewest (by omega) hF ho r32_scr (fun S5 F5 M5 J5 => oI_nm ?_)⟩
  have I5 := hI.md M5
  have w5 : S5.I (x+176+1) = S.I (x+176+1) := M5.e (by omega) (by omega)
  have et : ∀ j, scr S5 j = scr S j := scr_T M5.1
  refine ⟨hs.k M5.1 1 (by decide) (by decide), I5.1.1, ?_⟩
  simp only [et]
  refine c_fewest (by omega) I5 r32_scr (fun S6 q6 t6 => oI_nm ⟨(q6.1.lay I5.1).1, c_thrown (by omega) (q6.1.lay I5.1) (oI_nm ?_)⟩)
  rw [w5] at t6 ⊢
  obtain ⟨C6, L6⟩ := co_q hI hP ho F5 M5 q6
  exact h_cmp t6 (cdr1 cd_fewest) (fun z => by rw [q6.1.J]; exact J5 z) C6.o (hC S6 C6 L6)
theorem case_bound {d n : Nat} {Q : Out → MS → Prop} {x0 x : Nat} {x4 : Int} {S : MS} (hd : 45 ≤ d) (hc : CO S x) (hs : SC x0 S x4) (hC : ∀ S', CO S' x → LSt x S S' → VL_law_23 d Q n x0 x (x+176) (x+196) (x4 + 6) S') : ((x0 = S.T 16 ∧ S.T 17 < 2147483648) ∧ 0 ≤ (x4 + 1) ∧ (x4 + 1) < S.T 17) ∧ (Mw hL_bound yL_bound d [vA x, vI (scr S (x4 + 1)), vA (x+196)] S (oI (fun r77 S77 => ((x0 = S77.T 16 ∧ S77.T 17 < 2147483648) ∧ 0 ≤ (x4 + 1) ∧ (x4 + 1) < S77.T 17) ∧ (S77.K (x+176) = 11 ∧ Mw hX11_bound yX11_bound d [vA (x+176), vI (scr S77 (x4 + 1))] S77 (oI (fun r78 S78 => S78.K (x+176) = 11 ∧ Mw hX11_thrown yX11_thrown d [vA (x+176)] S78 (oI (fun r79 S79 => (R32 r79 ∧ R32 r77) ∧ ((r79 = r77) → R32 r77 ∧ (¬ (r77 = 0) → VL_law_1683 d (VL_law_23 d Q n) Q x0 x (x+176) (x+196) x4 S79) ∧ ((r77 = 0) → (S79.K (x+196) = 14 ∧ 0 ≤ (0 : Int) ∧ (0 : Int) < S79.N (x+196)) ∧ (R32 (lCmp (S79.J (x+196) ((0 : Int)).toNat) (i2L r78)) ∧ (((lCmp (S79.J (x+196) ((0 : Int)).toNat) (i2L r78)) = 0) → VL_law_1683 d (VL_law_23 d Q n) Q x0 x (x+176) (x+196) x4 S79) ∧ (¬ ((lCmp (S79.J (x+196) ((0 : Int)).toNat) (i2L r78)) = 0) → (0 : Int) = 1 ∧ Q (.inl (some (vI 0))) S79)))) ∧ (¬ (r79 = r77) → (0 : Int) = 1 ∧ Q (.inl (some (vI 0))) S79))))))))) := by
  obtain ⟨k, tb, len, hI, hP, hF, ho⟩ := hc
  refine ⟨hs.k rfl 1 (by decide) (by decide), l_bound (by omega) hF ho r32_scr (fun S5 F5 M5 J5 => oI_nm ?_)⟩
  have I5 := hI.md M5
  have w5 : S5.I (x+176+1) = S.I (x+176+1) := M5.e (by omega) (by omega)
  have et : ∀ j, scr S5 j = scr S j := scr_T M5.1
  refine ⟨hs.k M5.1 1 (by decide) (by decide), I5.1.1, ?_⟩
  simp only [et]
  refine c_bound (by omega) I5 r32_scr (fun S6 q6 t6 => oI_nm ⟨(q6.1.lay I5.1).1, c_thrown (by omega) (q6.1.lay I5.1) (oI_nm ?_)⟩)
  rw [w5] at t6 ⊢
  obtain ⟨C6, L6⟩ := co_q hI hP ho F5 M5 q6
  exact h_cmp t6 (cdr1 cd_bound) (fun z => by rw [q6.1.J]; exact J5 z) C6.o (hC S6 C6 L6)
theorem case_byNext {d n : Nat} {Q : Out → MS → Prop} {x0 x : Nat} {x4 : Int} {S : MS} (hd : 45 ≤ d) (hc : CO S x) (hs : SC x0 S x4) (hC : ∀ S', CO S' x → LSt x S S' → VL_law_23 d Q n x0 x (x+176) (x+196) (x4 + 6) S') : ((x0 = S.T 16 ∧ S.T 17 < 2147483648) ∧ 0 ≤ (x4 + 1) ∧ (x4 + 1) < S.T 17) ∧ (Mw hL_byNext yL_byNext d [vA x, vI (scr S (x4 + 1)), vA (x+196)] S (oI (fun r80 S80 => ((x0 = S80.T 16 ∧ S80.T 17 < 2147483648) ∧ 0 ≤ (x4 + 1) ∧ (x4 + 1) < S80.T 17) ∧ (S80.K (x+176) = 11 ∧ Mw hX11_byNext yX11_byNext d [vA (x+176), vI (scr S80 (x4 + 1))] S80 (oI (fun r81 S81 => S81.K (x+176) = 11 ∧ Mw hX11_thrown yX11_thrown d [vA (x+176)] S81 (oI (fun r82 S82 => (R32 r82 ∧ R32 r80) ∧ ((r82 = r80) → R32 r80 ∧ (¬ (r80 = 0) → VL_law_1739 d (VL_law_23 d Q n) Q x0 x (x+176) (x+196) x4 S82) ∧ ((r80 = 0) → (S82.K (x+196) = 14 ∧ 0 ≤ (0 : Int) ∧ (0 : Int) < S82.N (x+196)) ∧ (R32 (lCmp (S82.J (x+196) ((0 : Int)).toNat) (i2L r81)) ∧ (((lCmp (S82.J (x+196) ((0 : Int)).toNat) (i2L r81)) = 0) → VL_law_1739 d (VL_law_23 d Q n) Q x0 x (x+176) (x+196) x4 S82) ∧ (¬ ((lCmp (S82.J (x+196) ((0 : Int)).toNat) (i2L r81)) = 0) → (0 : Int) = 1 ∧ Q (.inl (some (vI 0))) S82)))) ∧ (¬ (r82 = r80) → (0 : Int) = 1 ∧ Q (.inl (some (vI 0))) S82))))))))) := by
  obtain ⟨k, tb, len, hI, hP, hF, ho⟩ := hc
  refine ⟨hs.k rfl 1 (by decide) (by decide), l_byNext (by omega) hF ho r32_scr (fun S5 F5 M5 J5 => oI_nm ?_)⟩
  have I5 := hI.md M5
  have w5 : S5.I (x+176+1) = S.I (x+176+1) := M5.e (by omega) (by omega)
  have et : ∀ j, scr S5 j = scr S j := scr_T M5.1
  refine ⟨hs.k M5.1 1 (by decide) (by decide), I5.1.1, ?_⟩
  simp only [et]
  refine c_byNext (by omega) I5 r32_scr (fun S6 q6 t6 => oI_nm ⟨(q6.1.lay I5.1).1, c_thrown (by omega) (q6.1.lay I5.1) (oI_nm ?_)⟩)
  rw [w5] at t6 ⊢
  obtain ⟨C6, L6⟩ := co_q hI hP ho F5 M5 q6
  exact h_cmp t6 (cdr1 cd_byNext) (fun z => by rw [q6.1.J]; exact J5 z) C6.o (hC S6 C6 L6)
theorem case_wants {d n : Nat} {Q : Out → MS → Prop} {x0 x : Nat} {x4 : Int} {S : MS} (hd : 45 ≤ d) (hc : CO S x) (hs : SC x0 S x4) (hC : ∀ S', CO S' x → LSt x S S' → VL_law_23 d Q n x0 x (x+176) (x+196) (x4 + 6) S') : ((x0 = S.T 16 ∧ S.T 17 < 2147483648) ∧ 0 ≤ (x4 + 1) ∧ (x4 + 1) < S.T 17) ∧ (((x0 = S.T 16 ∧ S.T 17 < 2147483648) ∧ 0 ≤ (x4 + 2) ∧ (x4 + 2) < S.T 17) ∧ (Mw hL_wants yL_wants d [vA x, vI (scr S (x4 + 1)), vI (scr S (x4 + 2)), vA (x+196)] S (oI (fun r83 S83 => ((x0 = S83.T 16 ∧ S83.T 17 < 2147483648) ∧ 0 ≤ (x4 + 1) ∧ (x4 + 1) < S83.T 17) ∧ (((x0 = S83.T 16 ∧ S83.T 17 < 2147483648) ∧ 0 ≤ (x4 + 2) ∧ (x4 + 2) < S83.T 17) ∧ (S83.K (x+176) = 11 ∧ Mw hX11_wants yX11_wants d [vA (x+176), vI (scr S83 (x4 + 1)), vI (scr S83 (x4 + 2))] S83 (oI (fun r84 S84 => S84.K (x+176) = 11 ∧ Mw hX11_thrown yX11_thrown d [vA (x+176)] S84 (oI (fun r85 S85 => (R32 r85 ∧ R32 r83) ∧ ((r85 = r83) → R32 r83 ∧ (¬ (r83 = 0) → VL_law_1814 d (VL_law_23 d Q n) Q x0 x (x+176) (x+196) x4 S85) ∧ ((r83 = 0) → (S85.K (x+196) = 14 ∧ 0 ≤ (0 : Int) ∧ (0 : Int) < S85.N (x+196)) ∧ (R32 r84 ∧ ((r84 = 0) → VL_law_1808 d (VL_law_23 d Q n) Q x0 x (x+176) (x+196) x4 (0#64) (S85.J (x+196) ((0 : Int)).toNat) S85) ∧ (¬ (r84 = 0) → VL_law_1808 d (VL_law_23 d Q n) Q x0 x (x+176) (x+196) x4 (1#64) (S85.J (x+196) ((0 : Int)).toNat) S85)))) ∧ (¬ (r85 = r83) → (0 : Int) = 1 ∧ Q (.inl (some (vI 0))) S85))))))))))) := by
  obtain ⟨k, tb, len, hI, hP, hF, ho⟩ := hc
  refine ⟨hs.k rfl 1 (by decide) (by decide), hs.k rfl 2 (by decide) (by decide), l_wants (by omega) hF ho r32_scr r32_scr (fun S5 F5 M5 J5 => oI_nm ?_)⟩
  have I5 := hI.md M5
  have w5 : S5.I (x+176+1) = S.I (x+176+1) := M5.e (by omega) (by omega)
  have et : ∀ j, scr S5 j = scr S j := scr_T M5.1
  refine ⟨hs.k M5.1 1 (by decide) (by decide), hs.k M5.1 2 (by decide) (by decide), I5.1.1, ?_⟩
  simp only [et]
  refine c_wants (by omega) I5 r32_scr r32_scr (fun S6 q6 t6 => oI_nm ⟨(q6.1.lay I5.1).1, c_thrown (by omega) (q6.1.lay I5.1) (oI_nm ?_)⟩)
  rw [w5] at t6 ⊢
  obtain ⟨C6, L6⟩ := co_q hI hP ho F5 M5 q6
  unfold VL_law_1808
  exact h_cmpb t6 (cdr2 cd_wants) (fun z => by rw [q6.1.J]; exact J5 z) C6.o (hC S6 C6 L6)
theorem case_plain {d n : Nat} {Q : Out → MS → Prop} {x0 x : Nat} {x4 : Int} {S : MS} (hd : 45 ≤ d) (hc : CO S x) (hs : SC x0 S x4) (hC : ∀ S', CO S' x → LSt x S S' → VL_law_23 d Q n x0 x (x+176) (x+196) (x4 + 6) S') : ((x0 = S.T 16 ∧ S.T 17 < 2147483648) ∧ 0 ≤ (x4 + 1) ∧ (x4 + 1) < S.T 17) ∧ (((x0 = S.T 16 ∧ S.T 17 < 2147483648) ∧ 0 ≤ (x4 + 2) ∧ (x4 + 2) < S.T 17) ∧ (Mw hL_plain yL_plain d [vA x, vI (scr S (x4 + 1)), vI (scr S (x4 + 2)), vA (x+196)] S (oI (fun r86 S86 => ((x0 = S86.T 16 ∧ S86.T 17 < 2147483648) ∧ 0 ≤ (x4 + 1) ∧ (x4 + 1) < S86.T 17) ∧ (((x0 = S86.T 16 ∧ S86.T 17 < 2147483648) ∧ 0 ≤ (x4 + 2) ∧ (x4 + 2) < S86.T 17) ∧ (S86.K (x+176) = 11 ∧ Mw hX11_plain yX11_plain d [vA (x+176), vI (scr S86 (x4 + 1)), vI (scr S86 (x4 + 2))] S86 (oI (fun r87 S87 => S87.K (x+176) = 11 ∧ Mw hX11_thrown yX11_thrown d [vA (x+176)] S87 (oI (fun r88 S88 => (R32 r88 ∧ R32 r86) ∧ ((r88 = r86) → R32 r86 ∧ (¬ (r86 = 0) → VL_law_1882 d (VL_law_23 d Q n) Q x0 x (x+176) (x+196) x4 S88) ∧ ((r86 = 0) → (S88.K (x+196) = 14 ∧ 0 ≤ (0 : Int) ∧ (0 : Int) < S88.N (x+196)) ∧ (R32 (lCmp (S88.J (x+196) ((0 : Int)).toNat) (i2L r87)) ∧ (((lCmp (S88.J (x+196) ((0 : Int)).toNat) (i2L r87)) = 0) → VL_law_1882 d (VL_law_23 d Q n) Q x0 x (x+176) (x+196) x4 S88) ∧ (¬ ((lCmp (S88.J (x+196) ((0 : Int)).toNat) (i2L r87)) = 0) → (0 : Int) = 1 ∧ Q (.inl (some (vI 0))) S88)))) ∧ (¬ (r88 = r86) → (0 : Int) = 1 ∧ Q (.inl (some (vI 0))) S88))))))))))) := by
  obtain ⟨k, tb, len, hI, hP, hF, ho⟩ := hc
  refine ⟨hs.k rfl 1 (by decide) (by decide), hs.k rfl 2 (by decide) (by decide), l_plain (by omega) hF ho r32_scr r32_scr (fun S5 F5 M5 J5 => oI_nm ?_)⟩
  have I5 := hI.md M5
  have w5 : S5.I (x+176+1) = S.I (x+176+1) := M5.e (by omega) (by omega)
  have et : ∀ j, scr S5 j = scr S j := scr_T M5.1
  refine ⟨hs.k M5.1 1 (by decide) (by decide), hs.k M5.1 2 (by decide) (by decide), I5.1.1, ?_⟩
  simp only [et]
  refine c_plain (by omega) I5 r32_scr r32_scr (fun S6 q6 t6 => oI_nm ⟨(q6.1.lay I5.1).1, c_thrown (by omega) (q6.1.lay I5.1) (oI_nm ?_)⟩)
  rw [w5] at t6 ⊢
  obtain ⟨C6, L6⟩ := co_q hI hP ho F5 M5 q6
  exact h_cmp t6 (cdr2 cd_plain) (fun z => by rw [q6.1.J]; exact J5 z) C6.o (hC S6 C6 L6)
theorem case_sorted {d n : Nat} {Q : Out → MS → Prop} {x0 x : Nat} {x4 : Int} {S : MS} (hd : 45 ≤ d) (hc : CO S x) (hs : SC x0 S x4) (hC : ∀ S', CO S' x → LSt x S S' → VL_law_23 d Q n x0 x (x+176) (x+196) (x4 + 6) S') : ((x0 = S.T 16 ∧ S.T 17 < 2147483648) ∧ 0 ≤ (x4 + 1) ∧ (x4 + 1) < S.T 17) ∧ (Mw hL_sorted yL_sorted d [vA x, vI (scr S (x4 + 1)), vA (x+196)] S (oI (fun r89 S89 => ((x0 = S89.T 16 ∧ S89.T 17 < 2147483648) ∧ 0 ≤ (x4 + 1) ∧ (x4 + 1) < S89.T 17) ∧ (S89.K (x+176) = 11 ∧ Mw hX11_sorted yX11_sorted d [vA (x+176), vI (scr S89 (x4 + 1))] S89 (oI (fun r90 S90 => S90.K (x+176) = 11 ∧ Mw hX11_thrown yX11_thrown d [vA (x+176)] S90 (oI (fun r91 S91 => (R32 r91 ∧ R32 r89) ∧ ((r91 = r89) → R32 r89 ∧ (¬ (r89 = 0) → VL_law_1938 d (VL_law_23 d Q n) Q x0 x (x+176) (x+196) x4 S91) ∧ ((r89 = 0) → (S91.K (x+196) = 14 ∧ 0 ≤ (0 : Int) ∧ (0 : Int) < S91.N (x+196)) ∧ (R32 (lCmp (S91.J (x+196) ((0 : Int)).toNat) (i2L r90)) ∧ (((lCmp (S91.J (x+196) ((0 : Int)).toNat) (i2L r90)) = 0) → VL_law_1938 d (VL_law_23 d Q n) Q x0 x (x+176) (x+196) x4 S91) ∧ (¬ ((lCmp (S91.J (x+196) ((0 : Int)).toNat) (i2L r90)) = 0) → (0 : Int) = 1 ∧ Q (.inl (some (vI 0))) S91)))) ∧ (¬ (r91 = r89) → (0 : Int) = 1 ∧ Q (.inl (some (vI 0))) S91))))))))) := by
  obtain ⟨k, tb, len, hI, hP, hF, ho⟩ := hc
  refine ⟨hs.k rfl 1 (by decide) (by decide), l_sorted (by omega) hF ho r32_scr (fun S5 F5 M5 J5 => oI_nm ?_)⟩
  have I5 := hI.md M5
  have w5 : S5.I (x+176+1) = S.I (x+176+1) := M5.e (by omega) (by omega)
  have et : ∀ j, scr S5 j = scr S j := scr_T M5.1
  refine ⟨hs.k M5.1 1 (by decide) (by decide), I5.1.1, ?_⟩
  simp only [et]
  refine c_sorted (by omega) I5 r32_scr (fun S6 q6 t6 => oI_nm ⟨(q6.1.lay I5.1).1, c_thrown (by omega) (q6.1.lay I5.1) (oI_nm ?_)⟩)
  rw [w5] at t6 ⊢
  obtain ⟨C6, L6⟩ := co_q hI hP ho F5 M5 q6
  exact h_cmp t6 (cdr1 cd_sorted) (fun z => by rw [q6.1.J]; exact J5 z) C6.o (hC S6 C6 L6)
theorem case_grown {d n : Nat} {Q : Out → MS → Prop} {x0 x : Nat} {x4 : Int} {S : MS} (hd : 45 ≤ d) (hc : CO S x) (hs : SC x0 S x4) (hC : ∀ S', CO S' x → LSt x S S' → VL_law_23 d Q n x0 x (x+176) (x+196) (x4 + 6) S') : ((x0 = S.T 16 ∧ S.T 17 < 2147483648) ∧ 0 ≤ (x4 + 1) ∧ (x4 + 1) < S.T 17) ∧ (Mw hL_grown yL_grown d [vA x, vI (scr S (x4 + 1)), vA (x+196)] S (oI (fun r92 S92 => ((x0 = S92.T 16 ∧ S92.T 17 < 2147483648) ∧ 0 ≤ (x4 + 1) ∧ (x4 + 1) < S92.T 17) ∧ (S92.K (x+176) = 11 ∧ Mw hX11_grown yX11_grown d [vA (x+176), vI (scr S92 (x4 + 1))] S92 (oI (fun r93 S93 => S93.K (x+176) = 11 ∧ Mw hX11_thrown yX11_thrown d [vA (x+176)] S93 (oI (fun r94 S94 => (R32 r94 ∧ R32 r92) ∧ ((r94 = r92) → R32 r92 ∧ (¬ (r92 = 0) → VL_law_1994 d (VL_law_23 d Q n) Q x0 x (x+176) (x+196) x4 S94) ∧ ((r92 = 0) → (S94.K (x+196) = 14 ∧ 0 ≤ (0 : Int) ∧ (0 : Int) < S94.N (x+196)) ∧ (R32 (lCmp (S94.J (x+196) ((0 : Int)).toNat) (i2L r93)) ∧ (((lCmp (S94.J (x+196) ((0 : Int)).toNat) (i2L r93)) = 0) → VL_law_1994 d (VL_law_23 d Q n) Q x0 x (x+176) (x+196) x4 S94) ∧ (¬ ((lCmp (S94.J (x+196) ((0 : Int)).toNat) (i2L r93)) = 0) → (0 : Int) = 1 ∧ Q (.inl (some (vI 0))) S94)))) ∧ (¬ (r94 = r92) → (0 : Int) = 1 ∧ Q (.inl (some (vI 0))) S94))))))))) := by
  obtain ⟨k, tb, len, hI, hP, hF, ho⟩ := hc
  refine ⟨hs.k rfl 1 (by decide) (by decide), l_grown (by omega) hF ho r32_scr (fun c S5 u F5 M5 g1 g2 g3 J5 => oI_nm ?_) (fun c S5 F5 M5 => oI_nm ?_)⟩
  · have I5 := hI.md M5
    have w5 : S5.I (x+176+1) = S.I (x+176+1) := M5.e (by omega) (by omega)
    have et : ∀ j, scr S5 j = scr S j := scr_T M5.1
    refine ⟨hs.k M5.1 1 (by decide) (by decide), I5.1.1, ?_⟩
    simp only [et]
    refine c_grown (by omega) I5 r32_scr (fun _ S6 w' q6 t6 k1 k2 k3 => oI_nm ⟨(q6.1.lay I5.1).1, c_thrown (by omega) (q6.1.lay I5.1) (oI_nm ?_)⟩) (fun y => absurd c y)
    rw [w5] at k2 k3 ⊢
    have F5' := F5.nt k1 (fun q h1 h2 => (k2 q h1 h2).trans (g2 q h1 h2).symm) (k3.trans g3.symm)
    obtain ⟨C6, L6⟩ := co_u hI hP ho F5' M5 q6
    exact h_cmp (A := (0, ((ntL (S.I (x+176+1))).length : Int) - ((ntL (S.I (x+176+1))).filter (ntK (scr S (x4 + 1)).toNat)).length)) t6 r32_0 (fun _ => by rw [q6.1.J]; exact J5) C6.o (hC S6 C6 L6)
  · have I5 := hI.md M5
    have w5 : S5.I (x+176+1) = S.I (x+176+1) := M5.e (by omega) (by omega)
    have et : ∀ j, scr S5 j = scr S j := scr_T M5.1
    refine ⟨hs.k M5.1 1 (by decide) (by decide), I5.1.1, ?_⟩
    simp only [et]
    refine c_grown (by omega) I5 r32_scr (fun y => absurd y c) (fun _ S6 q6 t6 => oI_nm ⟨(q6.1.lay I5.1).1, c_thrown (by omega) (q6.1.lay I5.1) (oI_nm ?_)⟩)
    obtain ⟨C6, L6⟩ := co_q hI hP ho F5 M5 q6
    exact h_cmp (A := (1, 0)) t6 r32_1 (fun z => absurd z (by decide)) C6.o (hC S6 C6 L6)
theorem case_played {d n : Nat} {Q : Out → MS → Prop} {x0 x : Nat} {x4 : Int} {S : MS} (hd : 45 ≤ d) (hc : CO S x) (hs : SC x0 S x4) (hC : ∀ S', CO S' x → LSt x S S' → VL_law_23 d Q n x0 x (x+176) (x+196) (x4 + 6) S') : ((x0 = S.T 16 ∧ S.T 17 < 2147483648) ∧ 0 ≤ (x4 + 1) ∧ (x4 + 1) < S.T 17) ∧ (((x0 = S.T 16 ∧ S.T 17 < 2147483648) ∧ 0 ≤ (x4 + 2) ∧ (x4 + 2) < S.T 17) ∧ (((x0 = S.T 16 ∧ S.T 17 < 2147483648) ∧ 0 ≤ (x4 + 3) ∧ (x4 + 3) < S.T 17) ∧ (((x0 = S.T 16 ∧ S.T 17 < 2147483648) ∧ 0 ≤ (x4 + 4) ∧ (x4 + 4) < S.T 17) ∧ (Mw hL_played yL_played d [vA x, vI (scr S (x4 + 1)), vI (scr S (x4 + 2)), vI (scr S (x4 + 3)), vI (scr S (x4 + 4)), vA (x+196)] S (oI (fun r95 S95 => ((x0 = S95.T 16 ∧ S95.T 17 < 2147483648) ∧ 0 ≤ (x4 + 1) ∧ (x4 + 1) < S95.T 17) ∧ (((x0 = S95.T 16 ∧ S95.T 17 < 2147483648) ∧ 0 ≤ (x4 + 2) ∧ (x4 + 2) < S95.T 17) ∧ (((x0 = S95.T 16 ∧ S95.T 17 < 2147483648) ∧ 0 ≤ (x4 + 3) ∧ (x4 + 3) < S95.T 17) ∧ (((x0 = S95.T 16 ∧ S95.T 17 < 2147483648) ∧ 0 ≤ (x4 + 4) ∧ (x4 + 4) < S95.T 17) ∧ (S95.K (x+176) = 11 ∧ Mw hX11_played yX11_played d [vA (x+176), vI (scr S95 (x4 + 1)), vI (scr S95 (x4 + 2)), vI (scr S95 (x4 + 3)), vI (scr S95 (x4 + 4))] S95 (oI (fun r96 S96 => S96.K (x+176) = 11 ∧ Mw hX11_thrown yX11_thrown d [vA (x+176)] S96 (oI (fun r97 S97 => (R32 r97 ∧ R32 r95) ∧ ((r97 = r95) → R32 r95 ∧ (¬ (r95 = 0) → VL_law_2086 d (VL_law_23 d Q n) Q x0 x (x+176) (x+196) x4 S97) ∧ ((r95 = 0) → (S97.K (x+196) = 14 ∧ 0 ≤ (0 : Int) ∧ (0 : Int) < S97.N (x+196)) ∧ (R32 (lCmp (S97.J (x+196) ((0 : Int)).toNat) (i2L r96)) ∧ (((lCmp (S97.J (x+196) ((0 : Int)).toNat) (i2L r96)) = 0) → VL_law_2086 d (VL_law_23 d Q n) Q x0 x (x+176) (x+196) x4 S97) ∧ (¬ ((lCmp (S97.J (x+196) ((0 : Int)).toNat) (i2L r96)) = 0) → (0 : Int) = 1 ∧ Q (.inl (some (vI 0))) S97)))) ∧ (¬ (r97 = r95) → (0 : Int) = 1 ∧ Q (.inl (some (vI 0))) S97))))))))))))))) := by
  obtain ⟨k, tb, len, hI, hP, hF, ho⟩ := hc
  refine ⟨hs.k rfl 1 (by decide) (by decide), hs.k rfl 2 (by decide) (by decide), hs.k rfl 3 (by decide) (by decide), hs.k rfl 4 (by decide) (by decide), l_played (by omega) hF ho r32_scr r32_scr r32_scr (fun S5 F5 M5 J5 => oI_nm ?_)⟩
  have I5 := hI.md M5
  have w5 : S5.I (x+176+1) = S.I (x+176+1) := M5.e (by omega) (by omega)
  have et : ∀ j, scr S5 j = scr S j := scr_T M5.1
  refine ⟨hs.k M5.1 1 (by decide) (by decide), hs.k M5.1 2 (by decide) (by decide), hs.k M5.1 3 (by decide) (by decide), hs.k M5.1 4 (by decide) (by decide), I5.1.1, ?_⟩
  simp only [et]
  refine c_played (by omega) I5 r32_scr r32_scr  r32_scr (fun S6 q6 t6 => oI_nm ⟨(q6.1.lay I5.1).1, c_thrown (by omega) (q6.1.lay I5.1) (oI_nm ?_)⟩)
  rw [w5] at t6 ⊢
  obtain ⟨C6, L6⟩ := co_q hI hP ho F5 M5 q6
  exact h_cmp t6 (cdr3 cd_played) (fun z => by rw [q6.1.J]; exact J5 z) C6.o (hC S6 C6 L6)
theorem case_sures {d n : Nat} {Q : Out → MS → Prop} {x0 x : Nat} {x4 : Int} {S : MS} (hd : 45 ≤ d) (hc : CO S x) (hs : SC x0 S x4) (hC : ∀ S', CO S' x → LSt x S S' → VL_law_23 d Q n x0 x (x+176) (x+196) (x4 + 6) S') : ((x0 = S.T 16 ∧ S.T 17 < 2147483648) ∧ 0 ≤ (x4 + 1) ∧ (x4 + 1) < S.T 17) ∧ (R32 (scr S (x4 + 1)) ∧ (((scr S (x4 + 1)) = 0) → VL_law_2104 d (VL_law_23 d Q n) Q x0 x (x+176) (x+196) x4 0 x S) ∧ (¬ ((scr S (x4 + 1)) = 0) → VL_law_2104 d (VL_law_23 d Q n) Q x0 x (x+176) (x+196) x4 1 x S)) := by
  obtain ⟨k, tb, len, hI, hP, hF, ho⟩ := hc
  have core : ∀ bl, B01 bl → (scr S (x4 + 1) = 0 → bl = 0) → (¬ scr S (x4 + 1) = 0 → bl = 1) → VL_law_2104 d (VL_law_23 d Q n) Q x0 x (x+176) (x+196) x4 bl x S := by
    intro bl hb h0 h1
    unfold VL_law_2104
    refine ⟨hF.1.1.1, q_sures (by omega) hF.1 hb (fun S5 C5 J5 => oI_nm ?_)⟩
    have M5 := J5.md
    have F5 := hF.q J5 C5
    have I5 := hI.md M5
    have w5 : S5.I (x+176+1) = S.I (x+176+1) := M5.e (by omega) (by omega)
    have et : ∀ j, scr S5 j = scr S j := scr_T M5.1
    have go : VL_law_2122 d (VL_law_23 d Q n) Q x0 x (x+176) (x+196) x4 bl (x+176) (nm ((A_sures k (S.I (x+176+1)) bl : Nat) : Int)) S5 := by
      unfold VL_law_2122
      refine ⟨I5.1.1, c_sures (by omega) I5 hb (fun S6 q6 t6 => oI_nm ?_)⟩
      rw [w5]
      obtain ⟨C6, L6⟩ := co_q hI hP ho F5 M5 q6
      exact d_cmp (hC S6 C6 L6)
    simp only [et]
    exact ⟨hs.k M5.1 1 (by decide) (by decide), r32_scr, fun z => by have e := h0 z; subst e; exact go, fun z => by have e := h1 z; subst e; exact go⟩
  exact ⟨hs.k rfl 1 (by decide) (by decide), r32_scr, fun z => core 0 b01_0 (fun _ => rfl) (fun y => absurd z y), fun z => core 1 b01_1 (fun y => absurd y z) (fun _ => rfl)⟩
theorem case_pair {d n : Nat} {Q : Out → MS → Prop} {x0 x : Nat} {x4 : Int} {S : MS} (hd : 45 ≤ d) (hc : CO S x) (hs : SC x0 S x4) (hC : ∀ S', CO S' x → LSt x S S' → VL_law_23 d Q n x0 x (x+176) (x+196) (x4 + 6) S') : ((x0 = S.T 16 ∧ S.T 17 < 2147483648) ∧ 0 ≤ (x4 + 1) ∧ (x4 + 1) < S.T 17) ∧ (S.K x = 10 ∧ Mw hX10_pair yX10_pair d [vA x, vI (scr S (x4 + 1))] S (oI (fun r98 S98 => ((x0 = S98.T 16 ∧ S98.T 17 < 2147483648) ∧ 0 ≤ (x4 + 1) ∧ (x4 + 1) < S98.T 17) ∧ (S98.K (x+176) = 11 ∧ Mw hX11_pair yX11_pair d [vA (x+176), vI (scr S98 (x4 + 1))] S98 (oI (fun r99 S99 => (R32 r98 ∧ R32 r99) ∧ ((r98 = r99) → VL_law_2634 d (VL_law_23 d Q n) Q x0 x (x+176) (x+196) x4 S99) ∧ (¬ (r98 = r99) → (0 : Int) = 1 ∧ Q (.inl (some (vI 0))) S99))))))) := by
  obtain ⟨k, tb, len, hI, hP, hF, ho⟩ := hc
  refine ⟨hs.k rfl 1 (by decide) (by decide), hF.1.1.1, q_pair (by omega) hF.1 r32_scr (fun S5 C5 J5 => oI_nm ?_)⟩
  have M5 := J5.md
  have F5 := hF.q J5 C5
  have I5 := hI.md M5
  have w5 : S5.I (x+176+1) = S.I (x+176+1) := M5.e (by omega) (by omega)
  have et : ∀ j, scr S5 j = scr S j := scr_T M5.1
  refine ⟨hs.k M5.1 1 (by decide) (by decide), I5.1.1, ?_⟩
  simp only [et]
  refine c_pair (by omega) I5 r32_scr (fun S6 q6 t6 => oI_nm ?_)
  rw [w5]
  obtain ⟨C6, L6⟩ := co_q hI hP ho F5 M5 q6
  exact d_cmp (hC S6 C6 L6)
theorem case_mean {d n : Nat} {Q : Out → MS → Prop} {x0 x : Nat} {x4 : Int} {S : MS} (hd : 45 ≤ d) (hc : CO S x) (hs : SC x0 S x4) (hC : ∀ S', CO S' x → LSt x S S' → VL_law_23 d Q n x0 x (x+176) (x+196) (x4 + 6) S') : ((x0 = S.T 16 ∧ S.T 17 < 2147483648) ∧ 0 ≤ (x4 + 1) ∧ (x4 + 1) < S.T 17) ∧ (Mw hL_mean yL_mean d [vA x, vI (scr S (x4 + 1)), vA (x+196)] S (oI (fun r100 S100 => ((x0 = S100.T 16 ∧ S100.T 17 < 2147483648) ∧ 0 ≤ (x4 + 1) ∧ (x4 + 1) < S100.T 17) ∧ (S100.K (x+176) = 11 ∧ Mw hX11_mean yX11_mean d [vA (x+176), vI (scr S100 (x4 + 1))] S100 (oI (fun r101 S101 => S101.K (x+176) = 11 ∧ Mw hX11_thrown yX11_thrown d [vA (x+176)] S101 (oI (fun r102 S102 => (R32 r102 ∧ R32 r100) ∧ ((r102 = r100) → R32 r100 ∧ (¬ (r100 = 0) → VL_law_2208 d (VL_law_23 d Q n) Q x0 x (x+176) (x+196) x4 S102) ∧ ((r100 = 0) → (S102.K (x+196) = 14 ∧ 0 ≤ (0 : Int) ∧ (0 : Int) < S102.N (x+196)) ∧ (R32 (lCmp (S102.J (x+196) ((0 : Int)).toNat) (i2L r101)) ∧ (((lCmp (S102.J (x+196) ((0 : Int)).toNat) (i2L r101)) = 0) → VL_law_2208 d (VL_law_23 d Q n) Q x0 x (x+176) (x+196) x4 S102) ∧ (¬ ((lCmp (S102.J (x+196) ((0 : Int)).toNat) (i2L r101)) = 0) → (0 : Int) = 1 ∧ Q (.inl (some (vI 0))) S102)))) ∧ (¬ (r102 = r100) → (0 : Int) = 1 ∧ Q (.inl (some (vI 0))) S102))))))))) := by
  obtain ⟨k, tb, len, hI, hP, hF, ho⟩ := hc
  refine ⟨hs.k rfl 1 (by decide) (by decide), l_mean (by omega) hF ho r32_scr (fun S5 F5 M5 J5 => oI_nm ?_)⟩
  have I5 := hI.md M5
  have w5 : S5.I (x+176+1) = S.I (x+176+1) := M5.e (by omega) (by omega)
  have et : ∀ j, scr S5 j = scr S j := scr_T M5.1
  refine ⟨hs.k M5.1 1 (by decide) (by decide), I5.1.1, ?_⟩
  simp only [et]
  refine c_mean (by omega) I5 r32_scr (fun S6 q6 t6 => oI_nm ⟨(q6.1.lay I5.1).1, c_thrown (by omega) (q6.1.lay I5.1) (oI_nm ?_)⟩)
  rw [w5] at t6 ⊢
  obtain ⟨C6, L6⟩ := co_q hI hP ho F5 M5 q6
  exact h_cmp t6 (cdr1 cd_mean) (fun z => by rw [q6.1.J]; exact J5 z) C6.o (hC S6 C6 L6)
theorem case_cheapest {d n : Nat} {Q : Out → MS → Prop} {x0 x : Nat} {x4 : Int} {S : MS} (hd : 45 ≤ d) (hc : CO S x) (hs : SC x0 S x4) (hC : ∀ S', CO S' x → LSt x S S' → VL_law_23 d Q n x0 x (x+176) (x+196) (x4 + 6) S') : ((x0 = S.T 16 ∧ S.T 17 < 2147483648) ∧ 0 ≤ (x4 + 1) ∧ (x4 + 1) < S.T 17) ∧ (R32 (scr S (x4 + 1)) ∧ (((scr S (x4 + 1)) = 0) → VL_law_2226 d (VL_law_23 d Q n) Q x0 x (x+176) (x+196) x4 0 x S) ∧ (¬ ((scr S (x4 + 1)) = 0) → VL_law_2226 d (VL_law_23 d Q n) Q x0 x (x+176) (x+196) x4 1 x S)) := by
  obtain ⟨k, tb, len, hI, hP, hF, ho⟩ := hc
  have core : ∀ bl, B01 bl → (scr S (x4 + 1) = 0 → bl = 0) → (¬ scr S (x4 + 1) = 0 → bl = 1) → VL_law_2226 d (VL_law_23 d Q n) Q x0 x (x+176) (x+196) x4 bl x S := by
    intro bl hb h0 h1
    unfold VL_law_2226
    refine ⟨hF.1.1.1, q_cheapest (by omega) hF.1 hb (fun S5 C5 J5 => oI_nm ?_)⟩
    have M5 := J5.md
    have F5 := hF.q J5 C5
    have I5 := hI.md M5
    have w5 : S5.I (x+176+1) = S.I (x+176+1) := M5.e (by omega) (by omega)
    have et : ∀ j, scr S5 j = scr S j := scr_T M5.1
    have go : VL_law_2244 d (VL_law_23 d Q n) Q x0 x (x+176) (x+196) x4 bl (x+176) (nm (A_cheapest k (S.I (x+176+1)) bl)) S5 := by
      unfold VL_law_2244
      refine ⟨I5.1.1, c_cheapest (by omega) I5 hb (fun S6 q6 t6 => oI_nm ?_)⟩
      rw [w5]
      obtain ⟨C6, L6⟩ := co_q hI hP ho F5 M5 q6
      exact d_cmp (hC S6 C6 L6)
    simp only [et]
    exact ⟨hs.k M5.1 1 (by decide) (by decide), r32_scr, fun z => by have e := h0 z; subst e; exact go, fun z => by have e := h1 z; subst e; exact go⟩
  exact ⟨hs.k rfl 1 (by decide) (by decide), r32_scr, fun z => core 0 b01_0 (fun _ => rfl) (fun y => absurd z y), fun z => core 1 b01_1 (fun y => absurd y z) (fun _ => rfl)⟩
theorem case_where {d n : Nat} {Q : Out → MS → Prop} {x0 x : Nat} {x4 : Int} {S : MS} (hd : 45 ≤ d) (hc : CO S x) (hs : SC x0 S x4) (hC : ∀ S', CO S' x → LSt x S S' → VL_law_23 d Q n x0 x (x+176) (x+196) (x4 + 6) S') : ((x0 = S.T 16 ∧ S.T 17 < 2147483648) ∧ 0 ≤ (x4 + 1) ∧ (x4 + 1) < S.T 17) ∧ (((x0 = S.T 16 ∧ S.T 17 < 2147483648) ∧ 0 ≤ (x4 + 2) ∧ (x4 + 2) < S.T 17) ∧ (Mw hL_where yL_where d [vA x, vI (scr S (x4 + 1)), vI (scr S (x4 + 2)), vA (x+196)] S (oI (fun r103 S103 => ((x0 = S103.T 16 ∧ S103.T 17 < 2147483648) ∧ 0 ≤ (x4 + 1) ∧ (x4 + 1) < S103.T 17) ∧ (((x0 = S103.T 16 ∧ S103.T 17 < 2147483648) ∧ 0 ≤ (x4 + 2) ∧ (x4 + 2) < S103.T 17) ∧ (S103.K (x+176) = 11 ∧ Mw hX11_where yX11_where d [vA (x+176), vI (scr S103 (x4 + 1)), vI (scr S103 (x4 + 2))] S103 (oI (fun r104 S104 => S104.K (x+176) = 11 ∧ Mw hX11_thrown yX11_thrown d [vA (x+176)] S104 (oI (fun r105 S105 => (R32 r105 ∧ R32 r103) ∧ ((r105 = r103) → R32 r103 ∧ (¬ (r103 = 0) → VL_law_2317 d (VL_law_23 d Q n) Q x0 x (x+176) (x+196) x4 S105) ∧ ((r103 = 0) → (S105.K (x+196) = 14 ∧ 0 ≤ (0 : Int) ∧ (0 : Int) < S105.N (x+196)) ∧ (R32 (lCmp (S105.J (x+196) ((0 : Int)).toNat) (i2L r104)) ∧ (((lCmp (S105.J (x+196) ((0 : Int)).toNat) (i2L r104)) = 0) → VL_law_2317 d (VL_law_23 d Q n) Q x0 x (x+176) (x+196) x4 S105) ∧ (¬ ((lCmp (S105.J (x+196) ((0 : Int)).toNat) (i2L r104)) = 0) → (0 : Int) = 1 ∧ Q (.inl (some (vI 0))) S105)))) ∧ (¬ (r105 = r103) → (0 : Int) = 1 ∧ Q (.inl (some (vI 0))) S105))))))))))) := by
  obtain ⟨k, tb, len, hI, hP, hF, ho⟩ := hc
  refine ⟨hs.k rfl 1 (by decide) (by decide), hs.k rfl 2 (by decide) (by decide), l_where (by omega) hF ho r32_scr r32_scr (fun S5 F5 M5 J5 => oI_nm ?_)⟩
  have I5 := hI.md M5
  have w5 : S5.I (x+176+1) = S.I (x+176+1) := M5.e (by omega) (by omega)
  have et : ∀ j, scr S5 j = scr S j := scr_T M5.1
  refine ⟨hs.k M5.1 1 (by decide) (by decide), hs.k M5.1 2 (by decide) (by decide), I5.1.1, ?_⟩
  simp only [et]
  refine c_where (by omega) I5 r32_scr r32_scr (fun S6 q6 t6 => oI_nm ⟨(q6.1.lay I5.1).1, c_thrown (by omega) (q6.1.lay I5.1) (oI_nm ?_)⟩)
  rw [w5] at t6 ⊢
  obtain ⟨C6, L6⟩ := co_q hI hP ho F5 M5 q6
  exact h_cmp t6 (cdr1 cd_where) (fun z => by rw [q6.1.J]; exact J5 z) C6.o (hC S6 C6 L6)
theorem case_tree {d n : Nat} {Q : Out → MS → Prop} {x0 x : Nat} {x4 : Int} {S : MS} (hd : 45 ≤ d) (hc : CO S x) (hs : SC x0 S x4) (hC : ∀ S', CO S' x → LSt x S S' → VL_law_23 d Q n x0 x (x+176) (x+196) (x4 + 6) S') : ((x0 = S.T 16 ∧ S.T 17 < 2147483648) ∧ 0 ≤ (x4 + 1) ∧ (x4 + 1) < S.T 17) ∧ (((x0 = S.T 16 ∧ S.T 17 < 2147483648) ∧ 0 ≤ (x4 + 2) ∧ (x4 + 2) < S.T 17) ∧ (R32 (scr S (x4 + 2)) ∧ (((scr S (x4 + 2)) = 0) → VL_law_2341 d (VL_law_23 d Q n) Q x0 x (x+176) (x+196) x4 0 (scr S (x4 + 1)) x S) ∧ (¬ ((scr S (x4 + 2)) = 0) → VL_law_2341 d (VL_law_23 d Q n) Q x0 x (x+176) (x+196) x4 1 (scr S (x4 + 1)) x S))) := by
  obtain ⟨k, tb, len, hI, hP, hF, ho⟩ := hc
  have core : ∀ bl, B01 bl → (scr S (x4 + 2) = 0 → bl = 0) → (¬ scr S (x4 + 2) = 0 → bl = 1) → VL_law_2341 d (VL_law_23 d Q n) Q x0 x (x+176) (x+196) x4 bl (scr S (x4 + 1)) x S := by
    intro bl hb h0 h1
    unfold VL_law_2341
    refine l_tree (by omega) hF ho r32_scr hb (fun S5 F5 M5 J5 => oI_nm ?_)
    have I5 := hI.md M5
    have w5 : S5.I (x+176+1) = S.I (x+176+1) := M5.e (by omega) (by omega)
    have et : ∀ j, scr S5 j = scr S j := scr_T M5.1
    have go : VL_law_2368 d (VL_law_23 d Q n) Q x0 x (x+176) (x+196) x4 (nm (A_tree k (S.I (x+176+1)) tb len (scr S (x4 + 1)) bl).1) bl (scr S (x4 + 1)) (x+176) S5 := by
      unfold VL_law_2368
      refine ⟨I5.1.1, c_tree (by omega) I5 (hP.md M5) r32_scr hb (fun S6 q6 t6 => oI_nm ⟨(q6.1.lay I5.1).1, c_thrown (by omega) (q6.1.lay I5.1) (oI_nm ?_)⟩)⟩
      rw [w5] at t6 ⊢
      obtain ⟨C6, L6⟩ := co_t hI hP ho F5 M5 q6
      exact h_cmp t6 (cdr2 cd_tree) (fun z => by rw [q6.1.J]; exact J5 z) C6.o (hC S6 C6 L6)
    simp only [et]
    exact ⟨hs.k M5.1 1 (by decide) (by decide), hs.k M5.1 2 (by decide) (by decide), r32_scr, fun z => by have e := h0 z; subst e; exact go, fun z => by have e := h1 z; subst e; exact go⟩
  exact ⟨hs.k rfl 1 (by decide) (by decide), hs.k rfl 2 (by decide) (by decide), r32_scr, fun z => core 0 b01_0 (fun _ => rfl) (fun y => absurd z y), fun z => core 1 b01_1 (fun y => absurd y z) (fun _ => rfl)⟩
theorem case_needless {d n : Nat} {Q : Out → MS → Prop} {x0 x : Nat} {x4 : Int} {S : MS} (hd : 45 ≤ d) (hc : CO S x) (hs : SC x0 S x4) (hC : ∀ S', CO S' x → LSt x S S' → VL_law_23 d Q n x0 x (x+176) (x+196) (x4 + 6) S') : S.K x = 10 ∧ Mw hX10_needless yX10_needless d [vA x] S (oI (fun r106 S106 => S106.K (x+176) = 11 ∧ Mw hX11_needless yX11_needless d [vA (x+176)] S106 (oI (fun r107 S107 => (R32 r106 ∧ R32 r107) ∧ ((r106 = r107) → VL_law_2634 d (VL_law_23 d Q n) Q x0 x (x+176) (x+196) x4 S107) ∧ (¬ (r106 = r107) → (0 : Int) = 1 ∧ Q (.inl (some (vI 0))) S107))))) := by
  obtain ⟨k, tb, len, hI, hP, hF, ho⟩ := hc
  refine ⟨hF.1.1.1, q_needless (by omega) hF.1 (fun S5 C5 J5 => oI_nm ?_)⟩
  have M5 := J5.md
  have F5 := hF.q J5 C5
  have I5 := hI.md M5
  have w5 : S5.I (x+176+1) = S.I (x+176+1) := M5.e (by omega) (by omega)
  have et : ∀ j, scr S5 j = scr S j := scr_T M5.1
  refine ⟨I5.1.1, ?_⟩
  refine c_needless (by omega) I5 (fun S6 q6 t6 => oI_nm ?_)
  rw [w5]
  obtain ⟨C6, L6⟩ := co_q hI hP ho F5 M5 q6
  exact d_cmp (hC S6 C6 L6)
theorem case_stands {d n : Nat} {Q : Out → MS → Prop} {x0 x : Nat} {x4 : Int} {S : MS} (hd : 45 ≤ d) (hc : CO S x) (hs : SC x0 S x4) (hC : ∀ S', CO S' x → LSt x S S' → VL_law_23 d Q n x0 x (x+176) (x+196) (x4 + 6) S') : ((x0 = S.T 16 ∧ S.T 17 < 2147483648) ∧ 0 ≤ (x4 + 1) ∧ (x4 + 1) < S.T 17) ∧ (((x0 = S.T 16 ∧ S.T 17 < 2147483648) ∧ 0 ≤ (x4 + 2) ∧ (x4 + 2) < S.T 17) ∧ (R32 (scr S (x4 + 2)) ∧ (((scr S (x4 + 2)) = 0) → VL_law_2438 d (VL_law_23 d Q n) Q x0 x (x+176) (x+196) x4 0 (scr S (x4 + 1)) x S) ∧ (¬ ((scr S (x4 + 2)) = 0) → VL_law_2438 d (VL_law_23 d Q n) Q x0 x (x+176) (x+196) x4 1 (scr S (x4 + 1)) x S))) := by
  obtain ⟨k, tb, len, hI, hP, hF, ho⟩ := hc
  have core : ∀ bl, B01 bl → (scr S (x4 + 2) = 0 → bl = 0) → (¬ scr S (x4 + 2) = 0 → bl = 1) → VL_law_2438 d (VL_law_23 d Q n) Q x0 x (x+176) (x+196) x4 bl (scr S (x4 + 1)) x S := by
    intro bl hb h0 h1
    unfold VL_law_2438
    refine l_stands (by omega) hF ho r32_scr hb (fun S5 F5 M5 J5 => oI_nm ?_)
    have I5 := hI.md M5
    have w5 : S5.I (x+176+1) = S.I (x+176+1) := M5.e (by omega) (by omega)
    have et : ∀ j, scr S5 j = scr S j := scr_T M5.1
    have go : VL_law_2465 d (VL_law_23 d Q n) Q x0 x (x+176) (x+196) x4 (nm (A_stands k (S.I (x+176+1)) (scr S (x4 + 1)) bl).1) bl (scr S (x4 + 1)) (x+176) S5 := by
      unfold VL_law_2465
      refine ⟨I5.1.1, c_stands (by omega) I5 r32_scr hb (fun S6 q6 t6 => oI_nm ⟨(q6.1.lay I5.1).1, c_thrown (by omega) (q6.1.lay I5.1) (oI_nm ?_)⟩)⟩
      rw [w5] at t6 ⊢
      obtain ⟨C6, L6⟩ := co_q hI hP ho F5 M5 q6
      exact h_cmp t6 (cdr1 cd_stands) (fun z => by rw [q6.1.J]; exact J5 z) C6.o (hC S6 C6 L6)
    simp only [et]
    exact ⟨hs.k M5.1 1 (by decide) (by decide), hs.k M5.1 2 (by decide) (by decide), r32_scr, fun z => by have e := h0 z; subst e; exact go, fun z => by have e := h1 z; subst e; exact go⟩
  exact ⟨hs.k rfl 1 (by decide) (by decide), hs.k rfl 2 (by decide) (by decide), r32_scr, fun z => core 0 b01_0 (fun _ => rfl) (fun y => absurd z y), fun z => core 1 b01_1 (fun y => absurd y z) (fun _ => rfl)⟩
theorem case_laid {d n : Nat} {Q : Out → MS → Prop} {x0 x : Nat} {x4 : Int} {S : MS} (hd : 45 ≤ d) (hc : CO S x) (hs : SC x0 S x4) (hC : ∀ S', CO S' x → LSt x S S' → VL_law_23 d Q n x0 x (x+176) (x+196) (x4 + 6) S') : ((x0 = S.T 16 ∧ S.T 17 < 2147483648) ∧ 0 ≤ (x4 + 1) ∧ (x4 + 1) < S.T 17) ∧ (((x0 = S.T 16 ∧ S.T 17 < 2147483648) ∧ 0 ≤ (x4 + 2) ∧ (x4 + 2) < S.T 17) ∧ (R32 (scr S (x4 + 2)) ∧ (((scr S (x4 + 2)) = 0) → VL_law_2522 d (VL_law_23 d Q n) Q x0 x (x+176) (x+196) x4 0 (scr S (x4 + 1)) x S) ∧ (¬ ((scr S (x4 + 2)) = 0) → VL_law_2522 d (VL_law_23 d Q n) Q x0 x (x+176) (x+196) x4 1 (scr S (x4 + 1)) x S))) := by
  obtain ⟨k, tb, len, hI, hP, hF, ho⟩ := hc
  have core : ∀ bl, B01 bl → (scr S (x4 + 2) = 0 → bl = 0) → (¬ scr S (x4 + 2) = 0 → bl = 1) → VL_law_2522 d (VL_law_23 d Q n) Q x0 x (x+176) (x+196) x4 bl (scr S (x4 + 1)) x S := by
    intro bl hb h0 h1
    unfold VL_law_2522
    refine l_laid (by omega) hF ho r32_scr hb (fun S5 F5 M5 J5 => oI_nm ?_)
    have I5 := hI.md M5
    have w5 : S5.I (x+176+1) = S.I (x+176+1) := M5.e (by omega) (by omega)
    have et : ∀ j, scr S5 j = scr S j := scr_T M5.1
    have go : VL_law_2549 d (VL_law_23 d Q n) Q x0 x (x+176) (x+196) x4 (nm (A_laid k (S.I (x+176+1)) (scr S (x4 + 1)) bl).1) bl (scr S (x4 + 1)) (x+176) S5 := by
      unfold VL_law_2549
      refine ⟨I5.1.1, c_laid (by omega) I5 r32_scr hb (fun S6 q6 t6 => oI_nm ⟨(q6.1.lay I5.1).1, c_thrown (by omega) (q6.1.lay I5.1) (oI_nm ?_)⟩)⟩
      rw [w5] at t6 ⊢
      obtain ⟨C6, L6⟩ := co_q hI hP ho F5 M5 q6
      exact h_cmp t6 (cdr1 cd_laid) (fun z => by rw [q6.1.J]; exact J5 z) C6.o (hC S6 C6 L6)
    simp only [et]
    exact ⟨hs.k M5.1 1 (by decide) (by decide), hs.k M5.1 2 (by decide) (by decide), r32_scr, fun z => by have e := h0 z; subst e; exact go, fun z => by have e := h1 z; subst e; exact go⟩
  exact ⟨hs.k rfl 1 (by decide) (by decide), hs.k rfl 2 (by decide) (by decide), r32_scr, fun z => core 0 b01_0 (fun _ => rfl) (fun y => absurd z y), fun z => core 1 b01_1 (fun y => absurd y z) (fun _ => rfl)⟩
theorem case_image {d n : Nat} {Q : Out → MS → Prop} {x0 x : Nat} {x4 : Int} {S : MS} (hd : 45 ≤ d) (hc : CO S x) (hs : SC x0 S x4) (hC : ∀ S', CO S' x → LSt x S S' → VL_law_23 d Q n x0 x (x+176) (x+196) (x4 + 6) S') : S.K x = 10 ∧ Mw hX10_image yX10_image d [vA x] S (oV (fun S108 => S108.K (x+176) = 11 ∧ Mw hX11_image yX11_image d [vA (x+176)] S108 (oV (fun S109 => VL_law_2634 d (VL_law_23 d Q n) Q x0 x (x+176) (x+196) x4 S109)))) := by
  obtain ⟨k, tb, len, hI, hP, hF, ho⟩ := hc
  refine ⟨hF.1.1.1, q_image (by omega) hF (fun S5 F5 G5 => oV_i ?_)⟩
  have M5 := G5.md (Nat.le_refl _)
  have I5 := hI.md M5
  have w5 : S5.I (x+176+1) = S.I (x+176+1) := M5.e (by omega) (by omega)
  have et : ∀ j, scr S5 j = scr S j := scr_T M5.1
  refine ⟨I5.1.1, c_image (by omega) I5.1 (fun S6 f6 t6 t4 t2 => oV_i ?_)⟩
  have P5 := hP.md M5
  have e1 : S6.I (x+176+1) = S.I (x+176+1) := by rw [f6.arr (o := 1) (by decide) (by decide), w5]
  obtain ⟨C6, L6⟩ := co_end (S := S) (n := k) (tb := tb) (len := len) ⟨f6.lay I5.1, by rw [f6.arr (by decide) (by decide)]; exact I5.2.1, f6.tbl (by decide) (by decide) (by decide) I5.2.2⟩ (by
      unfold Tp at P5 ⊢
      rw [f6.fld (k := 6) (by decide), f6.arr (o := 4) (by decide) (by decide)]
      exact P5) (by
      rw [t4, f6.fld (k := 10) (by decide), M5.e (a := x+176) (by omega) (by omega)]
      exact F5.cg (fun q _ => by rw [e1]) (fun _ q hq => by rw [t2 q hq, w5])) M5 f6 (by decide) ho
  exact hC S6 C6 L6
theorem case_back {d n : Nat} {Q : Out → MS → Prop} {x0 x : Nat} {x4 : Int} {S : MS} (hd : 45 ≤ d) (hc : CO S x) (hs : SC x0 S x4) (hC : ∀ S', CO S' x → LSt x S S' → VL_law_23 d Q n x0 x (x+176) (x+196) (x4 + 6) S') : S.K x = 10 ∧ Mw hX10_back yX10_back d [vA x] S (oI (fun r110 S110 => S110.K (x+176) = 11 ∧ Mw hX11_back yX11_back d [vA (x+176)] S110 (oI (fun r111 S111 => (R32 r110 ∧ R32 r111) ∧ ((r110 = r111) → VL_law_2634 d (VL_law_23 d Q n) Q x0 x (x+176) (x+196) x4 S111) ∧ (¬ (r110 = r111) → (0 : Int) = 1 ∧ Q (.inl (some (vI 0))) S111))))) := by
  obtain ⟨k, tb, len, hI, hP, hF, ho⟩ := hc
  refine ⟨hF.1.1.1, q_back (by omega) hF (fun z => oI_nm ⟨hI.1.1, c_back (by omega) hI.1 hF.2.2.1.2.1 (fun _ => oI_nm ?_) (fun y => by omega)⟩) (fun z S5 n5 F5 G5 => oI_nm ?_)⟩
  · obtain ⟨C6, L6⟩ := co_q hI hP ho hF MD.rf (RQ.s0 (c := 0) hI.2.2)
    exact d_cmp (hC _ C6 L6)
  · have M5 := G5.md (Nat.le_refl _)
    have I5 := hI.md M5
    have w5 : S5.I (x+176+1) = S.I (x+176+1) := M5.e (by omega) (by omega)
    have et : ∀ j, scr S5 j = scr S j := scr_T M5.1
    have P5 := hP.md M5
    have e4 : S5.I (x+176) = S.I (x+176) := M5.e (by omega) (by omega)
    have e2 : S5.I (x+176+2) = S.I (x+176+2) := M5.e (by omega) (by omega)
    refine ⟨I5.1.1, c_back (by omega) I5.1 (by rw [e4]; exact hF.2.2.1.2.1) (fun y => by rw [e4] at y; omega) (fun _ S6 f6 t6 t1 => oI_nm ?_)⟩
    have F6 := F5.cg (u := S6.I (x+176+1)) (v' := S.I (x+176+2)) (fun q hq => by rw [t1 q hq, e2]) (fun _ _ _ => rfl)
    obtain ⟨C6, L6⟩ := co_end (S := S) (n := n5) (tb := tb) (len := len) ⟨f6.lay I5.1, F6.1.2.1.2.2, f6.tbl (by decide) (by decide) (by decide) I5.2.2⟩ (by
      unfold Tp at P5 ⊢
      rw [f6.fld (k := 6) (by decide), f6.arr (o := 4) (by decide) (by decide)]
      exact P5) (by
      rw [f6.fld (k := 4) (by decide), f6.fld (k := 10) (by decide), f6.arr (o := 2) (by decide) (by decide), e4, e2]
      exact F6) M5 f6 (by decide) ho
    exact d_cmp (hC S6 C6 L6)
theorem case_count {d n : Nat} {Q : Out → MS → Prop} {x0 x : Nat} {x4 : Int} {S : MS} (hd : 45 ≤ d) (hc : CO S x) (hs : SC x0 S x4) (hC : ∀ S', CO S' x → LSt x S S' → VL_law_23 d Q n x0 x (x+176) (x+196) (x4 + 6) S') : ((x0 = S.T 16 ∧ S.T 17 < 2147483648) ∧ 0 ≤ (x4 + 1) ∧ (x4 + 1) < S.T 17) ∧ (S.K x = 10 ∧ Mw hX10_count yX10_count d [vA x, vI (scr S (x4 + 1))] S (oI (fun r112 S112 => ((x0 = S112.T 16 ∧ S112.T 17 < 2147483648) ∧ 0 ≤ (x4 + 1) ∧ (x4 + 1) < S112.T 17) ∧ (S112.K (x+176) = 11 ∧ Mw hX11_count yX11_count d [vA (x+176), vI (scr S112 (x4 + 1))] S112 (oI (fun r113 S113 => (R32 r112 ∧ R32 r113) ∧ ((r112 = r113) → VL_law_2634 d (VL_law_23 d Q n) Q x0 x (x+176) (x+196) x4 S113) ∧ (¬ (r112 = r113) → (0 : Int) = 1 ∧ Q (.inl (some (vI 0))) S113))))))) := by
  obtain ⟨k, tb, len, hI, hP, hF, ho⟩ := hc
  refine ⟨hs.k rfl 1 (by decide) (by decide), hF.1.1.1, q_count (by omega) hF.1 r32_scr (fun S5 C5 J5 => oI_nm ?_)⟩
  have M5 := J5.md
  have F5 := hF.q J5 C5
  have I5 := hI.md M5
  have w5 : S5.I (x+176+1) = S.I (x+176+1) := M5.e (by omega) (by omega)
  have et : ∀ j, scr S5 j = scr S j := scr_T M5.1
  refine ⟨hs.k M5.1 1 (by decide) (by decide), I5.1.1, ?_⟩
  simp only [et]
  refine c_count (by omega) I5 r32_scr (fun S6 q6 t6 => oI_nm ?_)
  rw [w5]
  obtain ⟨C6, L6⟩ := co_q hI hP ho F5 M5 q6
  exact d_cmp (hC S6 C6 L6)
