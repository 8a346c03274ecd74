/-! a row that is told; notes -/
/-- cells of reader and tape change -/
theorem CI.low {x n l h_ : Nat} {w : Nat → Int} {S S1 : MS} (h : CI S x n w) (f : Fi l h_ S S1) (h1 : x + 1 ≤ l) (h2 : h_ ≤ x + 12) : CI S1 x n w := by
  obtain ⟨hX, hS, ⟨⟨p, hL⟩, hV⟩, hW, hF⟩ := h
  have hx := hW.1
  refine ⟨hX.mv (fun a _ _ => ⟨by rw [f.1], by rw [f.2.1]⟩) (fun a _ _ _ _ => by rw [f.2.2.1]), f.ss (by omega) hS, ⟨⟨p, f.rs (by omega) hL⟩, lvl_sm (f.sm (by omega)) (f.sm (by omega)) hV⟩, hW.mv f.2.2.2.2.1 (by rw [f.2.2.1]) (f.sm (by omega)), by rw [f.I (by omega)]; exact hF.1, fun hf => ?_⟩
  rw [f.I (by omega)] at hf
  obtain ⟨f1, ⟨p, f2, f4, f5⟩, f6⟩ := hF.2 hf
  exact ⟨by rw [f.2.2.1]; exact f1, ⟨p, f.rs (by omega) f2, f4, f5⟩, f6.eq (by rw [f.I (by omega)])⟩
/-- as a question leaves it, the tape used up -/
def CJt (x : Nat) (S S' : MS) : Prop := S'.T = S.T ∧ (∀ a, a < x + 47 → a ≠ x → a ≠ x + 2 → S'.I a = S.I a) ∧ (∀ k, k ≠ 12 → S'.I x k = S.I x k) ∧ (∀ a, a < x + 197 → S'.K a = S.K a ∧ S'.N a = S.N a) ∧ (∀ a, x + 176 ≤ a → a < x + 197 → S'.I a = S.I a ∧ S'.J a = S.J a ∧ S'.R a = S.R a) ∧ (S'.nx + 1000 * wn0 S' x ≤ S.nx + 1000 * wn0 S x + 1 ∧ S'.us + 100000 * wn0 S' x ≤ S.us + 100000 * wn0 S x + 6) ∧ S'.I (x+2) 1 = 0
theorem CJ.t {x : Nat} {S S1 S2 : MS} (g : CJ x S1 S2) (f : Fi (x+2) (x+2+1) S S1) (h0 : S1.I (x+2) 1 = 0) : CJt x S S2 := by
  have w1 : wn0 S1 x = wn0 S x := by unfold wn0; rw [f.2.2.1]
  have a1 := f.2.2.2.2.1
  have a2 := f.2.2.2.2.2.1
  obtain ⟨g1, g2, g3, g4, g5, g6, g7⟩ := g
  refine ⟨by rw [g1, f.2.2.2.1], fun a h1 h2 h3 => by rw [g2 a h1 h2, f.I (by omega)], fun k hk => by rw [g3 k hk, f.I (by omega)], fun a ha => ⟨by rw [(g4 a ha).1, f.1], by rw [(g4 a ha).2, f.2.1]⟩, fun a h1 h2 => ⟨by rw [(g5 a h1 h2).1, f.I (by omega)], by rw [(g5 a h1 h2).2.1, f.J (by omega)], by rw [(g5 a h1 h2).2.2, f.2.2.1]⟩, ⟨by omega, by omega⟩, by rw [g2 (x+2) (by omega) (by omega)]; exact h0⟩
theorem k_toldRow {d x n len : Nat} {w : Nat → Int} {tb : Nat → Nat} {S : MS} {Q : Out → MS → Prop} (hd : 6 ≤ d) (hC : CI S x n w) (hT : TW S (x+2) tb len) (h0 : ∀ S' (r : Nat), CI S' x n w → Fi (x+2) (x+2+1) S S' → S'.I (x+2) 1 = 0 → tpR n tb len = (r : Int) → r < fct n → Q (.inl (some (vI (rowP n r : Nat)))) S') (h1 : ∀ S', CI S' x n w → Fi (x+2) (x+2+1) S S' → S'.I (x+2) 1 = 0 → tpR n tb len < 0 → Q (.inr iae) (S'.junk 6)) : Mw hX10_toldRow yX10_toldRow d [vA x] S Q := by
  have hX := hC.1
  have g0 := hC.2.1.2.2.1
  obtain ⟨dd, rfl⟩ : ∃ e, d = e + 1 := ⟨d - 1, by omega⟩
  refine MX10_toldRow ?_
  unfold VX10_toldRow_0
  refine ⟨hX.1, x+2, hX.2.1.2.1, hX.1, x+2, hX.2.1.2.1, hX.2.2.2.2.1.1, k_useUp (by omega) hX.2.2.2.2.1 hT (fun S1 f1 b1 z1 => oI_i ?_)⟩
  have C1 := hC.low f1 (by omega) (by omega)
  have hX1 := C1.1
  refine ⟨hX1.1, x+12, hX1.2.1.2.2.1, C1.2.1.1.1, hX1.2.2.2.2.1.1, ?_⟩
  rw [C1.i7]
  refine k_packedRow (by omega) rfl rfl g0.1 g0.2.1 hX1.2.2.2.2.1 b1 (oI_i ?_)
  have hr := tpR_r (n := n) (tb := tb) (len := len)
  unfold tdP
  by_cases c : tpR n tb len < 0
  · rw [if_pos c]
    exact ⟨⟨(by unfold R32; omega), (by unfold R32; omega)⟩, fun z => absurd rfl z, fun _ => ⟨by omega, h1 S1 C1 f1 z1 c⟩⟩
  · rw [if_neg c]
    have sm := rowP_sm (n := n) (r := (tpR n tb len).toNat) g0.1 g0.2.1
    exact ⟨⟨(by unfold R32; omega), (by unfold R32; omega)⟩, fun _ => h0 S1 _ C1 f1 z1 (by omega) (by omega), fun z => by omega⟩
theorem q_fits {d x n len : Nat} {w : Nat → Int} {tb : Nat → Nat} {S : MS} {Q : Out → MS → Prop} (hd : 9 ≤ d) (hC : CI S x n w) (hT : TW S (x+2) tb len) (h : ∀ S', CI S' x n w → CJt x S S' → Q (oR (A_fits n w tb len) [iae]) S') : Mw hX10_fits yX10_fits d [vA x] S Q := by
  have g0 := hC.2.1.2.2.1
  have hf := fct_le g0.1 g0.2.1
  unfold A_fits at h
  obtain ⟨dd, rfl⟩ : ∃ e, d = e + 1 := ⟨d - 1, by omega⟩
  refine MX10_fits ?_
  unfold VX10_fits_0
  refine ⟨hC.1.1, k_toldRow (by omega) hC hT (fun S1 r C1 f1 z1 er hr => xI_i ⟨C1.1.1, k_both' (by omega) C1 (fun S2 b p W q2 => ⟨W.1.2.2.2.1.1, k_numberOf (by omega) g0.1 g0.2.1 W.1.2.2.2 rfl hr (oI_i ⟨W.2.2.1.1.1, c_rHas (by omega) W.2.2.1 rfl (by omega) (fun v hv => oI_i ⟨hv.b, ?_⟩)⟩)⟩)⟩) (fun S1 C1 f1 z1 c => xI_x ?_)⟩
  · rw [if_neg (by omega), oR_0] at h
    have := h S2 W.1.1 (q2.1.j.t f1 z1)
    have e : p r = true ↔ FitA n w (tpR n tb len).toNat 0 := by
      have m : p r = true ↔ r ∈ lsR p 5056 := by
        unfold lsR
        rw [List.mem_filter, List.mem_range]
        exact ⟨fun k => ⟨by omega, k⟩, fun k => k.2⟩
      rw [m, W.2.2.2.2]
      unfold rowsL
      rw [List.mem_filter, List.mem_range, er, Int.toNat_natCast, fitR_iff]
      exact ⟨fun k => k.2, fun k => ⟨hr, k⟩⟩
    rw [e] at hv
    rw [hv.e]
    exact this
  · rw [if_pos c, oR_1] at h
    exact h _ C1.junk ((CQ.rf.jk C1.2.2.2.1.1).t f1 z1)
theorem q_nearly {d x n len : Nat} {w : Nat → Int} {tb : Nat → Nat} {S : MS} {Q : Out → MS → Prop} (hd : 9 ≤ d) (hC : CI S x n w) (hT : TW S (x+2) tb len) (h : ∀ S', CI S' x n w → CJt x S S' → Q (oR (A_nearly n w tb len) [iae]) S') : Mw hX10_nearly yX10_nearly d [vA x] S Q := by
  have g0 := hC.2.1.2.2.1
  unfold A_nearly at h
  obtain ⟨dd, rfl⟩ : ∃ e, d = e + 1 := ⟨d - 1, by omega⟩
  refine MX10_nearly ?_
  unfold VX10_nearly_0
  refine ⟨hC.1.1, k_toldRow (by omega) hC hT (fun S1 r C1 f1 z1 er hr => xI_i ⟨C1.1.1, k_both (by omega) C1 (fun S2 b p W q2 => ⟨W.1.2.2.2.1.1, k_fewestSwaps (by omega) g0.1 g0.2.1 W.1.2.2.2 W.2.2.1 W.2.2.2.1 (by have := W.1.2.2.1; omega) hr rfl (fun S3 f3 => oI_i ?_)⟩)⟩) (fun S1 C1 f1 z1 c => xI_x ?_)⟩
  · rw [if_neg (by omega), oR_0] at h
    have li := W.1.2.2.2.2.2.2.1
    have hb := W.1.2.2.1
    have Q3 : QF x b (yk n b 3) S2 S3 := f3.qf (Or.inr (by omega))
    have V3 : LVL S3 (x+50) (x+56) := lvl_sm (f3.sm (by omega)) (f3.sm (by omega)) W.1.1.2.2.1.2
    have W3 := W.q Q3 (f3.fzl.ar W.1.2.2.2) V3 (W.an.eq (by rw [f3.I (by omega)]))
    have := h S3 W3.1.1 ((q2.1.tr (Q3.cq hb)).j.t f1 z1)
    rw [er, Int.toNat_natCast] at this
    rw [W.2.2.2.2]
    exact this
  · rw [if_pos c, oR_1] at h
    exact h _ C1.junk ((CQ.rf.jk C1.2.2.2.1.1).t f1 z1)
/-- notes aimed at: all rows are there -/
theorem k_aimed {d x n : Nat} {w : Nat → Int} {S : MS} {P : Nat → MS → Prop} (hd : 7 ≤ d) (hC : CI S x n w) (h : ∀ S' b, CP S' x n w b → CQ x S S' → FT S' (x+29) → AM S' (x+29) n w b (yk n b 3) (nN w) → P b S') : Mw hX10_allRows yX10_allRows d [vA x] S (oA (fun r3 S3 => S3.K (x+29) = 1 ∧ Mw hX1_aim yX1_aim d [vA (x+29), vA (x+12), vA r3] S3 (oV (fun S4 => P r3 S4)))) := by
  refine k_allRows (by omega) hC (fun S3 b C3 q3 W3 => oA_i ?_)
  have F3 : FT S3 (x+29) := C3.1.2.2.2.2.2.2.2.1
  have hb := W3.2.1
  refine ⟨F3.1, k_aim (by omega) (by omega) (by omega) F3 C3.2.1 W3.2.2 (fun S4 f4 F4 A4 M4 => oV_i ?_)⟩
  have q4 : QF x b (yk n b 3) S3 S4 := f4.qf
  have P4 : CP S4 x n w b := CP.q ⟨C3, W3⟩ q4 A4 (lvl_sm (fun a h1 h2 => ⟨by rw [f4.1], by rw [f4.2.1], by rw [f4.2.2.1], by rw [f4.2.2.2.1], f4.2.2.2.2.2.2.2 a (by omega)⟩) (fun a h1 h2 => ⟨by rw [f4.1], by rw [f4.2.1], by rw [f4.2.2.1], by rw [f4.2.2.2.1], f4.2.2.2.2.2.2.2 a (by omega)⟩) C3.2.2.1.2) (fun hf => ((C3.2.2.2.2.2 hf).2.2).eq (by rw [f4.2.2.1]))
  exact h S4 b P4 (q3.1.tr (q4.cq hb)) F4 M4
theorem q_quarrels {d x n : Nat} {w : Nat → Int} {S : MS} {Q : Out → MS → Prop} (hd : 8 ≤ d) (hC : CI S x n w) (h : ∀ S', CI S' x n w → CQ x S S' → Q (.inl (some (vI (quC n w (nN w) : Nat)))) S') : Mw hX10_quarrels yX10_quarrels d [vA x] S Q := by
  have hX := hC.1
  obtain ⟨dd, rfl⟩ : ∃ e, d = e + 1 := ⟨d - 1, by omega⟩
  refine MX10_quarrels ?_
  unfold VX10_quarrels_0
  refine ⟨hX.1, x+29, hX.2.1.2.2.2.2.2.1, hX.1, x+12, hX.2.1.2.2.1, hX.1, k_aimed (by omega) hC (fun S4 b P4 q4 F4 M4 => ⟨P4.1.1.1, x+29, P4.1.1.2.1.2.2.2.2.2.1, P4.1.1.1, x+12, P4.1.1.2.1.2.2.1, F4.1, k_quarrelling (by omega) F4 P4.1.2.1 M4 (oI_i (h S4 P4.1 q4))⟩)⟩
/-- levels change, all rows at hand -/
theorem CP.lo {x n b l h_ : Nat} {w : Nat → Int} {S S1 : MS} (h : CP S x n w b) (f : Fi l h_ S S1) (h1 : x + 56 ≤ l) (h2 : h_ ≤ x + 176) (hV : LVL S1 (x+50) (x+56)) : CP S1 x n w b ∧ CQ x S S1 := by
  have hb := h.2.2.1
  have Q2 : QF x b (yk n b 3) S S1 := f.qf (Or.inl ⟨by omega, h2⟩)
  exact ⟨h.q Q2 ((f.fz (by omega)).ar h.2.2.2) hV (fun hf => ((h.1.2.2.2.2.2 hf).2.2).eq (by rw [f.I (by omega)])), Q2.cq hb⟩
theorem q_proof {d x n : Nat} {w : Nat → Int} {S : MS} {Q : Out → MS → Prop} (hd : 26 ≤ d) (hC : CI S x n w) (h : ∀ S', CI S' x n w → CQ x S S' → Q (.inl (some (vI (A_proof n w : Nat)))) S') : Mw hX10_proof yX10_proof d [vA x] S Q := by
  have hX := hC.1
  obtain ⟨dd, rfl⟩ : ∃ e, d = e + 1 := ⟨d - 1, by omega⟩
  refine MX10_proof ?_
  unfold VX10_proof_0
  refine ⟨hX.1, x+29, hX.2.1.2.2.2.2.2.1, hX.1, x+12, hX.2.1.2.2.1, hX.1, k_aimed (by omega) hC (fun S4 b P4 q4 F4 M4 => ⟨P4.1.1.1, x+29, P4.1.1.2.1.2.2.2.2.2.1, P4.1.1.1, x+12, P4.1.1.2.1.2.2.1, P4.1.1.1, k_allRowsW (by omega) P4 (oA_i ⟨P4.1.1.1, x+50, P4.1.1.2.1.2.2.2.2.2.2.2.1, F4.1, k_leastProof (by omega) (by have := P4.2.2.1; omega) (by omega) F4 P4.1.2.1 M4 P4.2.2.2 P4.1.2.2.1.2 (fun S5 f5 V5 => oI_i ?_)⟩)⟩)⟩
  obtain ⟨P5, q5⟩ := P4.lo f5 (by omega) (by omega) V5
  exact h S5 P5.1 (q4.tr q5)
theorem k_sizeWithout {d x n i : Nat} {w : Nat → Int} {u : Int} {S : MS} {Q : Out → MS → Prop} (hd : 8 ≤ d) (hC : CI S x n w) (eu : u = (i : Int)) (hi : i < nN w) (h : ∀ S', CI S' x n w → CQ x S S' → Q (.inl (some (vI ((rowsL n w (2 ^ i)).length : Nat)))) S') : Mw hX10_sizeWithout yX10_sizeWithout d [vA x, vI u] S Q := by
  subst eu
  have hX := hC.1
  have g0 := hC.2.1.2.2.1
  have i8 := hC.i8
  obtain ⟨dd, rfl⟩ : ∃ e, d = e + 1 := ⟨d - 1, by omega⟩
  refine MX10_sizeWithout ?_
  unfold VX10_sizeWithout_0
  refine ⟨hX.1, x+29, hX.2.1.2.2.2.2.2.1, hX.1, x+12, hX.2.1.2.2.1, hX.1, k_aimed (by omega) hC (fun S4 b P4 q4 F4 M4 => ⟨P4.1.1.1, x+29, P4.1.1.2.1.2.2.2.2.2.1, P4.1.1.1, x+12, P4.1.1.2.1.2.2.1, P4.1.1.1, k_allRowsW (by omega) P4 (oA_i ?_)⟩)⟩
  have V4 := P4.1.2.2.1.2
  have hb := P4.2.2.1
  obtain ⟨p0, hp0⟩ := (V4.2.2 0 (by omega)).2
  refine ⟨P4.1.1.1, x+50, P4.1.1.2.1.2.2.2.2.2.2.2.1, ⟨V4.1, by omega, by omega, by rw [V4.2.1]; omega⟩, x+56, (V4.2.2 0 (by omega)).1, F4.1, k_fit (a := x+56) (by omega) g0.1 g0.2.1 (by unfold R32; omega) (by omega) (by omega) F4 P4.1.2.1 M4 P4.2.2.2 hp0 (fun S5 f5 R5 => oV_i ?_)⟩
  have V5 := LVL.fl (j := 0) V4 f5 R5
  obtain ⟨P5, q5⟩ := P4.lo f5 (by omega) (by omega) V5
  refine ⟨P5.1.1.1, x+50, P5.1.1.2.1.2.2.2.2.2.2.2.1, ⟨V5.1, by omega, by omega, by rw [V5.2.1]; omega⟩, x+56, (V5.2.2 0 (by omega)).1, R5.1.1, ?_⟩
  have e := fit_rows (mask := 2 ^ i) (wo := (i : Int)) P4.1.2.1.2.2 (fun m _ => by
    rw [Nat.testBit_two_pow, decide_eq_false_iff_not]
    omega)
  have sz := R5.2.2.2.2
  rw [← lsR_len, e] at sz
  rw [sz]
  exact h S5 P5.1 (q4.tr q5)
theorem kf_wrongly {d x n : Nat} {w : Nat → Int} {Q : Out → MS → Prop} (hd : 8 ≤ d) : ∀ (j : Nat) {S : MS} {i : Nat}, i + j = nN w → CI S x n w → (∀ S', CI S' x n w → CQ x S S' → Q (.inl (some (vI (A_wrongly n w : Nat)))) S') → VX10_wrongly_4 d Q (j + 1) x (mskN (upTo i (fun i => decide (0 < (rowsL n w (2 ^ i)).length))) (nN w) : Nat) (i : Nat) S := by
  intro j
  induction j with
  | zero =>
    intro S i hi hC h
    have hX := hC.1
    have i8 := hC.i8
    unfold VX10_wrongly_4
    refine ⟨hX.1, x+12, hX.2.1.2.2.1, hC.2.1.1.1, ?_⟩
    rw [i8.2.1, mskN_cong (q := fun i => decide (0 < (rowsL n w (2 ^ i)).length)) (fun u hu => by unfold upTo; rw [decide_eq_true (by omega), Bool.true_and])]
    exact ⟨⟨(by unfold R32; omega), (by unfold R32; omega)⟩, fun _ => h S hC CQ.rf, fun c => by omega⟩
  | succ j ih =>
    intro S i hi hC h
    have hX := hC.1
    have i8 := hC.i8
    have g0 := hC.2.1.2.2.1
    have hf := fct_le g0.1 g0.2.1
    have rl := rows_le (w := w) (mask := 2 ^ i) g0.1 g0.2.1
    unfold VX10_wrongly_4 VX10_wrongly_31
    refine ⟨hX.1, x+12, hX.2.1.2.2.1, hC.2.1.1.1, ?_⟩
    rw [i8.2.1]
    refine ⟨⟨(by unfold R32; omega), (by unfold R32; omega)⟩, fun c => by omega, fun _ => ⟨hX.1, k_sizeWithout hd hC rfl (show i < nN w by omega) (fun S1 C1 q1 => oI_i ⟨(by unfold R32; omega), fun c => ?_, fun c => ?_⟩)⟩⟩
    · have := ih (i := i + 1) (by omega) C1 (fun S' C' q' => h S' C' (q1.tr q'))
      rw [or_upTo (by omega) (by omega) (Or.inr ⟨decide_eq_false (by omega), rfl⟩)]
      exact this
    · have := ih (i := i + 1) (by omega) C1 (fun S' C' q' => h S' C' (q1.tr q'))
      rw [or_upTo (by omega) (by omega) (Or.inl ⟨decide_eq_true (by omega), rfl⟩)]
      exact this
theorem q_wrongly {d x n : Nat} {w : Nat → Int} {S : MS} {Q : Out → MS → Prop} (hd : 9 ≤ d) (hC : CI S x n w) (h : ∀ S', CI S' x n w → CQ x S S' → Q (.inl (some (vI (A_wrongly n w : Nat)))) S') : Mw hX10_wrongly yX10_wrongly d [vA x] S Q := by
  obtain ⟨dd, rfl⟩ : ∃ e, d = e + 1 := ⟨d - 1, by omega⟩
  refine MX10_wrongly ?_
  unfold VX10_wrongly_0
  have := kf_wrongly (d := dd) (by omega) (nN w) (i := 0) (by omega) hC h
  rw [upTo_0] at this
  exact ⟨_, this⟩
theorem kf_needless {d x n : Nat} {w : Nat → Int} {Q : Out → MS → Prop} (hd : 8 ≤ d) : ∀ (j : Nat) {S : MS} {i : Nat}, i + j = nN w → CI S x n w → (∀ S', CI S' x n w → CQ x S S' → Q (.inl (some (vI (A_needless n w : Nat)))) S') → VX10_needless_12 d Q (j + 1) x ((rowsL n w 0).length : Nat) (mskN (upTo i (ndB n w)) (nN w) : Nat) (i : Nat) S := by
  intro j
  induction j with
  | zero =>
    intro S i hi hC h
    have hX := hC.1
    have i8 := hC.i8
    unfold VX10_needless_12
    refine ⟨hX.1, x+12, hX.2.1.2.2.1, hC.2.1.1.1, ?_⟩
    rw [i8.2.1, mskN_cong (q := ndB n w) (fun u hu => by unfold upTo; rw [decide_eq_true (by omega), Bool.true_and])]
    exact ⟨⟨(by unfold R32; omega), (by unfold R32; omega)⟩, fun _ => h S hC CQ.rf, fun c => by omega⟩
  | succ j ih =>
    intro S i hi hC h
    have hX := hC.1
    have i8 := hC.i8
    have g0 := hC.2.1.2.2.1
    have hf := fct_le g0.1 g0.2.1
    have rl := rows_le (w := w) (mask := 2 ^ i) g0.1 g0.2.1
    have rl0 := rows_le (w := w) (mask := 0) g0.1 g0.2.1
    unfold VX10_needless_12 VX10_needless_40
    refine ⟨hX.1, x+12, hX.2.1.2.2.1, hC.2.1.1.1, ?_⟩
    rw [i8.2.1]
    refine ⟨⟨(by unfold R32; omega), (by unfold R32; omega)⟩, fun c => by omega, fun _ => ⟨hX.1, k_sizeWithout hd hC rfl (show i < nN w by omega) (fun S1 C1 q1 => oI_i ⟨⟨(by unfold R32; omega), (by unfold R32; omega)⟩, fun c => ?_, fun c => ?_⟩)⟩⟩
    · have := ih (i := i + 1) (by omega) C1 (fun S' C' q' => h S' C' (q1.tr q'))
      rw [or_upTo (by omega) (by omega) (Or.inr ⟨decide_eq_false (by omega), rfl⟩)]
      exact this
    · have := ih (i := i + 1) (by omega) C1 (fun S' C' q' => h S' C' (q1.tr q'))
      rw [or_upTo (by omega) (by omega) (Or.inl ⟨decide_eq_true (by omega), rfl⟩)]
      exact this
theorem q_needless {d x n : Nat} {w : Nat → Int} {S : MS} {Q : Out → MS → Prop} (hd : 9 ≤ d) (hC : CI S x n w) (h : ∀ S', CI S' x n w → CQ x S S' → Q (.inl (some (vI (A_needless n w : Nat)))) S') : Mw hX10_needless yX10_needless d [vA x] S Q := by
  obtain ⟨dd, rfl⟩ : ∃ e, d = e + 1 := ⟨d - 1, by omega⟩
  refine MX10_needless ?_
  unfold VX10_needless_0
  refine ⟨hC.1.1, k_rowsLeft (by omega) hC (fun S1 b p W q1 => oA_i ⟨W.2.2.1.1.1, nN w + 1, ?_⟩)⟩
  rw [W.sz]
  have := kf_needless (d := dd) (Q := Q) (by omega) (nN w) (i := 0) (by omega) W.1.1 (fun S' C' q' => h S' C' (q1.1.tr q'))
  rw [upTo_0] at this
  exact this
