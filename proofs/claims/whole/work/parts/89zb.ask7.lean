/-! notes mended -/
theorem up_uw {w : Nat → Int} {i t : Nat} : UW w (upW w (25 + 3 * i) (t : Int)) := by
  refine ⟨fun j => ?_, ?_, fun s hs => ?_, ?_⟩
  · unfold nS; rw [upW_ne (by omega)]
  · unfold nN; rw [upW_ne (by omega)]
  · unfold lie; rw [upW_ne (by omega)]
  · unfold sN; rw [upW_ne (by omega)]
theorem GW.rose {n i t : Nat} {w : Nat → Int} (h : GW n w) (ht : t < n) (hb : (nX w i).testBit t = true) : GW n (upW w (25 + 3 * i) (t : Int)) := by
  have g1 := h.2.1
  have g2 := h.2.2.1
  have e : ∀ q, q ≠ 25 + 3 * i → upW w (25 + 3 * i) (t : Int) q = w q := fun q hq => upW_ne hq
  have es : sN (upW w (25 + 3 * i) (t : Int)) = sN w := up_uw.2.2.2
  have en : nN (upW w (25 + 3 * i) (t : Int)) = nN w := up_uw.2.1
  refine ⟨⟨h.1.1, h.1.2.1, by rw [e 0 (by omega)]; exact h.1.2.2⟩, by rw [es, e 1 (by omega)]; exact g1, by rw [en, e 2 (by omega)]; exact g2, by rw [e 3 (by omega)]; exact h.2.2.2.1, fun u hu => by rw [e _ (by omega)]; exact h.wt hu, fun s hs => ?_, fun j hj => ?_⟩
  · rw [es] at hs
    have := h.sc hs
    unfold kd prc lie at this ⊢
    rw [e _ (by omega), e _ (by omega), e _ (by omega)]
    exact this
  · rw [en] at hj
    have := h.nt hj
    have hs := this.1.2
    have b1 : nS (upW w (25 + 3 * i) (t : Int)) j = nS w j := up_uw.1 j
    have b2 : nX (upW w (25 + 3 * i) (t : Int)) j = nX w j := by unfold nX; rw [e _ (by omega)]
    have b4 : kd (upW w (25 + 3 * i) (t : Int)) (nS w j) = kd w (nS w j) := by unfold kd; rw [e _ (by omega)]
    rw [es, b1, b2, b4, e (23 + 3 * j) (by omega), e (24 + 3 * j) (by omega)]
    refine ⟨this.1, this.2.1, ?_⟩
    by_cases c : j = i
    · subst c
      have b3 : nT (upW w (25 + 3 * j) (t : Int)) j = t := by unfold nT; rw [upW_eq]; rfl
      rw [b3, upW_eq]
      exact ⟨rfl, ht, hb⟩
    · have b3 : nT (upW w (25 + 3 * i) (t : Int)) j = nT w j := by unfold nT; rw [e _ (by omega)]
      rw [b3, e (25 + 3 * j) (by omega)]
      exact this.2.2
theorem k_sizeHadRisen {d x n i t : Nat} {w : Nat → Int} {u v : Int} {S : MS} {Q : Out → MS → Prop} (hd : 8 ≤ d) (hC : CI S x n w) (eu : u = (i : Int)) (ev : v = (t : Int)) (hi : i < nN w) (ht : t < n) (hbt : (nX w i).testBit t = true) (h : ∀ S', CI S' x n w → CQ x S S' → Q (.inl (some (vI ((rowsL n (upW w (25 + 3 * i) (t : Int)) 0).length : Nat)))) S') : Mw hX10_sizeHadRisen yX10_sizeHadRisen d [vA x, vI u, vI v] S Q := by
  subst eu ev
  have hX := hC.1
  have g0 := hC.2.1.2.2.1
  have i8 := hC.i8
  have uw : UW w (upW w (25 + 3 * i) (t : Int)) := up_uw
  obtain ⟨dd, rfl⟩ : ∃ e, d = e + 1 := ⟨d - 1, by omega⟩
  refine MX10_sizeHadRisen ?_
  unfold VX10_sizeHadRisen_0
  refine ⟨hX.1, x+29, hX.2.1.2.2.2.2.2.1, hX.1, x+12, hX.2.1.2.2.1, hX.1, k_aimed (by omega) hC (fun S4 b P4 q4 F4 M4 => ⟨P4.1.1.1, x+29, P4.1.1.2.1.2.2.2.2.2.1, P4.1.1.1, x+12, P4.1.1.2.1.2.2.1, P4.1.1.1, k_allRowsW (by omega) P4 (oA_i ⟨F4.1, k_hadRisen (by omega) F4 P4.1.2.1 P4.2.2.2 rfl rfl hi ht hbt (fun e e1 e2 => oV_i ?_)⟩)⟩)⟩
  have hb := P4.2.2.1
  have fx : Fx (x+30) S4 (S4.setR (x+29+1) i (some e)) := Fx.s
  have Q5 : QF x b (yk n b 3) S4 (S4.setR (x+29+1) i (some e)) := fx.qf
  have A5 : AR (S4.setR (x+29+1) i (some e)) b n b (yk n b 3) (b + 4) := ar_setR (by omega) P4.2.2.2
  have P5 : CP (S4.setR (x+29+1) i (some e)) x n w b := P4.q Q5 A5 (lvl_sm (S := S4) (fun a h1 h2 => ⟨rfl, rfl, rfl, rfl, sR_Ra (by omega)⟩) (fun a h1 h2 => ⟨rfl, rfl, rfl, rfl, sR_Ra (by omega)⟩) P4.1.2.2.1.2) (fun hf => ((P4.1.2.2.2.2.2 hf).2.2).eq rfl)
  have F5 : FT (S4.setR (x+29+1) i (some e)) (x+29) := P5.1.1.2.2.2.2.2.2.2.1
  have M5 : AM (S4.setR (x+29+1) i (some e)) (x+29) n (upW w (25 + 3 * i) (t : Int)) b (yk n b 3) (nN w) := fun j hj => by
    have hn := (hC.2.1.2.2.nt hj).1.2
    have b1 : nS (upW w (25 + 3 * i) (t : Int)) j = nS w j := uw.1 j
    have b2 : nX (upW w (25 + 3 * i) (t : Int)) j = nX w j := by unfold nX; rw [upW_ne (by omega)]
    have b4 : kd (upW w (25 + 3 * i) (t : Int)) (nS w j) = kd w (nS w j) := by unfold kd; rw [upW_ne (by omega)]
    rw [b1, b2, b4]
    by_cases c : j = i
    · subst c
      have b3 : nT (upW w (25 + 3 * j) (t : Int)) j = t := by unfold nT; rw [upW_eq]; rfl
      rw [b3]
      exact ⟨e, by rw [sR_R, if_pos ⟨rfl, rfl⟩], e1, e2⟩
    · have b3 : nT (upW w (25 + 3 * i) (t : Int)) j = nT w j := by unfold nT; rw [upW_ne (by omega)]
      rw [b3]
      obtain ⟨e', a1, a2, a3⟩ := M4 j hj
      exact ⟨e', by rw [sR_R, if_neg (fun k => c k.2)]; exact a1, a2, a3⟩
  refine ⟨P5.1.1.1, x+29, P5.1.1.2.1.2.2.2.2.2.1, P5.1.1.1, x+12, P5.1.1.2.1.2.2.1, P5.1.1.1, k_allRowsW (by omega) P5 (oA_i ?_)⟩
  have V5 := P5.1.2.2.1.2
  obtain ⟨p0, hp0⟩ := (V5.2.2 0 (by omega)).2
  refine ⟨P5.1.1.1, x+50, P5.1.1.2.1.2.2.2.2.2.2.2.1, ⟨V5.1, by omega, by omega, by rw [V5.2.1]; omega⟩, x+56, (V5.2.2 0 (by omega)).1, F5.1, k_fit2 (a := x+56) (by omega) g0.1 g0.2.1 (by unfold R32; omega) (by omega) (by omega) uw F5 P5.1.2.1 M5 A5 hp0 (fun S6 f6 R6 => oV_i ?_)⟩
  have V6 := LVL.fl (j := 0) V5 f6 R6
  obtain ⟨P6, q6⟩ := P5.lo f6 (by omega) (by omega) V6
  refine ⟨P6.1.1.1, x+50, P6.1.1.2.1.2.2.2.2.2.2.2.1, ⟨V6.1, by omega, by omega, by rw [V6.2.1]; omega⟩, x+56, (V6.2.2 0 (by omega)).1, R6.1.1, ?_⟩
  have e := fit_rows (mask := 0) (wo := (-1 : Int)) (hC.2.1.2.2.rose (i := i) ht hbt) (fun m _ => ⟨fun _ => by omega, fun _ => Nat.zero_testBit m⟩)
  rw [uw.2.2.2] at e
  have sz := R6.2.2.2.2
  rw [← lsR_len, e] at sz
  rw [sz]
  exact h S6 P6.1 (q4.tr ((Q5.cq hb).tr q6))
theorem CI.nt_ {x n i : Nat} {w : Nat → Int} {S : MS} (h : CI S x n w) (hi : i < nN w) : (S.R (x+12) 4 = some (x+12+5) ∧ S.K (x+12+5) = 13 ∧ S.N (x+12+5) = 16 ∧ S.I (x+12+5) i = (nS w i : Int)) ∧ (S.R (x+12) 5 = some (x+12+6) ∧ S.K (x+12+6) = 13 ∧ S.N (x+12+6) = 16 ∧ S.I (x+12+6) i = (nX w i : Int)) ∧ (S.R (x+12) 6 = some (x+12+7) ∧ S.K (x+12+7) = 13 ∧ S.N (x+12+7) = 16 ∧ S.I (x+12+7) i = (nT w i : Int)) := by
  have hl := h.2.1.1
  unfold SY at hl
  have nt := h.2.1.2.2.nt hi
  have wn := h.2.1.2.1.2.2.2 i hi
  exact ⟨⟨hl.2.1.2.2.2.2.1, hl.2.2.1.2.2.2.2.1, hl.2.2.2.2.2.2.2.1, by rw [wn.1, nt.1.1]⟩, ⟨hl.2.1.2.2.2.2.2.1, hl.2.2.1.2.2.2.2.2.1, hl.2.2.2.2.2.2.2.2.1, by rw [wn.2.1, nt.2.1.1]⟩, ⟨hl.2.1.2.2.2.2.2.2, hl.2.2.1.2.2.2.2.2.2, hl.2.2.2.2.2.2.2.2.2, by rw [wn.2.2, nt.2.2.1]⟩⟩
theorem kf_mends {d x n i : Nat} {w : Nat → Int} {Q : Out → MS → Prop} (hd : 8 ≤ d) (hi : i < nN w) : ∀ (j : Nat) {S : MS} {t : Nat}, t + j = n → CI S x n w → (∀ S', CI S' x n w → CQ x S S' → Q (.inl (some (vI (mskN (mdB n w i) n : Nat)))) S') → VX10_mends_9 d Q (j + 1) x (i : Nat) (mskN (upTo t (mdB n w i)) n : Nat) (t : Nat) S := by
  intro j
  induction j with
  | zero =>
    intro S t ht hC h
    have hX := hC.1
    have g0 := hC.2.1.2.2.1
    unfold VX10_mends_9
    refine ⟨hX.1, x+12, hX.2.1.2.2.1, hC.2.1.1.1, ?_⟩
    rw [hC.i7, mskN_cong (q := mdB n w i) (fun u hu => by unfold upTo; rw [decide_eq_true (by omega), Bool.true_and])]
    exact ⟨⟨(by unfold R32; omega), (by unfold R32; omega)⟩, fun _ => h S hC CQ.rf, fun c => by omega⟩
  | succ j ih =>
    intro S t ht hC h
    have hX := hC.1
    have g0 := hC.2.1.2.2.1
    have i8 := hC.i8
    have p7 := p2_7 g0.2.1
    have hf := fct_le g0.1 g0.2.1
    obtain ⟨-, ⟨x1, x2, x3, x4⟩, ⟨y1, y2, y3, y4⟩⟩ := hC.nt_ hi
    have nt := hC.2.1.2.2.nt hi
    have no : ∀ {S1 : MS}, CI S1 x n w → CQ x S S1 → mdB n w i t = false → VX10_mends_9 d Q (j + 1) x (i : Nat) (mskN (upTo t (mdB n w i)) n : Nat) ((t : Int) + 1) S1 := by
      intro S1 C1 q1 z
      have := ih (t := t + 1) (by omega) C1 (fun S' C' q' => h S' C' (q1.tr q'))
      rw [← upTo_n z] at this
      exact this
    unfold VX10_mends_9 VX10_mends_66 VX10_mends_68
    refine ⟨hX.1, x+12, hX.2.1.2.2.1, hC.2.1.1.1, ?_⟩
    rw [hC.i7]
    refine ⟨⟨(by unfold R32; omega), (by unfold R32; omega)⟩, fun c => by omega, fun _ => ⟨hX.1, x+12, hX.2.1.2.2.1, hC.2.1.1.1, _, x1, ⟨x2, by omega, by rw [x3]; omega⟩, ?_⟩⟩
    rw [Int.toNat_natCast, x4]
    refine c_holds (by omega) rfl rfl (by omega) (by omega) (fun q hq => oI_i ⟨hq.r, fun c => no hC CQ.rf ?_, fun c => ⟨hX.1, x+12, hX.2.1.2.2.1, hC.2.1.1.1, _, y1, ⟨y2, by omega, by rw [y3]; omega⟩, ?_⟩⟩)
    · have nb : ¬ (nX w i).testBit t = true := by
        rcases hq with ⟨rfl, -⟩ | ⟨-, k⟩
        · omega
        · exact k
      unfold mdB
      simp [nb]
    · have yb : (nX w i).testBit t = true := by
        rcases hq with ⟨-, k⟩ | ⟨rfl, -⟩
        · exact k
        · omega
      rw [y4]
      have rl := rows_le (w := upW w (25 + 3 * i) (t : Int)) (mask := 0) g0.1 g0.2.1
      refine ⟨⟨(by unfold R32; omega), (by unfold R32; omega)⟩, fun c2 => no hC CQ.rf ?_, fun c2 => ⟨hX.1, k_sizeHadRisen hd hC rfl rfl hi (show t < n by omega) yb (fun S1 C1 q1 => oI_i ⟨(by unfold R32; omega), fun c3 => ?_, fun c3 => ?_⟩)⟩⟩
      · unfold mdB
        rw [decide_eq_false (show ¬ t ≠ nT w i by omega), Bool.false_and]
      · have e : mdB n w i t = false := by
          unfold mdB
          rw [decide_eq_false (show ¬ 0 < (rowsL n (upW w (25 + 3 * i) (t : Int)) 0).length by omega), Bool.and_false, Bool.and_false]
        have := ih (t := t + 1) (by omega) C1 (fun S' C' q' => h S' C' (q1.tr q'))
        rw [or_upTo (by omega) (by omega) (Or.inr ⟨e, rfl⟩)]
        exact this
      · have e : mdB n w i t = true := by
          unfold mdB
          rw [decide_eq_true (show 0 < (rowsL n (upW w (25 + 3 * i) (t : Int)) 0).length by omega), decide_eq_true (show t ≠ nT w i by omega), yb]
          rfl
        have := ih (t := t + 1) (by omega) C1 (fun S' C' q' => h S' C' (q1.tr q'))
        rw [or_upTo (by omega) (by omega) (Or.inl ⟨e, rfl⟩)]
        exact this
theorem q_mends {d x n : Nat} {w : Nat → Int} {u : Int} {S : MS} {Q : Out → MS → Prop} (hd : 9 ≤ d) (hC : CI S x n w) (hu : R32 u) (h : ∀ S', CI S' x n w → CJ x S S' → Q (oR (A_mends n w u) [iob]) S') : Mw hX10_mends yX10_mends d [vA x, vI u] S Q := by
  unfold A_mends at h
  obtain ⟨dd, rfl⟩ : ∃ e, d = e + 1 := ⟨d - 1, by omega⟩
  refine MX10_mends ?_
  unfold VX10_mends_0
  refine ⟨hC.1.1, k_needNote (by omega) hC hu (fun c => xV_i ⟨n + 1, ?_⟩) (fun c => xV_x ?_)⟩
  · rw [if_pos c, oR_0] at h
    have := kf_mends (d := dd) (Q := Q) (i := u.toNat) (by omega) (by omega) n (t := 0) (by omega) hC (fun S' C' q' => h S' C' q'.j)
    rw [upTo_0, show ((u.toNat : Nat) : Int) = u by omega] at this
    exact this
  · rw [if_neg c, oR_1] at h
    exact h _ hC.junk (CQ.rf.jk hC.2.2.2.1.1)
/-! laid, looked at, risen -/
theorem kf_laid {d x n t : Nat} {w : Nat → Int} {ro : Int} {S : MS} {Q : Out → MS → Prop} (hd : 1 ≤ d) (hC : CI S x n w) (ht : t < n) (hb : B01 ro) (h : Q (.inl (some (vI (cntB (ldB w t ro) (nN w) : Nat)))) S) : ∀ (j : Nat) {i : Nat}, i + j = nN w → VX10_laid_10 d Q (j + 1) x (t : Nat) ro (cntB (ldB w t ro) i : Nat) (i : Nat) S := by
  have hX := hC.1
  have g0 := hC.2.1.2.2.1
  have i8 := hC.i8
  have p7 := p2_7 g0.2.1
  intro j
  induction j with
  | zero =>
    intro i hi
    unfold VX10_laid_10
    refine ⟨hX.1, x+12, hX.2.1.2.2.1, hC.2.1.1.1, ?_⟩
    rw [i8.2.1, show i = nN w by omega]
    exact ⟨⟨(by unfold R32; omega), (by unfold R32; omega)⟩, fun _ => h, fun c => by omega⟩
  | succ j ih =>
    intro i hi
    have ih' := ih (i := i + 1) (by omega)
    unfold cntB at ih'
    obtain ⟨-, ⟨x1, x2, x3, x4⟩, ⟨y1, y2, y3, y4⟩⟩ := hC.nt_ (show i < nN w by omega)
    have nt := hC.2.1.2.2.nt (show i < nN w by omega)
    unfold VX10_laid_10 VX10_laid_62 VX10_laid_75
    refine ⟨hX.1, x+12, hX.2.1.2.2.1, hC.2.1.1.1, ?_⟩
    rw [i8.2.1]
    refine ⟨⟨(by unfold R32; omega), (by unfold R32; omega)⟩, fun c => by omega, fun _ => ⟨b01_r hb, fun c => ⟨hX.1, x+12, hX.2.1.2.2.1, hC.2.1.1.1, _, x1, ⟨x2, by omega, by rw [x3]; omega⟩, ?_⟩, fun c => ⟨hX.1, x+12, hX.2.1.2.2.1, hC.2.1.1.1, _, y1, ⟨y2, by omega, by rw [y3]; omega⟩, ?_⟩⟩⟩
    · rw [Int.toNat_natCast, x4]
      refine c_holds hd rfl rfl (by omega) (by omega) (fun q hq => oI_i ⟨hq.r, fun c2 => ?_, fun c2 => ?_⟩)
      · rw [if_neg (by unfold ldB; rw [if_pos c]; rcases hq with ⟨rfl, -⟩ | ⟨-, k⟩; omega; exact k)] at ih'
        exact ih'
      · rw [if_pos (by unfold ldB; rw [if_pos c]; rcases hq with ⟨-, k⟩ | ⟨rfl, -⟩; exact k; omega)] at ih'
        exact ih'
    · rw [Int.toNat_natCast, y4]
      refine ⟨⟨(by unfold R32; omega), (by unfold R32; omega)⟩, fun c2 => ⟨r32_0, fun _ => ?_, fun z => absurd rfl z⟩, fun c2 => ⟨r32_1, fun z => absurd z (by decide), fun _ => ?_⟩⟩
      · rw [if_neg (by unfold ldB; rw [if_neg c, decide_eq_false (by omega)]; decide)] at ih'
        exact ih'
      · rw [if_pos (by unfold ldB; rw [if_neg c, decide_eq_true (by omega)])] at ih'
        exact ih'
theorem q_laid {d x n : Nat} {w : Nat → Int} {t ro : Int} {S : MS} {Q : Out → MS → Prop} (hd : 7 ≤ d) (hC : CI S x n w) (ht : R32 t) (hb : B01 ro) (h : ∀ S', CI S' x n w → CJ x S S' → Q (oR (A_laid n w t ro) [iob]) S') : Mw hX10_laid yX10_laid d [vA x, vI t, vI ro] S Q := by
  unfold A_laid at h
  obtain ⟨dd, rfl⟩ : ∃ e, d = e + 1 := ⟨d - 1, by omega⟩
  refine MX10_laid ?_
  unfold VX10_laid_0
  refine ⟨hC.1.1, k_needThing (by omega) hC ht (fun c => xV_i ⟨nN w + 1, ?_⟩) (fun c => xV_x ?_)⟩
  · rw [if_pos c, oR_0] at h
    have := kf_laid (d := dd) (Q := Q) (t := t.toNat) (by omega) hC (by omega) hb (h S hC CQ.rf.j) (nN w) (i := 0) (by omega)
    rw [show ((t.toNat : Nat) : Int) = t by omega] at this
    exact this
  · rw [if_neg c, oR_1] at h
    exact h _ hC.junk (CQ.rf.jk hC.2.2.2.1.1)
theorem q_look {d x n : Nat} {w : Nat → Int} {i q : Int} {S : MS} {Q : Out → MS → Prop} (hd : 7 ≤ d) (hC : CI S x n w) (hi : R32 i) (hq : R32 q) (h : ∀ S', CI S' x n w → CJ x S S' → Q (oR (A_look w i q) [iob, nse]) S') : Mw hX10_look yX10_look d [vA x, vI i, vI q] S Q := by
  have hX := hC.1
  have i8 := hC.i8
  unfold A_look at h
  obtain ⟨dd, rfl⟩ : ∃ e, d = e + 1 := ⟨d - 1, by omega⟩
  refine MX10_look ?_
  unfold VX10_look_0
  refine ⟨hC.1.1, k_needNote (by omega) hC hi (fun c => xV_i ?_) (fun c => xV_x ?_)⟩
  · rw [if_pos c] at h
    have hl := hC.2.1.1
    unfold SY at hl
    have wn := hC.2.1.2.1.2.2.2 i.toNat (by omega)
    refine ⟨hq, fun c2 => ⟨hX.1, x+12, hX.2.1.2.2.1, hl.1, _, hl.2.1.2.2.2.2.1, ⟨hl.2.2.1.2.2.2.2.1, by omega, by rw [hl.2.2.2.2.2.2.2.1]; omega⟩, ?_⟩, fun c2 => ⟨hX.1, x+12, hX.2.1.2.2.1, hl.1, _, hl.2.1.2.2.2.2.2.1, ⟨hl.2.2.1.2.2.2.2.2.1, by omega, by rw [hl.2.2.2.2.2.2.2.2.1]; omega⟩, ?_⟩, fun c2 => ⟨hX.1, x+12, hX.2.1.2.2.1, hl.1, _, hl.2.1.2.2.2.2.2.2, ⟨hl.2.2.1.2.2.2.2.2.2, by omega, by rw [hl.2.2.2.2.2.2.2.2.2]; omega⟩, ?_⟩, fun c2 => ⟨by omega, ?_⟩⟩
    · rw [if_pos (by omega), oR_0, show q.toNat = 0 by omega, Nat.add_zero] at h
      rw [wn.1]
      exact h S hC CQ.rf.j
    · rw [if_pos (by omega), oR_0, show q.toNat = 1 by omega, show 23 + 3 * i.toNat + 1 = 24 + 3 * i.toNat by omega] at h
      rw [wn.2.1]
      exact h S hC CQ.rf.j
    · rw [if_pos (by omega), oR_0, show q.toNat = 2 by omega, show 23 + 3 * i.toNat + 2 = 25 + 3 * i.toNat by omega] at h
      rw [wn.2.2]
      exact h S hC CQ.rf.j
    · rw [if_neg (by omega), oR_2] at h
      exact h _ hC.junk (CQ.rf.jk hC.2.2.2.1.1)
  · rw [if_neg c, oR_1] at h
    exact h _ hC.junk (CQ.rf.jk hC.2.2.2.1.1)
theorem q_rises {d x n : Nat} {w : Nat → Int} {s u : Int} {S : MS} {Q : Out → MS → Prop} (hd : 7 ≤ d) (hC : CI S x n w) (hs : R32 s) (hu : R32 u) (h : ∀ S', CI S' x n w → CJ x S S' → Q (oR (A_rises n w s u) [iob, iae]) S') : Mw hX10_rises yX10_rises d [vA x, vI s, vI u] S Q := by
  have hX := hC.1
  have i8 := hC.i8
  have g0 := hC.2.1.2.2.1
  unfold A_rises at h
  obtain ⟨dd, rfl⟩ : ∃ e, d = e + 1 := ⟨d - 1, by omega⟩
  refine MX10_rises ?_
  unfold VX10_rises_0
  refine ⟨hC.1.1, k_needScale (by omega) hC hs (fun c => xV_i ⟨hC.1.1, k_needLoad (s := s.toNat) (by omega) hC (by omega) (by omega) hu (fun cu => xV_i ?_) (fun cu => xV_x ?_)⟩) (fun c => xV_x ?_)⟩
  · rw [if_pos c, if_pos cu, oR_0] at h
    obtain ⟨k1, k2, k3, k4, k5⟩ := hC.kd_ (show s.toNat < sN w by omega)
    have cu3 := IsSet3 cu
    have e := (trF_rs (w := w) g0.1 g0.2.1 k5 (show u.toNat < 2 ^ n by omega) cu3.2.2).1
    rw [e] at h
    exact ⟨hX.1, x+12, hX.2.1.2.2.1, hX.1, x+12, hX.2.1.2.2.1, hC.2.1.1.1, _, k1, ⟨k2, by omega, by rw [k3]; omega⟩, hC.2.1.1.1, k_riser (x := u.toNat) (by omega) hC.2.1 k4 (by omega) k5 (by omega) cu3.2.2 (oI_i (h S hC CQ.rf.j))⟩
  · rw [if_pos c, if_neg cu, oR_2] at h
    exact h _ hC.junk (CQ.rf.jk hC.2.2.2.1.1)
  · rw [if_neg c, oR_1] at h
    exact h _ hC.junk (CQ.rf.jk hC.2.2.2.1.1)
