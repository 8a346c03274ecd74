/-! rows left -/
theorem k_allRowsP {d x n b : Nat} {S : MS} {Q : Out → MS → Prop} (hd : 1 ≤ d) (h3 : 3 ≤ n) (h7 : n ≤ 7) (hX : CX S x) (hK : S.K (x+12) = 7) (i7 : S.I (x+12) 7 = (n : Int)) (hb : S.R (x+28) (n - 3) = some b) (h : Q (.inl (some (vA b))) S) : Mw hX10_allRows yX10_allRows d [vA x] S Q := by
  obtain ⟨kx, ⟨r0, r1, r2, r3, r4, r5, r6, r7, r8, r9, r10, r11⟩, -, -, -, -, ⟨k28, n28⟩, -⟩ := hX
  have e : max (0 : Int) (min ((5 : Int) - 1) ((n : Int) - 3)) = ((n - 3 : Nat) : Int) := by omega
  obtain ⟨dd, rfl⟩ : ∃ e, d = e + 1 := ⟨d - 1, by omega⟩
  refine MX10_allRows ?_
  unfold VX10_allRows_0
  refine ⟨kx, x+28, r4, by rw [k28]; omega, kx, x+12, r2, hK, ?_⟩
  rw [i7, n28]
  show (R32 ((5 : Int) - 1) ∧ R32 ((n : Int) - 3)) ∧ _
  refine ⟨⟨(by unfold R32; omega), (by unfold R32; omega)⟩, ⟨(by unfold R32; omega), (by unfold R32; omega)⟩, kx, x+28, r4, ?_⟩
  rw [show (((5 : Nat) : Int) - 1) = (5 : Int) - 1 from rfl, e, Int.toNat_natCast]
  refine ⟨⟨k28, by omega, by omega, by rw [n28]; omega⟩, fun hz => (by rw [hb] at hz; cases hz), fun b' hb' => ?_⟩
  rw [hb] at hb'
  cases hb'
  unfold VX10_allRows_57
  exact h
theorem WL.mv {x : Nat} {S S1 : MS} (h : WL S x) (hx : S1.nx = S.nx) (hr : S1.R (x+28) = S.R (x+28)) (f : Sm (x+197) S.nx S S1) : WL S1 x := by
  obtain ⟨h0, B, hB, hD⟩ := h
  refine ⟨by omega, B, fun k hk => ?_, fun k k' => by rw [hr]; exact hD k k'⟩
  rw [hr, hx]
  rcases hB k hk with g | ⟨g1, g2, g4, g5⟩
  · exact Or.inl g
  · exact Or.inr ⟨g1, g2, g4, ar_sm (f.wk (by omega) (by omega)) g5⟩
/-- one world is at work, the others stay -/
theorem WL.mw {x n b : Nat} {S S1 : MS} (h : WL S x) (h3 : 3 ≤ n) (h7 : n ≤ 7) (hb : S.R (x+28) (n - 3) = some b) (hx : S1.nx = S.nx) (hr : S1.R (x+28) = S.R (x+28)) (f : ∀ a, x + 197 ≤ a → a < S.nx → ¬ (b ≤ a ∧ a < yk n b 3) → S1.K a = S.K a ∧ S1.N a = S.N a ∧ S1.I a = S.I a ∧ S1.J a = S.J a ∧ S1.R a = S.R a) (hA : AR S1 b n b (yk n b 3) (b + 4)) : WL S1 x := by
  obtain ⟨h0, B, hB, hD⟩ := h
  have n3 : n - 3 + 3 = n := by omega
  have eb : B (n - 3) = b := by
    rcases hB (n - 3) (by omega) with g | ⟨g1, -⟩
    · rw [g] at hb; cases hb
    · rw [g1] at hb; exact Option.some.inj hb
  refine ⟨by omega, B, fun k hk => ?_, fun k k' => by rw [hr]; exact hD k k'⟩
  rw [hr, hx]
  rcases hB k hk with g | ⟨g1, g2, g4, g5⟩
  · exact Or.inl g
  · refine Or.inr ⟨g1, g2, g4, ?_⟩
    by_cases c : k = n - 3
    · subst c
      rw [n3, eb]
      exact hA
    · have := hD k (n - 3) hk (by omega) c (by rw [g1]; simp) (by rw [hb]; simp)
      rw [n3, eb] at this
      exact ar_sm (fun a h1 h2 => f a (by omega) (by omega) (by omega)) g5
def CP (S : MS) (x n : Nat) (w : Nat → Int) (b : Nat) : Prop := CI S x n w ∧ (S.R (x+28) (n - 3) = some b ∧ x + 197 ≤ b ∧ AR S b n b (yk n b 3) (b + 4))
def WS (S : MS) (x n : Nat) (w : Nat → Int) (b : Nat) (p : Nat → Bool) : Prop := CP S x n w b ∧ S.I x 12 = 1 ∧ RS_ S (x+47) p ∧ PS n p ∧ lsR p 5056 = rowsL n w 0
/-- what a question's work changes -/
def QF (x b hi : Nat) (S S' : MS) : Prop := S'.K = S.K ∧ S'.N = S.N ∧ (∀ a, a ≠ x + 30 → S'.R a = S.R a) ∧ S'.T = S.T ∧ S'.nx = S.nx ∧ S'.us = S.us ∧ ∀ a, (a < x + 50 ∨ x + 176 ≤ a) → ¬ (b ≤ a ∧ a < hi) → S'.I a = S.I a ∧ S'.J a = S.J a
theorem QF.rf {x b hi : Nat} {S : MS} : QF x b hi S S := ⟨rfl, rfl, fun _ _ => rfl, rfl, rfl, rfl, fun _ _ _ => ⟨rfl, rfl⟩⟩
theorem QF.tr {x b hi : Nat} {S S1 S2 : MS} (f : QF x b hi S S1) (g : QF x b hi S1 S2) : QF x b hi S S2 := ⟨g.1.trans f.1, g.2.1.trans f.2.1, fun a h => (g.2.2.1 a h).trans (f.2.2.1 a h), g.2.2.2.1.trans f.2.2.2.1, g.2.2.2.2.1.trans f.2.2.2.2.1, g.2.2.2.2.2.1.trans f.2.2.2.2.2.1, fun a h h' => ⟨((g.2.2.2.2.2.2 a h h').1).trans (f.2.2.2.2.2.2 a h h').1, ((g.2.2.2.2.2.2 a h h').2).trans (f.2.2.2.2.2.2 a h h').2⟩⟩
theorem Fi.qf {x b hi l h : Nat} {S S1 : MS} (f : Fi l h S S1) (hd : (x + 50 ≤ l ∧ h ≤ x + 176) ∨ (b ≤ l ∧ h ≤ hi)) : QF x b hi S S1 := ⟨f.1, f.2.1, fun a _ => by rw [f.2.2.1], f.2.2.2.1, f.2.2.2.2.1, f.2.2.2.2.2.1, fun a h1 h2 => f.2.2.2.2.2.2 a (by omega)⟩
theorem Fx.qf {x b hi : Nat} {S S1 : MS} (f : Fx (x+30) S S1) : QF x b hi S S1 := ⟨f.1, f.2.1, fun a h => f.2.2.2.2.2.2.2 a h, f.2.2.2.2.1, f.2.2.2.2.2.1, f.2.2.2.2.2.2.1, fun a _ _ => ⟨by rw [f.2.2.1], by rw [f.2.2.2.1]⟩⟩
theorem Fg.qf {x b hi l wa y : Nat} {S S1 : MS} (f : Fg (x+56) l wa y S S1) (hw : x + 50 ≤ wa ∧ wa < x + 176) (hy : (b ≤ y ∧ y < hi) ∨ (x + 50 ≤ y ∧ y < x + 176)) : QF x b hi S S1 := ⟨f.1, f.2.1, fun a _ => by rw [f.2.2.1], f.2.2.2.1, f.2.2.2.2.1, f.2.2.2.2.2.1, fun a h1 h2 => f.2.2.2.2.2.2 a (by omega) (by omega) (by omega)⟩
theorem Fl.qf {x b hi wa y : Nat} {S S1 : MS} (f : Fl (x+56) wa y S S1) (hw : x + 50 ≤ wa ∧ wa < x + 176) (hy : (b ≤ y ∧ y < hi) ∨ (x + 50 ≤ y ∧ y < x + 176)) : QF x b hi S S1 := ⟨f.1, f.2.1, fun a _ => by rw [f.2.2.1], f.2.2.2.1, f.2.2.2.2.1, f.2.2.2.2.2.1, fun a h1 h2 => f.2.2.2.2.2.2 a (by omega) (by omega) (by omega)⟩
theorem QF.sm {x b hi lo' hi' : Nat} {S S1 : MS} (f : QF x b hi S S1) (hb : x + 197 ≤ b) (h : hi' ≤ x + 30 ∨ (x + 31 ≤ lo' ∧ hi' ≤ x + 50)) : Sm lo' hi' S S1 := fun a h1 h2 => by
  have := f.2.2.2.2.2.2 a (by omega) (by omega)
  exact ⟨by rw [f.1], by rw [f.2.1], this.1, this.2, f.2.2.1 a (by omega)⟩
theorem QF.wn {x b hi : Nat} {S S1 : MS} (f : QF x b hi S S1) : wn0 S1 x = wn0 S x := by
  unfold wn0
  rw [f.2.2.1 (x+28) (by omega)]
theorem QF.cq {x b hi : Nat} {S S1 : MS} (f : QF x b hi S S1) (hb : x + 197 ≤ b) : CQ x S S1 := ⟨f.2.2.2.1, fun a h _ => (f.2.2.2.2.2.2 a (by omega) (by omega)).1, fun k _ => by rw [(f.2.2.2.2.2.2 x (by omega) (by omega)).1], fun a _ => ⟨by rw [f.1], by rw [f.2.1]⟩, fun a h1 h2 => ⟨(f.2.2.2.2.2.2 a (by omega) (by omega)).1, (f.2.2.2.2.2.2 a (by omega) (by omega)).2, f.2.2.1 a (by omega)⟩, by
  have := f.wn
  have := f.2.2.2.2.1
  have := f.2.2.2.2.2.1
  unfold Pn
  omega, fun k b' hb' => by rw [f.2.2.1 (x+28) (by omega)]; exact hb'⟩
theorem CP.q {x n b : Nat} {w : Nat → Int} {S S1 : MS} (h : CP S x n w b) (f : QF x b (yk n b 3) S S1) (hA : AR S1 b n b (yk n b 3) (b + 4)) (hV : LVL S1 (x+50) (x+56)) (hN : S.I x 12 = 1 → AN S1 x n (rowsL n w 0)) : CP S1 x n w b := by
  obtain ⟨⟨hX, hS, ⟨hL, -⟩, hW, hF⟩, hb, hx, -⟩ := h
  have g0 := hS.2.2.1
  have ix := (f.2.2.2.2.2.2 x (by omega) (by omega)).1
  have rb := f.2.2.1 (x+28) (by omega)
  refine ⟨⟨hX.mv (fun a _ _ => ⟨by rw [f.1], by rw [f.2.1]⟩) (fun a _ _ _ h5 => f.2.2.1 a h5), ss_sm (f.sm hx (by omega)) hS, ⟨?_, hV⟩, hW.mw g0.1 g0.2.1 hb f.2.2.2.2.1 rb (fun a h1 h2 h4 => ?_) hA, by rw [ix]; exact hF.1, fun hf => ?_⟩, by rw [rb]; exact hb, hx, hA⟩
  · obtain ⟨p, hp⟩ := hL
    exact ⟨p, rs_sm (f.sm hx (by omega)) hp⟩
  · have := f.2.2.2.2.2.2 a (by omega) h4
    exact ⟨by rw [f.1], by rw [f.2.1], this.1, this.2, f.2.2.1 a (by omega)⟩
  · rw [ix] at hf
    obtain ⟨f1, ⟨p, f2, f4, f5⟩, -⟩ := hF.2 hf
    exact ⟨by rw [rb]; exact f1, ⟨p, rs_sm (f.sm hx (by omega)) f2, f4, f5⟩, hN hf⟩
theorem AN.eq {x n : Nat} {L : List Nat} {S S1 : MS} (h : AN S x n L) (e : S1.I (x+55) = S.I (x+55)) : AN S1 x n L := by
  unfold AN
  rw [e]
  exact h
theorem WS.q {x n b : Nat} {w : Nat → Int} {p : Nat → Bool} {S S1 : MS} (h : WS S x n w b p) (f : QF x b (yk n b 3) S S1) (hA : AR S1 b n b (yk n b 3) (b + 4)) (hV : LVL S1 (x+50) (x+56)) (hN : AN S1 x n (rowsL n w 0)) : WS S1 x n w b p := ⟨h.1.q f hA hV (fun _ => hN), by rw [(f.2.2.2.2.2.2 x (by omega) (by have := h.1.2.2.1; omega)).1]; exact h.2.1, rs_sm (f.sm h.1.2.2.1 (by omega)) h.2.2.1, h.2.2.2.1, h.2.2.2.2⟩
theorem WS.an {x n b : Nat} {w : Nat → Int} {p : Nat → Bool} {S : MS} (h : WS S x n w b p) : AN S x n (rowsL n w 0) := (h.1.1.2.2.2.2.2 h.2.1).2.2
theorem WS.g {x n b : Nat} {w : Nat → Int} {p : Nat → Bool} {S : MS} (h : WS S x n w b p) : 3 ≤ n ∧ n ≤ 7 ∧ w 0 = (n : Int) := h.1.1.2.1.2.2.1
theorem CI.i7 {x n : Nat} {w : Nat → Int} {S : MS} (h : CI S x n w) : S.I (x+12) 7 = (n : Int) := by rw [h.2.1.2.1.1.1, h.2.1.2.2.1.2.2]
/-- with all at hand nothing is done -/
theorem k_allRowsW {d x n b : Nat} {w : Nat → Int} {S : MS} {Q : Out → MS → Prop} (hd : 1 ≤ d) (hW : CP S x n w b) (h : Q (.inl (some (vA b))) S) : Mw hX10_allRows yX10_allRows d [vA x] S Q :=
  k_allRowsP hd hW.1.2.1.2.2.1.1 hW.1.2.1.2.2.1.2.1 hW.1.1 hW.1.2.1.1.1 hW.1.i7 hW.2.1 h
theorem k_rowsLeftW {d x n b : Nat} {w : Nat → Int} {p : Nat → Bool} {S : MS} {Q : Out → MS → Prop} (hd : 1 ≤ d) (hW : WS S x n w b p) (h : Q (.inl (some (vA (x+47)))) S) : Mw hX10_rowsLeft yX10_rowsLeft d [vA x] S Q := by
  have hX := hW.1.1.1
  obtain ⟨dd, rfl⟩ : ∃ e, d = e + 1 := ⟨d - 1, by omega⟩
  refine MX10_rowsLeft ?_
  unfold VX10_rowsLeft_0
  unfold VX10_rowsLeft_56
  rw [hW.2.1]
  exact ⟨hX.1, r32_1, fun _ => ⟨hX.1, x+47, hX.2.1.2.2.2.2.2.2.1, h⟩, fun c => absurd c (by decide)⟩
theorem allS_ps {n : Nat} {q : Nat → Bool} : PS n (inR n q) := fun r hr => by
  unfold inR
  rw [decide_eq_false (by omega), Bool.false_and]
theorem k_rowsLeft {d x n : Nat} {w : Nat → Int} {S : MS} {Q : Out → MS → Prop} (hd : 8 ≤ d) (hC : CI S x n w) (h : ∀ S' b p, WS S' x n w b p → CR x S S' → Q (.inl (some (vA (x+47)))) S') : Mw hX10_rowsLeft yX10_rowsLeft d [vA x] S Q := by
  have hX := hC.1
  rcases hC.2.2.2.2.1 with f0 | f1
  · skip
    obtain ⟨dd, rfl⟩ : ∃ e, d = e + 1 := ⟨d - 1, by omega⟩
    refine MX10_rowsLeft ?_
    unfold VX10_rowsLeft_0
    unfold VX10_rowsLeft_56
    rw [f0]
    refine ⟨hX.1, r32_0, fun c => absurd rfl c, fun _ => ⟨hX.1, x+29, hX.2.1.2.2.2.2.2.1, hX.1, x+12, hX.2.1.2.2.1, hX.1, k_allRows (by omega) hC (fun S3 b C3 q3 W3 => oA_i ?_)⟩⟩
    have hX3 := C3.1
    have hS3 := C3.2.1
    have g0 := hS3.2.2.1
    have F3 : FT S3 (x+29) := hX3.2.2.2.2.2.2.2.1
    have hb := W3.2.1
    refine ⟨F3.1, k_aim (by omega) (by omega) (by omega) F3 hS3 W3.2.2 (fun S4 f4 F4 A4 M4 => oV_i ?_)⟩
    have q4 : QF x b (yk n b 3) S3 S4 := f4.qf
    have P4 : CP S4 x n w b := CP.q ⟨C3, W3⟩ q4 A4 (lvl_sm (fun a h1 h2 => ⟨by rw [f4.1], by rw [f4.2.1], by rw [f4.2.2.1], by rw [f4.2.2.2.1], f4.2.2.2.2.2.2.2 a (by omega)⟩) (fun a h1 h2 => ⟨by rw [f4.1], by rw [f4.2.1], by rw [f4.2.2.1], by rw [f4.2.2.2.1], f4.2.2.2.2.2.2.2 a (by omega)⟩) C3.2.2.1.2) (fun hf => ((C3.2.2.2.2.2 hf).2.2).eq (by rw [f4.2.2.1]))
    have hX4 := P4.1.1
    refine ⟨hX4.1, x+29, hX4.2.1.2.2.2.2.2.1, hX4.1, x+12, hX4.2.1.2.2.1, hX4.1, k_allRowsW (by omega) P4 (oA_i ⟨hX4.1, x+47, hX4.2.1.2.2.2.2.2.2.1, F4.1, ?_⟩)⟩
    obtain ⟨q0, hq0⟩ := P4.1.2.2.1.1
    refine k_fit (by omega) g0.1 g0.2.1 (by unfold R32; omega) (by omega) (by omega) F4 P4.1.2.1 M4 A4 hq0 (fun S9 f9 R9 => oV_i ?_)
    have K9 : ∀ a, S9.K a = S4.K a := fun a => by rw [f9.1]
    refine ⟨by rw [K9]; exact hX4.1, x+55, by rw [f9.2.2.1]; exact hX4.2.1.2.2.2.2.2.2.2.2.2.2.2, k_afill (by omega) (m := 33) (by omega) (by rw [f9.1]; exact hX4.2.2.2.2.2.2.2.2.2.2.1) (by rw [f9.2.1]; exact hX4.2.2.2.2.2.2.2.2.2.2.2) (fun S11 f11 z11 => oV_i ?_)⟩
    have X11 : CX (S11.setI x 12 1) x := hX4.mv (fun a _ _ => ⟨by show S11.K a = _; rw [f11.1, f9.1], by show S11.N a = _; rw [f11.2.1, f9.2.1]⟩) (fun a _ _ _ _ => by show S11.R a = _; rw [f11.2.2.1, f9.2.2.1])
    have I12 : ∀ a, a ≠ x → (a < x + 47 ∨ (x + 50 ≤ a ∧ a ≠ x + 55)) → (S11.setI x 12 1).I a = S4.I a ∧ (S11.setI x 12 1).J a = S4.J a := fun a h1 h2 => ⟨by rw [sI_Ia h1, f11.I (by omega), f9.I (by omega)], by show S11.J a = _; rw [f11.J (by omega), f9.J (by omega)]⟩
    have S12 : ∀ lo hi, (lo > x) → (hi ≤ x + 47 ∨ (x + 50 ≤ lo ∧ (hi ≤ x + 55 ∨ x + 56 ≤ lo))) → Sm lo hi S4 (S11.setI x 12 1) := fun lo hi h1 h2 a h3 h4 => by
      have := I12 a (by omega) (by omega)
      exact ⟨by show S11.K a = _; rw [f11.1, f9.1], by show S11.N a = _; rw [f11.2.1, f9.2.1], this.1, this.2, by show S11.R a = _; rw [f11.2.2.1, f9.2.2.1]⟩
    have R12 : (S11.setI x 12 1).R = S4.R := by show S11.R = _; rw [f11.2.2.1, f9.2.2.1]
    have nx12 : (S11.setI x 12 1).nx = S4.nx := by show S11.nx = _; rw [f11.2.2.2.2.1, f9.2.2.2.2.1]
    have us12 : (S11.setI x 12 1).us = S4.us := by show S11.us = _; rw [f11.2.2.2.2.2.1, f9.2.2.2.2.2.1]
    have L12 : RS_ (S11.setI x 12 1) (x+47) (inR n (allS n w (-1) (sN w))) := by
      have := f11.rs (by omega) R9
      exact (Fi.sI (lo := x) (hi := x+1) (by omega) : Fi x (x+1) S11 (S11.setI x 12 1)).rs (by omega) this
    have rows : lsR (inR n (allS n w (-1) (sN w))) 5056 = rowsL n w 0 := fit_rows P4.1.2.1.2.2 (fun m _ => ⟨fun _ => by omega, fun _ => Nat.zero_testBit m⟩)
    have an12 : AN (S11.setI x 12 1) x n (rowsL n w 0) := by
      have z : ∀ u, u < 33 → (S11.setI x 12 1).I (x+55) u = -3 := fun u hu => by rw [sI_Ia (by omega)]; exact z11 u hu
      exact ⟨fun k hk => Or.inl (z k (by omega)), fun k hk => Or.inl (z _ (by omega)), fun k hk t ht => Or.inl (z _ (by omega))⟩
    have i12 : (S11.setI x 12 1).I x 12 = 1 := by rw [sI_I, if_pos ⟨rfl, rfl⟩]
    have A12 : AR (S11.setI x 12 1) b n b (yk n b 3) (b + 4) := ar_sm (S12 _ _ (by omega) (by omega)) A4
    have w12 : wn0 (S11.setI x 12 1) x = wn0 S4 x := by unfold wn0; rw [R12]
    have C12 : CI (S11.setI x 12 1) x n w := ⟨X11, ss_sm (S12 _ _ (by omega) (by omega)) P4.1.2.1, ⟨⟨_, L12⟩, lvl_sm (S12 _ _ (by omega) (by omega)) (S12 _ _ (by omega) (by omega)) P4.1.2.2.1.2⟩, P4.1.2.2.2.1.mv nx12 (by rw [R12]) (S12 _ _ (by omega) (by omega)), Or.inr i12, fun _ => ⟨by rw [R12, P4.2.1]; simp, ⟨_, L12, allS_ps, rows⟩, an12⟩⟩
    have q12 : CQ x S4 (S11.setI x 12 1) := ⟨by show S11.T = _; rw [f11.2.2.2.1, f9.2.2.2.1], fun a h1 h2 => (I12 a h2 (by omega)).1, fun k hk => by rw [sI_I, if_neg (fun z => hk z.2), f11.I (by omega), f9.I (by omega)], fun a _ => ⟨by show S11.K a = _; rw [f11.1, f9.1], by show S11.N a = _; rw [f11.2.1, f9.2.1]⟩, fun a h1 h2 => ⟨(I12 a (by omega) (by omega)).1, (I12 a (by omega) (by omega)).2, by rw [R12]⟩, by unfold Pn; omega, fun k b' hb' => by rw [R12]; exact hb'⟩
    refine ⟨⟨by rw [f11.1, K9]; exact hX4.1, b01_1⟩, X11.1, x+47, X11.2.1.2.2.2.2.2.2.1, h _ b _ ⟨⟨C12, by rw [R12]; exact P4.2.1, hb, A12⟩, i12, L12, allS_ps, rows⟩ (q3.tr (CR.tr (S1 := S4) ⟨q4.cq hb, fun a h1 h2 => ⟨by rw [f4.1], by rw [f4.2.1], by rw [f4.2.2.1], by rw [f4.2.2.2.1], f4.2.2.2.2.2.2.2 a (by omega)⟩, by rw [f4.2.2.2.2.2.1]; omega⟩ ⟨q12, S12 _ _ (by omega) (by omega), by omega⟩))⟩
  · obtain ⟨p1, ⟨p, p2, p3, p4⟩, p5⟩ := hC.2.2.2.2.2 f1
    obtain ⟨hx, B, hB, hD⟩ := hC.2.2.2.1
    have g0 := hC.2.1.2.2.1
    rcases hB (n - 3) (by omega) with g | ⟨g1, g2, g4, g5⟩
    · exact absurd g p1
    · rw [show n - 3 + 3 = n by omega] at g5
      have W : WS S x n w (B (n - 3)) p := ⟨⟨hC, g1, g2, g5⟩, f1, p2, p3, p4⟩
      exact k_rowsLeftW (by omega) W (h S _ p W CR.rf)
theorem CP.hi {x n b : Nat} {w : Nat → Int} {S : MS} (h : CP S x n w b) : yk n b 3 ≤ S.nx := by
  obtain ⟨h0, B, hB, hD⟩ := h.1.2.2.2.1
  have g0 := h.1.2.1.2.2.1
  rcases hB (n - 3) (by omega) with g | ⟨g1, g2, g4, g5⟩
  · rw [h.2.1] at g; cases g
  · rw [h.2.1] at g1
    cases g1
    rw [show n - 3 + 3 = n by omega] at g4
    exact g4
