/-! questions: what they need, and what they throw -/
def CJ (x : Nat) (S S' : MS) : Prop := S'.T = S.T ∧ (∀ a, a < x + 47 → a ≠ x → S'.I a = S.I a) ∧ (∀ k, k ≠ 12 → S'.I x k = S.I x k) ∧ (∀ a, a < x + 197 → S'.K a = S.K a ∧ S'.N a = S.N a) ∧ (∀ a, x + 176 ≤ a → a < x + 197 → S'.I a = S.I a ∧ S'.J a = S.J a ∧ S'.R a = S.R a) ∧ S'.nx + 1000 * wn0 S' x ≤ S.nx + 1000 * wn0 S x + 1 ∧ S'.us + 100000 * wn0 S' x ≤ S.us + 100000 * wn0 S x + 6
theorem CQ.j {x : Nat} {S S1 : MS} (f : CQ x S S1) : CJ x S S1 := ⟨f.1, f.2.1, f.2.2.1, f.2.2.2.1, f.2.2.2.2.1, by have := f.2.2.2.2.2.1.1; omega, by have := f.2.2.2.2.2.1.2; omega⟩
theorem junk_sm {S : MS} {lo hi : Nat} (h : hi ≤ S.nx) : Sm lo hi S (S.junk 6) := fun a _ h2 => ⟨if_neg (by omega), rfl, rfl, rfl, rfl⟩
theorem CI.junk {x n : Nat} {w : Nat → Int} {S : MS} (h : CI S x n w) : CI (S.junk 6) x n w := by
  obtain ⟨hX, hS, ⟨⟨p, hL⟩, hV⟩, hW, hF⟩ := h
  have hx := hW.1
  have k : ∀ a, a < S.nx → (S.junk 6).K a = S.K a := fun a ha => if_neg (by omega)
  refine ⟨hX.mv (fun a _ _ => ⟨k a (by omega), rfl⟩) (fun a _ _ _ _ => rfl), ss_sm (junk_sm (by omega)) hS, ⟨⟨p, rs_sm (junk_sm (by omega)) hL⟩, lvl_sm (junk_sm (by omega)) (junk_sm (by omega)) hV⟩, ?_, hF.1, fun hf => ?_⟩
  · obtain ⟨h0, B, hB, hD⟩ := hW
    refine ⟨by show x + 197 ≤ S.nx + 1; omega, B, fun k hk => ?_, hD⟩
    rcases hB k hk with g | ⟨g1, g2, g4, g5⟩
    · exact Or.inl g
    · exact Or.inr ⟨g1, g2, by show _ ≤ S.nx + 1; omega, ar_sm (junk_sm (by omega)) g5⟩
  · obtain ⟨f1, ⟨p, f2, f4, f5⟩, f6⟩ := hF.2 hf
    exact ⟨f1, ⟨p, rs_sm (junk_sm (by omega)) f2, f4, f5⟩, f6⟩
theorem CQ.jk {x : Nat} {S S1 : MS} (f : CQ x S S1) (hx : x + 197 ≤ S1.nx) : CJ x S (S1.junk 6) := by
  refine ⟨f.1, f.2.1, f.2.2.1, fun a ha => ⟨?_, (f.2.2.2.1 a ha).2⟩, f.2.2.2.2.1, ?_, ?_⟩
  · rw [← (f.2.2.2.1 a ha).1]
    exact if_neg (by omega)
  · have := f.2.2.2.2.2.1.1
    show S1.nx + 1 + 1000 * wn0 S1 x ≤ _
    omega
  · have := f.2.2.2.2.2.1.2
    show S1.us + 6 + 100000 * wn0 S1 x ≤ _
    omega
def iob : String := "java/lang/IndexOutOfBoundsException"
def iae : String := "java/lang/IllegalArgumentException"
def uoe : String := "java/lang/UnsupportedOperationException"
def ise : String := "java/lang/IllegalStateException"
def nse : String := "java/util/NoSuchElementException"
/-- an answer, or the throw by its number -/
def oR (A : Int × Int) (es : List String) : Out := if A.1 = 0 then .inl (some (vI A.2)) else .inr (es.getD (A.1.toNat - 1) "")
theorem oR_0 {v : Int} {es : List String} : oR (0, v) es = .inl (some (vI v)) := rfl
theorem oR_1 {v : Int} {e : String} {es : List String} : oR (1, v) (e :: es) = .inr e := rfl
theorem oR_2 {v : Int} {e e' : String} {es : List String} : oR (2, v) (e' :: e :: es) = .inr e := rfl
theorem oR_3 {v : Int} {e e' e'' : String} {es : List String} : oR (3, v) (e'' :: e' :: e :: es) = .inr e := rfl
theorem WS.sz {x n b : Nat} {w : Nat → Int} {p : Nat → Bool} {S : MS} (h : WS S x n w b p) : S.I (x+47) 0 = ((rowsL n w 0).length : Nat) := by
  rw [← h.2.2.2.2, lsR_len]
  exact h.2.2.1.2.2.2.2
theorem rows_le {n mask : Nat} {w : Nat → Int} (h3 : 3 ≤ n) (h7 : n ≤ 7) : (rowsL n w mask).length ≤ fct n := by
  unfold rowsL
  exact Nat.le_trans (List.length_filter_le _ _) (by rw [List.length_range]; exact Nat.le_refl _)
theorem k_needThing {d x n : Nat} {w : Nat → Int} {t : Int} {S : MS} {Q : Out → MS → Prop} (hd : 6 ≤ d) (hC : CI S x n w) (ht : R32 t) (hy : 0 ≤ t ∧ t < (n : Int) → Q (.inl none) S) (hn : ¬ (0 ≤ t ∧ t < (n : Int)) → Q (.inr iob) (S.junk 6)) : Mw hX10_needThing yX10_needThing d [vA x, vI t] S Q := by
  have hX := hC.1
  obtain ⟨dd, rfl⟩ : ∃ e, d = e + 1 := ⟨d - 1, by omega⟩
  refine MX10_needThing ?_
  unfold VX10_needThing_0
  refine ⟨hX.1, x+12, hX.2.1.2.2.1, hC.2.1.1.1, c_isThing (by omega) hC.2.1 ht (fun q hq => oI_i ⟨hq.r, fun c => hy ?_, fun c => ⟨by omega, hn ?_⟩⟩)⟩
  · rcases hq with ⟨-, k⟩ | ⟨rfl, -⟩
    · exact k
    · omega
  · rcases hq with ⟨rfl, -⟩ | ⟨-, k⟩
    · omega
    · exact k
theorem CI.i8 {x n : Nat} {w : Nat → Int} {S : MS} (h : CI S x n w) : S.I (x+12) 8 = (sN w : Int) ∧ S.I (x+12) 9 = (nN w : Int) ∧ S.I (x+12) 10 = w 3 ∧ sN w ≤ 4 ∧ nN w ≤ 16 := ⟨by rw [h.2.1.2.1.1.2.1, h.2.1.2.2.2.1.1], by rw [h.2.1.2.1.1.2.2.1, h.2.1.2.2.2.2.1.1], h.2.1.2.1.1.2.2.2, h.2.1.2.2.2.1.2, h.2.1.2.2.2.2.1.2⟩
theorem k_needScale {d x n : Nat} {w : Nat → Int} {t : Int} {S : MS} {Q : Out → MS → Prop} (hd : 6 ≤ d) (hC : CI S x n w) (ht : R32 t) (hy : 0 ≤ t ∧ t < (sN w : Int) → Q (.inl none) S) (hn : ¬ (0 ≤ t ∧ t < (sN w : Int)) → Q (.inr iob) (S.junk 6)) : Mw hX10_needScale yX10_needScale d [vA x, vI t] S Q := by
  have hX := hC.1
  have i8 := hC.i8
  obtain ⟨dd, rfl⟩ : ∃ e, d = e + 1 := ⟨d - 1, by omega⟩
  refine MX10_needScale ?_
  unfold VX10_needScale_0
  unfold VX10_needScale_15
  refine ⟨ht, fun c => ⟨by omega, hn (by omega)⟩, fun c => ⟨hX.1, x+12, hX.2.1.2.2.1, hC.2.1.1.1, ?_⟩⟩
  rw [i8.1]
  exact ⟨⟨ht, (by unfold R32; omega)⟩, fun c2 => hy (by omega), fun c2 => ⟨by omega, hn (by omega)⟩⟩
theorem k_needNote {d x n : Nat} {w : Nat → Int} {t : Int} {S : MS} {Q : Out → MS → Prop} (hd : 6 ≤ d) (hC : CI S x n w) (ht : R32 t) (hy : 0 ≤ t ∧ t < (nN w : Int) → Q (.inl none) S) (hn : ¬ (0 ≤ t ∧ t < (nN w : Int)) → Q (.inr iob) (S.junk 6)) : Mw hX10_needNote yX10_needNote d [vA x, vI t] S Q := by
  have hX := hC.1
  have i8 := hC.i8
  obtain ⟨dd, rfl⟩ : ∃ e, d = e + 1 := ⟨d - 1, by omega⟩
  refine MX10_needNote ?_
  unfold VX10_needNote_0
  unfold VX10_needNote_15
  refine ⟨ht, fun c => ⟨by omega, hn (by omega)⟩, fun c => ⟨hX.1, x+12, hX.2.1.2.2.1, hC.2.1.1.1, ?_⟩⟩
  rw [i8.2.1]
  exact ⟨⟨ht, (by unfold R32; omega)⟩, fun c2 => hy (by omega), fun c2 => ⟨by omega, hn (by omega)⟩⟩
theorem CI.kd_ {x n s : Nat} {w : Nat → Int} {S : MS} (h : CI S x n w) (hs : s < sN w) : S.R (x+12) 1 = some (x+12+2) ∧ S.K (x+12+2) = 13 ∧ S.N (x+12+2) = 4 ∧ S.I (x+12+2) s = (kd w s : Int) ∧ kd w s < 3 := by
  have hl := h.2.1.1
  unfold SY at hl
  have k1 := (h.2.1.2.2.sc hs).1
  exact ⟨hl.2.1.2.1, hl.2.2.1.2.1, hl.2.2.2.2.1, by rw [(h.2.1.2.1.2.2.1 s hs).1, k1.1], k1.2⟩
theorem k_needLoad {d x n s : Nat} {w : Nat → Int} {t u : Int} {S : MS} {Q : Out → MS → Prop} (hd : 6 ≤ d) (hC : CI S x n w) (et : t = (s : Int)) (hs : s < sN w) (hu : R32 u) (hy : IsSet n (pansK (kd w s)) u → Q (.inl none) S) (hn : ¬ IsSet n (pansK (kd w s)) u → Q (.inr iae) (S.junk 6)) : Mw hX10_needLoad yX10_needLoad d [vA x, vI t, vI u] S Q := by
  subst et
  have hX := hC.1
  have i8 := hC.i8
  obtain ⟨k1, k2, k3, k4, k5⟩ := hC.kd_ hs
  have p4 : pansK (kd w s) ≤ 4 := by unfold pansK; split <;> (try split) <;> omega
  obtain ⟨dd, rfl⟩ : ∃ e, d = e + 1 := ⟨d - 1, by omega⟩
  refine MX10_needLoad ?_
  unfold VX10_needLoad_0
  rw [Int.toNat_natCast]
  refine ⟨hX.1, x+12, hX.2.1.2.2.1, hX.1, x+12, hX.2.1.2.2.1, hC.2.1.1.1, _, k1, ⟨k2, by omega, by rw [k3]; omega⟩, c_kPans (by omega) k4 k5 (oI_i ⟨hC.2.1.1.1, c_isSet (by omega) hC.2.1 hu rfl (by omega) (fun q hq => oI_i ⟨hq.r, fun c => hy ?_, fun c => ⟨by omega, hn ?_⟩⟩)⟩)⟩
  · rcases hq with ⟨-, k⟩ | ⟨rfl, -⟩
    · exact k
    · omega
  · rcases hq with ⟨rfl, -⟩ | ⟨-, k⟩
    · omega
    · exact k
theorem k_needThree {d x n : Nat} {w : Nat → Int} {u : Int} {S : MS} {Q : Out → MS → Prop} (hd : 6 ≤ d) (hC : CI S x n w) (hu : R32 u) (hy : IsSet n 3 u → Q (.inl none) S) (hn : ¬ IsSet n 3 u → Q (.inr iae) (S.junk 6)) : Mw hX10_needThree yX10_needThree d [vA x, vI u] S Q := by
  have hX := hC.1
  obtain ⟨dd, rfl⟩ : ∃ e, d = e + 1 := ⟨d - 1, by omega⟩
  refine MX10_needThree ?_
  unfold VX10_needThree_0
  refine ⟨hX.1, x+12, hX.2.1.2.2.1, hC.2.1.1.1, c_isSet (k := 3) (by omega) hC.2.1 hu rfl (by omega) (fun q hq => oI_i ⟨hq.r, fun c => hy ?_, fun c => ⟨by omega, hn ?_⟩⟩)⟩
  · rcases hq with ⟨-, k⟩ | ⟨rfl, -⟩
    · exact k
    · omega
  · rcases hq with ⟨rfl, -⟩ | ⟨-, k⟩
    · omega
    · exact k
/-- all rows and the rows left -/
theorem k_both {d x n : Nat} {w : Nat → Int} {S : MS} {P : Nat → Nat → MS → Prop} (hd : 8 ≤ d) (hC : CI S x n w) (h : ∀ S' b p, WS S' x n w b p → CR x S S' → P b (x+47) S') : Mw hX10_allRows yX10_allRows d [vA x] S (oA (fun r2 S2 => S2.K x = 10 ∧ Mw hX10_rowsLeft yX10_rowsLeft d [vA x] S2 (oA (fun r3 S3 => P r2 r3 S3)))) := by
  refine k_allRows (by omega) hC (fun S1 b C1 q1 W1 => oA_i ⟨C1.1.1, k_rowsLeft hd C1 (fun S2 b' p W2 q2 => oA_i ?_)⟩)
  have e : b = b' := by
    have := q2.1.2.2.2.2.2.2 _ _ W1.1
    rw [W2.1.2.1] at this
    exact (Option.some.inj this).symm
  subst e
  exact h S2 b p W2 (q1.tr q2)
theorem k_both' {d x n : Nat} {w : Nat → Int} {S : MS} {P : Nat → Nat → MS → Prop} (hd : 8 ≤ d) (hC : CI S x n w) (h : ∀ S' b p, WS S' x n w b p → CR x S S' → P (x+47) b S') : Mw hX10_rowsLeft yX10_rowsLeft d [vA x] S (oA (fun r2 S2 => S2.K x = 10 ∧ Mw hX10_allRows yX10_allRows d [vA x] S2 (oA (fun r3 S3 => P r2 r3 S3)))) :=
  k_rowsLeft hd hC (fun S2 b p W2 q2 => oA_i ⟨W2.1.1.1.1, k_allRowsW (by omega) W2.1 (oA_i (h S2 b p W2 q2))⟩)
/-! the first questions -/
theorem q_rows {d x n : Nat} {w : Nat → Int} {S : MS} {Q : Out → MS → Prop} (hd : 9 ≤ d) (hC : CI S x n w) (h : ∀ S', CI S' x n w → CQ x S S' → Q (.inl (some (vI ((rowsL n w 0).length : Nat)))) S') : Mw hX10_rows yX10_rows d [vA x] S Q := by
  obtain ⟨dd, rfl⟩ : ∃ e, d = e + 1 := ⟨d - 1, by omega⟩
  refine MX10_rows ?_
  unfold VX10_rows_0
  refine ⟨hC.1.1, k_rowsLeft (by omega) hC (fun S1 b p W q => oA_i ⟨W.2.2.1.1.1, ?_⟩)⟩
  rw [W.sz]
  exact h S1 W.1.1 q.1
theorem q_row {d x n : Nat} {w : Nat → Int} {k t : Int} {S : MS} {Q : Out → MS → Prop} (hd : 9 ≤ d) (hC : CI S x n w) (hk : R32 k) (ht : R32 t) (h : ∀ S', CI S' x n w → CJ x S S' → Q (oR (A_row n w k t) [iob]) S') : Mw hX10_row yX10_row d [vA x, vI k, vI t] S Q := by
  have hX := hC.1
  have g0 := hC.2.1.2.2.1
  unfold A_row at h
  obtain ⟨dd, rfl⟩ : ∃ e, d = e + 1 := ⟨d - 1, by omega⟩
  refine MX10_row ?_
  unfold VX10_row_0
  refine ⟨hX.1, x+12, hX.2.1.2.2.1, hC.2.1.1.1, c_isThing (by omega) hC.2.1 ht (fun q hq => oI_i ⟨hq.r, fun c => ?_, fun c => ⟨by omega, ?_⟩⟩)⟩
  · have tk : 0 ≤ t ∧ t < (n : Int) := by
      rcases hq with ⟨-, k⟩ | ⟨rfl, -⟩
      · exact k
      · omega
    rw [if_pos tk, oR_0] at h
    refine ⟨hX.1, k_rowsLeft (by omega) hC (fun S1 b p W q1 => oA_i ⟨W.2.2.1.1.1, c_rNumAt (by omega) W.2.2.1 (W.2.2.2.1.a g0.1 g0.2.1).1 hk (oI_i ?_)⟩)⟩
    rw [W.2.2.2.2]
    have fin := h S1 W.1.1 q1.1.j
    by_cases c2 : 0 ≤ k ∧ k < ((rowsL n w 0).length : Int)
    · rw [if_pos c2] at fin ⊢
      have m := W.2.2.2.1.m ((rowsL n w 0).getD k.toNat 0) (by rw [W.2.2.2.2]; exact getD_mem (by omega))
      have hf := fct_le g0.1 g0.2.1
      refine ⟨⟨(by unfold R32; omega), (by unfold R32; omega)⟩, fun _ => ⟨W.1.1.1.1, k_allRowsW (by omega) W.1 (oA_i ⟨W.1.2.2.2.1.1, k_packed (by omega) g0.1 g0.2.1 W.1.2.2.2 rfl m.1 (oI_i (c_kAt (x := rowP n ((rowsL n w 0).getD k.toNat 0)) (p := t.toNat) (by omega) rfl (by omega) (by have := rowP_sm (n := n) (r := (rowsL n w 0).getD k.toNat 0) g0.1 g0.2.1; omega) (by omega) (oI_i fin)))⟩)⟩, fun z => by omega⟩
    · rw [if_neg c2] at fin ⊢
      exact ⟨⟨(by unfold R32; omega), (by unfold R32; omega)⟩, fun z => absurd rfl z, fun _ => fin⟩
  · have tk : ¬ (0 ≤ t ∧ t < (n : Int)) := by
      rcases hq with ⟨rfl, -⟩ | ⟨-, k⟩
      · omega
      · exact k
    rw [if_neg tk, oR_1] at h
    exact h _ hC.junk (CQ.rf.jk hC.2.2.2.1.1)
theorem mask_end {n t : Nat} {q : Nat → Bool} (h : ∀ u, n ≤ u → u < 7 → q u = false) (ht : t = n) : mskN (upTo t q) 7 = mskN q 7 := by
  subst ht
  refine mskN_cong (fun u hu => ?_)
  unfold upTo
  by_cases c : u < t
  · rw [decide_eq_true c, Bool.true_and]
  · rw [decide_eq_false c, h u (by omega) hu]; rfl
theorem CP.mvR {x n b y k : Nat} {w : Nat → Int} {S S1 : MS} (h : CP S x n w b) (f : CR x S S1) (hY : LY S y n k b (yk n b 3) (b + 4)) : LY S1 y n k b (yk n b 3) (b + 4) := ly_sm (f.2.1.wk h.2.2.1 h.hi) hY
theorem kf_mayRise {d x n b y s : Nat} {w : Nat → Int} {Q : Out → MS → Prop} (hd : 8 ≤ d) (hs : s < 2 ^ n) (hpc : pc s = 3) : ∀ (j : Nat) {S : MS} {t : Nat}, t + j = n → CP S x n w b → LY S y n 0 b (yk n b 3) (b + 4) → (∀ S', CI S' x n w → CR x S S' → Q (.inl (some (vI (mskL (rsN n 0 s) (rowsL n w 0) : Nat)))) S') → VX10_mayRise_14 d Q (j + 1) x (s : Nat) y (mskN (upTo t (fun u => (rowsL n w 0).any (fun r => decide (rsN n 0 s r = u)))) 7 : Nat) (t : Nat) S := by
  intro j
  induction j with
  | zero =>
    intro S t ht hP hY h
    have hC := hP.1
    have hX := hC.1
    have g0 := hC.2.1.2.2.1
    unfold VX10_mayRise_14
    refine ⟨hX.1, x+12, hX.2.1.2.2.1, hC.2.1.1.1, ?_⟩
    rw [hC.i7]
    refine ⟨⟨(by unfold R32; omega), (by unfold R32; omega)⟩, fun _ => ?_, fun c => by omega⟩
    have := h S hC CR.rf
    unfold mskL at this
    rw [mask_end (n := n) (fun u hu _ => ?_) (by omega)]
    · exact this
    · cases e : (rowsL n w 0).any (fun r => decide (rsN n 0 s r = u))
      · rfl
      · rw [List.any_eq_true] at e
        obtain ⟨r, r1, r2⟩ := e
        unfold rowsL at r1
        rw [List.mem_filter, List.mem_range] at r1
        have := (rs_N (kn := 0) g0.1 g0.2.1 r1.1 hs (by rw [hpc]; decide)).2.1
        have : rsN n 0 s r = u := of_decide_eq_true r2
        omega
  | succ j ih =>
    intro S t ht hP hY h
    have hC := hP.1
    have hX := hC.1
    have g0 := hC.2.1.2.2.1
    have p7 := p2_7 g0.2.1
    have hW := Wn_le g0.1 g0.2.1
    unfold VX10_mayRise_14 VX10_mayRise_59
    refine ⟨hX.1, x+12, hX.2.1.2.2.1, hC.2.1.1.1, ?_⟩
    rw [hC.i7]
    refine ⟨⟨(by unfold R32; omega), (by unfold R32; omega)⟩, fun c => by omega, fun _ => c_holds (by omega) rfl rfl (by omega) (by omega) (fun q hq => oI_i ⟨hq.r, fun c => ?_, fun c => ⟨hX.1, k_rowsLeft hd hC (fun S1 b' p W q1 => oA_i ?_)⟩⟩)⟩
    · have nb : s.testBit t = false := by
        rcases hq with ⟨rfl, -⟩ | ⟨-, k⟩
        · omega
        · simpa using k
      have := ih (t := t + 1) (by omega) hP hY h
      rw [← upTo_n (k := t)] at this
      · exact this
      · cases e : (rowsL n w 0).any (fun r => decide (rsN n 0 s r = t))
        · rfl
        · rw [List.any_eq_true] at e
          obtain ⟨r, r1, r2⟩ := e
          unfold rowsL at r1
          rw [List.mem_filter, List.mem_range] at r1
          have k := (rs_N (kn := 0) g0.1 g0.2.1 r1.1 hs (by rw [hpc]; decide)).2.2.1
          rw [show rsN n 0 s r = t from of_decide_eq_true r2, nb] at k
          exact absurd k (by decide)
    · have yb : s.testBit t = true := by
        rcases hq with ⟨-, k⟩ | ⟨rfl, -⟩
        · exact k
        · omega
      have eb : b' = b := by
        have := q1.1.2.2.2.2.2.2 _ _ hP.2.1
        rw [W.1.2.1] at this
        exact Option.some.inj this
      subst eb
      have Y1 := hP.mvR q1 hY
      refine ⟨Y1.1.1, k_rising (by omega) g0.2.1 Y1 hs (by rw [hpc]; rfl) (by omega) yb rfl rfl (fun e e1 e2 => oA_i ⟨W.2.2.1.1.1, c_rMeets (by omega) hW.1 (W.2.2.2.1.a g0.1 g0.2.1).2 W.2.2.1 e2 (fun v hv => oI_i ⟨hv.r, fun c2 => ?_, fun c2 => ?_⟩)⟩)⟩
      · have := ih (t := t + 1) (by omega) W.1 Y1 (fun S' C' q' => h S' C' (q1.tr q'))
        rw [← upTo_n (k := t)] at this
        · exact this
        · cases e : (rowsL n w 0).any (fun r => decide (rsN n 0 s r = t))
          · rfl
          · rw [← W.2.2.2.2] at e
            have := (any_iff g0.1 g0.2.1 W.2.2.2.1).mp e
            rcases hv with ⟨rfl, -⟩ | ⟨-, k⟩
            · omega
            · exact absurd this k
      · have := ih (t := t + 1) (by omega) W.1 Y1 (fun S' C' q' => h S' C' (q1.tr q'))
        rw [or_upTo (by omega) (by omega) (Or.inl ⟨?_, rfl⟩)]
        · exact this
        · rw [← W.2.2.2.2]
          refine (any_iff g0.1 g0.2.1 W.2.2.2.1).mpr ?_
          rcases hv with ⟨-, k⟩ | ⟨rfl, -⟩
          · exact k
          · omega
theorem k_mayRise {d x n s : Nat} {w : Nat → Int} {u : Int} {S : MS} {Q : Out → MS → Prop} (hd : 9 ≤ d) (hC : CI S x n w) (eu : u = (s : Int)) (hs : s < 2 ^ n) (hpc : pc s = 3) (h : ∀ S', CI S' x n w → CR x S S' → Q (.inl (some (vI (mskL (rsN n 0 s) (rowsL n w 0) : Nat)))) S') : Mw hX10_mayRise yX10_mayRise d [vA x, vI u] S Q := by
  subst eu
  obtain ⟨dd, rfl⟩ : ∃ e, d = e + 1 := ⟨d - 1, by omega⟩
  refine MX10_mayRise ?_
  unfold VX10_mayRise_0
  refine ⟨hC.1.1, k_allRows (by omega) hC (fun S1 b C1 q1 W1 => oA_i ⟨W1.2.2.1.1, k_layings (k := 0) (by omega) W1.2.2 rfl (by decide) (fun y hy => oA_i ⟨n + 1, ?_⟩)⟩)⟩
  have := kf_mayRise (d := dd) (Q := Q) (by omega) hs hpc n (t := 0) (by omega) ⟨C1, W1⟩ hy (fun S' C' q' => h S' C' (q1.tr q'))
  rw [upTo_0] at this
  exact this
theorem IsSet3 {n k : Nat} {u : Int} (h : IsSet n k u) : 0 ≤ u ∧ u < ((2 ^ n : Nat) : Int) ∧ pc u.toNat = k := h
theorem IsSet3n {n k : Nat} {u : Int} (h : ¬ IsSet n k u) : ¬ (0 ≤ u ∧ u < ((2 ^ n : Nat) : Int) ∧ pc u.toNat = k) := h
theorem q_may {d x n : Nat} {w : Nat → Int} {u : Int} {S : MS} {Q : Out → MS → Prop} (hd : 10 ≤ d) (hC : CI S x n w) (hu : R32 u) (h : ∀ S', CI S' x n w → CJ x S S' → Q (oR (A_may n w u) [iae]) S') : Mw hX10_may yX10_may d [vA x, vI u] S Q := by
  unfold A_may at h
  obtain ⟨dd, rfl⟩ : ∃ e, d = e + 1 := ⟨d - 1, by omega⟩
  refine MX10_may ?_
  unfold VX10_may_0
  refine ⟨hC.1.1, k_needThree (by omega) hC hu (fun c => xV_i ⟨hC.1.1, ?_⟩) (fun c => xV_x ?_)⟩
  · rw [if_pos (IsSet3 c), oR_0] at h
    exact k_mayRise (s := u.toNat) (by omega) hC (by have := (IsSet3 c).1; omega) (by have := (IsSet3 c).2.1; have := (IsSet3 c).1; omega) (IsSet3 c).2.2 (fun S' C' q' => oI_i (h S' C' q'.1.j))
  · rw [if_neg (IsSet3n c), oR_1] at h
    exact h _ hC.junk (CQ.rf.jk hC.2.2.2.1.1)
