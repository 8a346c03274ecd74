/-! more questions -/
theorem k_rowsHeavier {d x n : Nat} {w : Nat → Int} {a b : Int} {S : MS} {Q : Out → MS → Prop} (hd : 9 ≤ d) (hC : CI S x n w) (ha : R32 a) (hb : R32 b) (h0 : (0 ≤ a ∧ a < (n : Int)) → (0 ≤ b ∧ b < (n : Int)) → a ≠ b → ∀ S' c p, WS S' x n w c p → CR x S S' → Q (.inl (some (vI (ct (hv n a.toNat b.toNat) (rowsL n w 0) : Nat)))) S') (h1 : ¬ ((0 ≤ a ∧ a < (n : Int)) ∧ (0 ≤ b ∧ b < (n : Int))) → Q (.inr iob) (S.junk 6)) (h2 : (0 ≤ a ∧ a < (n : Int)) → (0 ≤ b ∧ b < (n : Int)) → a = b → Q (.inr iae) (S.junk 6)) : Mw hX10_rowsHeavier yX10_rowsHeavier d [vA x, vI a, vI b] S Q := by
  have g0 := hC.2.1.2.2.1
  have hW := Wn_le g0.1 g0.2.1
  obtain ⟨dd, rfl⟩ : ∃ e, d = e + 1 := ⟨d - 1, by omega⟩
  refine MX10_rowsHeavier ?_
  unfold VX10_rowsHeavier_0
  refine ⟨hC.1.1, k_needThing (by omega) hC ha (fun ca => xV_i ⟨hC.1.1, k_needThing (by omega) hC hb (fun cb => xV_i ⟨⟨ha, hb⟩, fun ne => ⟨hC.1.1, ?_⟩, fun e => ⟨by omega, h2 ca cb e⟩⟩) (fun cb => xV_x (h1 (fun z => cb z.2)))⟩) (fun ca => xV_x (h1 (fun z => ca z.1)))⟩
  refine k_both' (by omega) hC (fun S1 c p W q1 => ⟨W.1.2.2.2.1.1, k_heavier (t := a.toNat) (p := b.toNat) (by omega) W.1.2.2.2 (by omega) (by omega) (by omega) (by omega) (fun e e1 e2 => oA_i ⟨W.2.2.1.1.1, c_rShared (by omega) hW.1 (W.2.2.2.1.a g0.1 g0.2.1).2 W.2.2.1 e2 (oI_i ?_)⟩)⟩)
  rw [sh_ct W.2.2.2.1, W.2.2.2.2]
  exact h0 ca cb ne S1 c p W q1
theorem ct_len (q : Nat → Bool) (L : List Nat) : ct q L ≤ L.length := List.length_filter_le _ _
theorem q_heavier {d x n : Nat} {w : Nat → Int} {a b : Int} {S : MS} {Q : Out → MS → Prop} (hd : 10 ≤ d) (hC : CI S x n w) (ha : R32 a) (hb : R32 b) (h : ∀ S', CI S' x n w → CJ x S S' → Q (oR (A_heavier n w a b) [iob, iae]) S') : Mw hX10_heavier yX10_heavier d [vA x, vI a, vI b] S Q := by
  have g0 := hC.2.1.2.2.1
  have hf := fct_le g0.1 g0.2.1
  have rl := rows_le (w := w) (mask := 0) g0.1 g0.2.1
  unfold A_heavier at h
  obtain ⟨dd, rfl⟩ : ∃ e, d = e + 1 := ⟨d - 1, by omega⟩
  refine MX10_heavier ?_
  unfold VX10_heavier_0
  refine ⟨hC.1.1, k_rowsHeavier (by omega) hC ha hb (fun ca cb ne S1 c p W q1 => xI_i ⟨W.1.1.1.1, k_rowsLeftW (by omega) W (oA_i ⟨W.2.2.1.1.1, ?_⟩)⟩) (fun z => xI_x ?_) (fun ca cb e => xI_x ?_)⟩
  · rw [if_pos ⟨ca, cb⟩, if_neg ne, oR_0] at h
    have fin := h S1 W.1.1 q1.1.j
    have cl := ct_len (hv n a.toNat b.toNat) (rowsL n w 0)
    rw [W.sz]
    unfold VX10_heavier_33
    refine ⟨(by unfold R32; omega), fun c1 => ?_, fun c1 => ⟨(by unfold R32; omega), fun c2 => ⟨(by unfold R32; omega), fun c3 => by omega, fun c3 => ?_⟩, fun c2 => ⟨⟨(by unfold R32; omega), (by unfold R32; omega)⟩, fun c3 => ⟨(by unfold R32; omega), fun c4 => ?_, fun c4 => by omega⟩, fun c3 => ?_⟩⟩⟩
    · rw [if_pos (by omega)] at fin; exact fin
    · rw [if_neg (by omega), if_neg (by omega), if_pos (by omega)] at fin; exact fin
    · rw [if_neg (by omega), if_pos (by omega)] at fin; exact fin
    · rw [if_neg (by omega), if_neg (by omega), if_neg (by omega)] at fin; exact fin
  · rw [if_neg z, oR_1] at h
    exact h _ hC.junk (CQ.rf.jk hC.2.2.2.1.1)
  · rw [if_pos ⟨ca, cb⟩, if_pos e, oR_2] at h
    exact h _ hC.junk (CQ.rf.jk hC.2.2.2.1.1)
theorem q_plain {d x n : Nat} {w : Nat → Int} {a b : Int} {S : MS} {Q : Out → MS → Prop} (hd : 10 ≤ d) (hC : CI S x n w) (ha : R32 a) (hb : R32 b) (h : ∀ S', CI S' x n w → CJ x S S' → Q (oR (A_plain n w a b) [iob, iae]) S') : Mw hX10_plain yX10_plain d [vA x, vI a, vI b] S Q := by
  have g0 := hC.2.1.2.2.1
  have hf := fct_le g0.1 g0.2.1
  have rl := rows_le (w := w) (mask := 0) g0.1 g0.2.1
  unfold A_plain at h
  obtain ⟨dd, rfl⟩ : ∃ e, d = e + 1 := ⟨d - 1, by omega⟩
  refine MX10_plain ?_
  unfold VX10_plain_0
  refine ⟨hC.1.1, k_rowsHeavier (by omega) hC ha hb (fun ca cb ne S1 c p W q1 => xI_i ⟨W.1.1.1.1, k_rowsLeftW (by omega) W (oA_i ⟨W.2.2.1.1.1, ?_⟩)⟩) (fun z => xI_x ?_) (fun ca cb e => xI_x ?_)⟩
  · rw [if_pos ⟨ca, cb⟩, if_neg ne, oR_0] at h
    have cl := ct_len (hv n a.toNat b.toNat) (rowsL n w 0)
    rw [W.sz]
    exact ⟨⟨(by unfold R32; omega), (by unfold R32; omega)⟩, h S1 W.1.1 q1.1.j⟩
  · rw [if_neg z, oR_1] at h
    exact h _ hC.junk (CQ.rf.jk hC.2.2.2.1.1)
  · rw [if_pos ⟨ca, cb⟩, if_pos e, oR_2] at h
    exact h _ hC.junk (CQ.rf.jk hC.2.2.2.1.1)
theorem q_places {d x n : Nat} {w : Nat → Int} {t : Int} {S : MS} {Q : Out → MS → Prop} (hd : 9 ≤ d) (hC : CI S x n w) (ht : R32 t) (h : ∀ S', CI S' x n w → CJ x S S' → Q (oR (A_places n w t) [iob]) S') : Mw hX10_places yX10_places d [vA x, vI t] S Q := by
  have g0 := hC.2.1.2.2.1
  unfold A_places at h
  obtain ⟨dd, rfl⟩ : ∃ e, d = e + 1 := ⟨d - 1, by omega⟩
  refine MX10_places ?_
  unfold VX10_places_0
  refine ⟨hC.1.1, k_needThing (by omega) hC ht (fun c => xV_i ⟨hC.1.1, k_both (by omega) hC (fun S1 b p W q1 => ⟨W.1.2.2.2.1.1, k_placesOf (t := t.toNat) (by omega) g0.1 g0.2.1 W.1.2.2.2 W.2.2.1 W.2.2.2.1 (by omega) (by omega) (oI_i ?_)⟩)⟩) (fun c => xV_x ?_)⟩
  · rw [if_pos c, oR_0] at h
    rw [W.2.2.2.2]
    exact h S1 W.1.1 q1.1.j
  · rw [if_neg c, oR_1] at h
    exact h _ hC.junk (CQ.rf.jk hC.2.2.2.1.1)
theorem q_known {d x n : Nat} {w : Nat → Int} {S : MS} {Q : Out → MS → Prop} (hd : 9 ≤ d) (hC : CI S x n w) (h : ∀ S', CI S' x n w → CQ x S S' → Q (.inl (some (vI (pI (Known n (rowsL n w 0)))))) S') : Mw hX10_known yX10_known d [vA x] S Q := by
  have g0 := hC.2.1.2.2.1
  obtain ⟨dd, rfl⟩ : ∃ e, d = e + 1 := ⟨d - 1, by omega⟩
  refine MX10_known ?_
  unfold VX10_known_0
  refine ⟨hC.1.1, k_both (by omega) hC (fun S1 b p W q1 => ⟨W.1.2.2.2.1.1, k_areKnown (by omega) g0.1 g0.2.1 W.1.2.2.2 W.2.2.1 W.2.2.2.1 (fun v hv => oI_i ⟨hv.b, ?_⟩)⟩)⟩
  rw [W.2.2.2.2] at hv
  rw [hv.e]
  exact h S1 W.1.1 q1.1
theorem kf_centre {d x n : Nat} {w : Nat → Int} {Q : Out → MS → Prop} (hd : 8 ≤ d) : ∀ (j : Nat) {S : MS} {t : Nat}, t + j = n → CI S x n w → (∀ S', CI S' x n w → CQ x S S' → Q (.inl (some (vI (ceA n (rowsL n w 0) : Nat)))) S') → VX10_centre_4 d Q (j + 1) x (mskN (upTo t (fun u => (rowsL n w 0).any (fun r => decide (rat n r (n / 2) = u)))) 7 : Nat) (t : Nat) S := by
  intro j
  induction j with
  | zero =>
    intro S t ht hC h
    have hX := hC.1
    have g0 := hC.2.1.2.2.1
    unfold VX10_centre_4
    refine ⟨hX.1, x+12, hX.2.1.2.2.1, hC.2.1.1.1, ?_⟩
    rw [hC.i7]
    refine ⟨⟨(by unfold R32; omega), (by unfold R32; omega)⟩, fun _ => ?_, fun c => by omega⟩
    have := h S hC CQ.rf
    unfold ceA mskL at this
    rw [mask_end (n := n) (fun u hu _ => ?_) (by omega)]
    · exact this
    · cases e : (rowsL n w 0).any (fun r => decide (rat n r (n / 2) = u))
      · rfl
      · rw [List.any_eq_true] at e
        obtain ⟨r, r1, r2⟩ := e
        unfold rowsL at r1
        rw [List.mem_filter, List.mem_range] at r1
        have := rat_lt g0.1 g0.2.1 r1.1 (show n / 2 < n by omega)
        have : rat n r (n / 2) = u := of_decide_eq_true r2
        omega
  | succ j ih =>
    intro S t ht hC h
    have hX := hC.1
    have g0 := hC.2.1.2.2.1
    have hW := Wn_le g0.1 g0.2.1
    unfold VX10_centre_4 VX10_centre_50
    refine ⟨hX.1, x+12, hX.2.1.2.2.1, hC.2.1.1.1, ?_⟩
    rw [hC.i7]
    refine ⟨⟨(by unfold R32; omega), (by unfold R32; omega)⟩, fun c => by omega, fun _ => ⟨hX.1, k_both' hd hC (fun S1 b p W q1 => ⟨W.1.1.1.1, x+12, W.1.1.1.2.1.2.2.1, W.1.1.2.1.1.1, ⟨(by unfold R32; omega), by decide⟩, W.1.2.2.2.1.1, ?_⟩)⟩⟩
    rw [W.1.1.i7]
    have e2 : iDiv (n : Int) 2 = ((n / 2 : Nat) : Int) := iDiv_n (a := n) (b := 2) (by omega) (by omega)
    rw [e2]
    have key : (rowsL n w 0).any (fun r => decide (rat n r (n / 2) = t)) = true ↔ ∃ r, p r = true ∧ inR n (fun r => decide (plc n r t = n / 2)) r = true := by
      rw [← any_iff g0.1 g0.2.1 W.2.2.2.1, W.2.2.2.2, List.any_eq_true, List.any_eq_true]
      constructor
      · rintro ⟨r, r1, r2⟩
        refine ⟨r, r1, decide_eq_true ?_⟩
        unfold rowsL at r1
        rw [List.mem_filter, List.mem_range] at r1
        rw [← show rat n r (n / 2) = t from of_decide_eq_true r2]
        exact plc_rat g0.1 g0.2.1 r1.1 (by omega)
      · rintro ⟨r, r1, r2⟩
        refine ⟨r, r1, decide_eq_true ?_⟩
        unfold rowsL at r1
        rw [List.mem_filter, List.mem_range] at r1
        rw [← show plc n r t = n / 2 from of_decide_eq_true r2]
        exact rat_plc g0.1 g0.2.1 r1.1 (by omega)
    refine k_standing (t := t) (p := n / 2) (by omega) W.1.2.2.2 rfl rfl (by omega) (by omega) (fun e e1 e3 => oA_i ⟨W.2.2.1.1.1, c_rMeets (by omega) hW.1 (W.2.2.2.1.a g0.1 g0.2.1).2 W.2.2.1 e3 (fun v hv => oI_i ⟨hv.r, fun c2 => ?_, fun c2 => ?_⟩)⟩)
    · have := ih (t := t + 1) (by omega) W.1.1 (fun S' C' q' => h S' C' (q1.1.tr q'))
      rw [or_upTo (by omega) (by omega) (Or.inr ⟨?_, rfl⟩)]
      · exact this
      · rcases hv with ⟨rfl, -⟩ | ⟨-, k⟩
        · omega
        · rw [← key] at k
          simpa using k
    · have := ih (t := t + 1) (by omega) W.1.1 (fun S' C' q' => h S' C' (q1.1.tr q'))
      rw [or_upTo (by omega) (by omega) (Or.inl ⟨?_, rfl⟩)]
      · exact this
      · rcases hv with ⟨-, k⟩ | ⟨rfl, -⟩
        · exact key.mpr k
        · omega
theorem q_centre {d x n : Nat} {w : Nat → Int} {S : MS} {Q : Out → MS → Prop} (hd : 9 ≤ d) (hC : CI S x n w) (h : ∀ S', CI S' x n w → CQ x S S' → Q (.inl (some (vI (ceA n (rowsL n w 0) : Nat)))) S') : Mw hX10_centre yX10_centre d [vA x] S Q := by
  obtain ⟨dd, rfl⟩ : ∃ e, d = e + 1 := ⟨d - 1, by omega⟩
  refine MX10_centre ?_
  unfold VX10_centre_0
  have := kf_centre (d := dd) (by omega) n (t := 0) (by omega) hC h
  rw [upTo_0] at this
  exact ⟨_, this⟩
/-! at an end -/
theorem end_ct {n t : Nat} {p : Nat → Bool} (h3 : 3 ≤ n) (h7 : n ≤ 7) (hp : PS n p) (ht : t < n) : cntB (fun r => p r && inR n (fun r => decide (plc n r t = 0)) r) 5056 + cntB (fun r => p r && inR n (fun r => decide (plc n r t = n - 1)) r) 5056 = ct (atEnd n t) (lsR p 5056) := by
  rw [← sh_ct hp, ← cnt_dis (p := fun r => p r && inR n (atEnd n t) r)]
  intro r _
  unfold inR
  by_cases c : r < fct n
  · have e : atEnd n t r = (decide (plc n r t = 0) || decide (plc n r t = n - 1)) := by
      unfold atEnd eo
      rw [Nat.testBit_or, Nat.testBit_two_pow, Nat.testBit_two_pow]
      congr 1
      · refine decide_eq_decide.mpr ⟨fun e => ?_, fun e => ?_⟩
        · rw [← e]; exact plc_rat h3 h7 c (by omega)
        · rw [← e]; exact rat_plc h3 h7 c ht
      · refine decide_eq_decide.mpr ⟨fun e => ?_, fun e => ?_⟩
        · rw [← e]; exact plc_rat h3 h7 c (by omega)
        · rw [← e]; exact rat_plc h3 h7 c ht
    rw [e, decide_eq_true c]
    by_cases g : plc n r t = 0
    · rw [decide_eq_true g, decide_eq_false (show ¬ plc n r t = n - 1 by omega)]
      cases p r <;> simp <;> omega
    · rw [decide_eq_false g]
      cases p r <;> simp <;> omega
  · rw [decide_eq_false c]; simp
theorem k_rowsAtEnd {d x n t : Nat} {w : Nat → Int} {u : Int} {S : MS} {Q : Out → MS → Prop} (hd : 9 ≤ d) (hC : CI S x n w) (eu : u = (t : Int)) (ht : t < n) (h : ∀ S' b p, WS S' x n w b p → CR x S S' → Q (.inl (some (vI (ct (atEnd n t) (rowsL n w 0) : Nat)))) S') : Mw hX10_rowsAtEnd yX10_rowsAtEnd d [vA x, vI u] S Q := by
  subst eu
  have g0 := hC.2.1.2.2.1
  have hW := Wn_le g0.1 g0.2.1
  obtain ⟨dd, rfl⟩ : ∃ e, d = e + 1 := ⟨d - 1, by omega⟩
  refine MX10_rowsAtEnd ?_
  unfold VX10_rowsAtEnd_0
  refine ⟨hC.1.1, k_both (by omega) hC (fun S1 b p W q1 => ⟨W.1.2.2.2.1.1, k_standing (t := t) (p := 0) (by omega) W.1.2.2.2 rfl rfl ht (by omega) (fun e e1 e3 => oA_i ⟨W.2.2.1.1.1, c_rShared (by omega) hW.1 (W.2.2.2.1.a g0.1 g0.2.1).2 W.2.2.1 e3 (oI_i ⟨W.1.1.1.1, x+12, W.1.1.1.2.1.2.2.1, W.1.1.2.1.1.1, W.1.2.2.2.1.1, ?_⟩)⟩)⟩)⟩
  rw [W.1.1.i7]
  refine k_standing (t := t) (p := n - 1) (by omega) W.1.2.2.2 rfl (by omega) ht (by omega) (fun e' e1' e3' => oA_i ⟨W.2.2.1.1.1, c_rShared (by omega) hW.1 (W.2.2.2.1.a g0.1 g0.2.1).2 W.2.2.1 e3' (oI_i ?_)⟩)
  have := h S1 b p W q1
  rw [← W.2.2.2.2, ← end_ct g0.1 g0.2.1 W.2.2.2.1 ht, Int.natCast_add] at this
  exact this
theorem all_ct {q : Nat → Bool} {L : List Nat} : ct q L = L.length ↔ L.all q = true := by
  unfold ct
  rw [List.all_eq_true]
  exact List.length_filter_eq_length_iff
theorem kf_goose {d x n : Nat} {w : Nat → Int} {Q : Out → MS → Prop} (hd : 9 ≤ d) (hz : 0 < (rowsL n w 0).length) : ∀ (j : Nat) {S : MS} {t : Nat}, t + j = n → CI S x n w → (∀ S', CI S' x n w → CQ x S S' → Q (.inl (some (vI (gsB n (rowsL n w 0) : Nat)))) S') → VX10_goose_12 d Q (j + 1) x ((rowsL n w 0).length : Nat) (mskN (upTo t (fun t => (rowsL n w 0).all (fun r => (eo n r).testBit t))) n : Nat) (t : Nat) S := by
  intro j
  induction j with
  | zero =>
    intro S t ht hC h
    have hX := hC.1
    have g0 := hC.2.1.2.2.1
    have hf := fct_le g0.1 g0.2.1
    have rl := rows_le (w := w) (mask := 0) g0.1 g0.2.1
    have tn : t = n := by omega
    unfold VX10_goose_12 VX10_goose_52
    refine ⟨(by unfold R32; omega), fun c => by omega, fun _ => ⟨hX.1, x+12, hX.2.1.2.2.1, hC.2.1.1.1, ?_⟩⟩
    rw [hC.i7, mskN_cong (q := fun t => (rowsL n w 0).all (fun r => (eo n r).testBit t)) (fun u hu => by unfold upTo; rw [decide_eq_true (by omega), Bool.true_and])]
    exact ⟨⟨(by unfold R32; omega), (by unfold R32; omega)⟩, fun _ => h S hC CQ.rf, fun c => by omega⟩
  | succ j ih =>
    intro S t ht hC h
    have hX := hC.1
    have g0 := hC.2.1.2.2.1
    have hf := fct_le g0.1 g0.2.1
    have rl := rows_le (w := w) (mask := 0) g0.1 g0.2.1
    have cl := ct_len (atEnd n t) (rowsL n w 0)
    have ac := all_ct (q := atEnd n t) (L := rowsL n w 0)
    unfold VX10_goose_12 VX10_goose_44
    refine ⟨(by unfold R32; omega), fun c => by omega, fun _ => ⟨hX.1, x+12, hX.2.1.2.2.1, hC.2.1.1.1, ?_⟩⟩
    rw [hC.i7]
    refine ⟨⟨(by unfold R32; omega), (by unfold R32; omega)⟩, fun c => by omega, fun _ => ⟨hX.1, k_rowsAtEnd hd hC rfl (show t < n by omega) (fun S1 b p W q1 => oI_i ⟨⟨(by unfold R32; omega), (by unfold R32; omega)⟩, fun c2 => ?_, fun c2 => ?_⟩)⟩⟩
    · have := ih (t := t + 1) (by omega) W.1.1 (fun S' C' q' => h S' C' (q1.1.tr q'))
      rw [or_upTo (by omega) (by omega) (Or.inr ⟨?_, rfl⟩)]
      · exact this
      · cases e : (rowsL n w 0).all (fun r => (eo n r).testBit t)
        · rfl
        · exact absurd (by rw [ac.mpr e]) c2
    · have := ih (t := t + 1) (by omega) W.1.1 (fun S' C' q' => h S' C' (q1.1.tr q'))
      rw [or_upTo (by omega) (by omega) (Or.inl ⟨?_, rfl⟩)]
      · exact this
      · exact ac.mp (by omega)
theorem q_goose {d x n : Nat} {w : Nat → Int} {S : MS} {Q : Out → MS → Prop} (hd : 10 ≤ d) (hC : CI S x n w) (h : ∀ S', CI S' x n w → CQ x S S' → Q (.inl (some (vI (gsA n (rowsL n w 0) : Nat)))) S') : Mw hX10_goose yX10_goose d [vA x] S Q := by
  have g0 := hC.2.1.2.2.1
  have hf := fct_le g0.1 g0.2.1
  have rl := rows_le (w := w) (mask := 0) g0.1 g0.2.1
  unfold gsA at h
  obtain ⟨dd, rfl⟩ : ∃ e, d = e + 1 := ⟨d - 1, by omega⟩
  refine MX10_goose ?_
  unfold VX10_goose_0
  refine ⟨hC.1.1, k_rowsLeft (by omega) hC (fun S1 b p W q1 => oA_i ⟨W.2.2.1.1.1, ?_⟩)⟩
  rw [W.sz]
  by_cases c : (rowsL n w 0).length = 0
  · rw [if_pos c] at h
    refine ⟨1, ?_⟩
    unfold VX10_goose_12 VX10_goose_52
    exact ⟨(by unfold R32; omega), fun _ => h S1 W.1.1 q1.1, fun c2 => by omega⟩
  · rw [if_neg c] at h
    have := kf_goose (d := dd) (Q := Q) (by omega) (by omega) n (t := 0) (by omega) W.1.1 (fun S' C' q' => h S' C' (q1.1.tr q'))
    rw [upTo_0] at this
    exact ⟨_, this⟩
/-! pairs of ends -/
theorem cntB_7 (p : Nat → Bool) : ∀ k, cntB p (7 * k) = smB (fun i => cntB (fun j => p (7 * i + j)) 7) k
  | 0 => rfl
  | k + 1 => by
    show cntB p (7 * k + 7) = smB _ k + _
    rw [cntB_split, cntB_7 p k]
def prM (i : Nat) : Nat := if i / 7 < i % 7 then 2 ^ (i / 7) ||| 2 ^ (i % 7) else 0
theorem prM_one_ : ∀ v, v < 128 → (!(Nat.beq (pc v) 2) || Nat.beq (eqc prM v 49) 1) = true := by decide +kernel
theorem prM_lt : ∀ i, i < 49 → prM i < 128 := by decide +kernel
theorem two_cnt {q : Nat → Bool} (h : ∀ s, s < 128 → q s = true → pc s = 2) : cntB q 128 = smB (fun a => cntB (fun b => decide (a < b) && q (2 ^ a ||| 2 ^ b)) 7) 7 := by
  have e1 : cntB (fun i => q (prM i)) 49 = cntB q 128 := by
    rw [cntB_img (b := 128) prM_lt, ← smB_cnt]
    refine smB_cong (fun v hv => ?_)
    cases c : q v
    · rfl
    · have := prM_one_ v hv
      rw [h v hv c] at this
      have e : eqc prM v 49 = 1 := Nat.eq_of_beq_eq_true (by simpa using this)
      rw [e]
  rw [← e1]
  have := cntB_7 (fun i => q (prM i)) 7
  rw [show (49 : Nat) = 7 * 7 from rfl, this]
  refine smB_cong (fun a ha => cntB_cong (fun b hb => ?_))
  have d1 : (7 * a + b) / 7 = a := by omega
  have d2 : (7 * a + b) % 7 = b := by omega
  unfold prM
  rw [d1, d2]
  by_cases c : a < b
  · rw [if_pos c, decide_eq_true c, Bool.true_and]
  · rw [if_neg c, decide_eq_false c, Bool.false_and]
    cases e : q 0
    · rfl
    · exact absurd (h 0 (by decide) e) (by decide)
theorem pc2_ : ∀ a, a < 7 → ∀ b, b < 7 → (a = b ∨ pc (2 ^ a ||| 2 ^ b) = 2) := by decide +kernel
theorem en_sum {n : Nat} {L : List Nat} (h3 : 3 ≤ n) (h7 : n ≤ 7) (hL : ∀ r ∈ L, r < fct n) : enC n L = smB (fun a => cntB (fun b => decide (a < b) && enP n L a b) n) n := by
  have sup : ∀ a b, a < 7 → b < 7 → n ≤ b → a ≠ b → enP n L a b = false := fun a b ha hb hnb hab => by
    cases e : enP n L a b
    · rfl
    · unfold enP enB at e
      rw [List.any_eq_true] at e
      obtain ⟨r, r1, r2⟩ := e
      have k : (eo n r).testBit b = true := by
        rw [show eo n r = 2 ^ a ||| 2 ^ b from of_decide_eq_true r2, Nat.testBit_or, Nat.testBit_two_pow_self, Bool.or_true]
      unfold eo at k
      rw [Nat.testBit_or, Nat.testBit_two_pow, Nat.testBit_two_pow, Bool.or_eq_true] at k
      have l1 := rat_lt h3 h7 (hL r r1) (show 0 < n by omega)
      have l2 := rat_lt h3 h7 (hL r r1) (show n - 1 < n by omega)
      rcases k with k | k
      · have := of_decide_eq_true k; omega
      · have := of_decide_eq_true k; omega
  unfold enC
  rw [two_cnt (fun s hs e => ?_)]
  · obtain ⟨j, hj⟩ : ∃ j, 7 = n + j := ⟨7 - n, by omega⟩
    have cut : ∀ a, a < 7 → cntB (fun b => decide (a < b) && enB n L (2 ^ a ||| 2 ^ b)) 7 = cntB (fun b => decide (a < b) && enP n L a b) n := fun a ha => by
      have e := cntB_split (fun b => decide (a < b) && enB n L (2 ^ a ||| 2 ^ b)) n j
      rw [← hj] at e
      rw [e, cntB_0 (n := j) (fun k hk => ?_), Nat.add_zero]
      · rfl
      · by_cases c : a < n + k
        · have := sup a (n + k) ha (by omega) (by omega) (by omega)
          unfold enP at this
          rw [this, Bool.and_false]
        · rw [decide_eq_false c, Bool.false_and]
    have smt : ∀ (g : Nat → Nat) j, (∀ k, k < j → g (n + k) = 0) → smB g (n + j) = smB g n := fun g j => by
      induction j with
      | zero => intro _; rfl
      | succ j ih =>
        intro hz
        show smB g (n + j) + g (n + j) = _
        rw [ih (fun k hk => hz k (by omega)), hz j (by omega), Nat.add_zero]
    rw [smB_cong (g := fun a => cntB (fun b => decide (a < b) && enP n L a b) n) cut, hj, smt _ j (fun k hk => ?_)]
    exact cntB_0 (fun b hb => by rw [decide_eq_false (by omega), Bool.false_and])
  · unfold enB at e
    rw [List.any_eq_true] at e
    obtain ⟨r, r1, r2⟩ := e
    have l1 := rat_lt h3 h7 (hL r r1) (show 0 < n by omega)
    have l2 := rat_lt h3 h7 (hL r r1) (show n - 1 < n by omega)
    rw [← show eo n r = s from of_decide_eq_true r2]
    unfold eo
    rcases pc2_ (rat n r 0) (by omega) (rat n r (n - 1)) (by omega) with g | g
    · have := rat_inj h3 h7 (hL r r1) (show 0 < n by omega) (show n - 1 < n by omega) g
      omega
    · exact g
theorem rows_m {n mask : Nat} {w : Nat → Int} : ∀ r ∈ rowsL n w mask, r < fct n := fun r hr => by
  unfold rowsL at hr
  rw [List.mem_filter, List.mem_range] at hr
  exact hr.1
theorem kf_ends19 {d x n a v : Nat} {w : Nat → Int} {Q : Out → MS → Prop} {c4 : Nat → Int → Int → MS → Prop} (hd : 8 ≤ d) (ha : a < n) : ∀ (j : Nat) {S : MS} {b : Nat}, b + j = n → a < b → CI S x n w → (∀ S', CI S' x n w → CQ x S S' → c4 x ((v + cntB (fun b => decide (a < b) && enP n (rowsL n w 0) a b) n : Nat) : Int) ((a : Int) + 1) S') → VX10_ends_19 d c4 Q (j + 1) x ((v + cntB (fun b => decide (a < b) && enP n (rowsL n w 0) a b) b : Nat) : Int) (a : Nat) (b : Nat) S := by
  intro j
  induction j with
  | zero =>
    intro S b hb hab hC h
    have hX := hC.1
    have g0 := hC.2.1.2.2.1
    unfold VX10_ends_19
    refine ⟨hX.1, x+12, hX.2.1.2.2.1, hC.2.1.1.1, ?_⟩
    rw [hC.i7, show b = n by omega]
    exact ⟨⟨(by unfold R32; omega), (by unfold R32; omega)⟩, fun _ => h S hC CQ.rf, fun c => by omega⟩
  | succ j ih =>
    intro S b hb hab hC h
    have hX := hC.1
    have g0 := hC.2.1.2.2.1
    unfold VX10_ends_19 VX10_ends_52
    refine ⟨hX.1, x+12, hX.2.1.2.2.1, hC.2.1.1.1, ?_⟩
    rw [hC.i7]
    refine ⟨⟨(by unfold R32; omega), (by unfold R32; omega)⟩, fun c => by omega, fun _ => ⟨hX.1, k_both hd hC (fun S1 wb p W q1 => ⟨W.1.2.2.2.1.1, k_mayEnd (by omega) g0.1 g0.2.1 W.1.2.2.2 W.2.2.1 W.2.2.2.1 rfl rfl ha (by omega) (by omega) (fun q hq => oI_i ⟨hq.r, fun c => ?_, fun c => ?_⟩)⟩)⟩⟩
    · have ih' := ih (b := b + 1) (by omega) (by omega) W.1.1 (fun S' C' q' => h S' C' (q1.1.tr q'))
      rw [W.2.2.2.2] at hq
      unfold cntB at ih'
      rw [if_neg (by rw [decide_eq_true hab, Bool.true_and]; rcases hq with ⟨rfl, -⟩ | ⟨-, k⟩; omega; exact k)] at ih'
      exact ih'
    · have ih' := ih (b := b + 1) (by omega) (by omega) W.1.1 (fun S' C' q' => h S' C' (q1.1.tr q'))
      rw [W.2.2.2.2] at hq
      unfold cntB at ih'
      rw [if_pos (by rw [decide_eq_true hab, Bool.true_and]; rcases hq with ⟨-, k⟩ | ⟨rfl, -⟩; exact k; omega)] at ih'
      exact ih'
theorem kf_ends4 {d x n : Nat} {w : Nat → Int} {Q : Out → MS → Prop} (hd : 8 ≤ d) : ∀ (j : Nat) {S : MS} {a : Nat}, a + j = n → CI S x n w → (∀ S', CI S' x n w → CQ x S S' → Q (.inl (some (vI (enC n (rowsL n w 0) : Nat)))) S') → VX10_ends_4 d Q (j + 1) x (smB (fun a => cntB (fun b => decide (a < b) && enP n (rowsL n w 0) a b) n) a : Nat) (a : Nat) S := by
  intro j
  induction j with
  | zero =>
    intro S a ha hC h
    have hX := hC.1
    have g0 := hC.2.1.2.2.1
    rw [en_sum g0.1 g0.2.1 rows_m] at h
    unfold VX10_ends_4
    refine ⟨hX.1, x+12, hX.2.1.2.2.1, hC.2.1.1.1, ?_⟩
    rw [hC.i7, show a = n by omega]
    exact ⟨⟨(by unfold R32; omega), (by unfold R32; omega)⟩, fun _ => h S hC CQ.rf, fun c => by omega⟩
  | succ j ih =>
    intro S a ha hC h
    have hX := hC.1
    have g0 := hC.2.1.2.2.1
    unfold VX10_ends_4
    refine ⟨hX.1, x+12, hX.2.1.2.2.1, hC.2.1.1.1, ?_⟩
    rw [hC.i7]
    refine ⟨⟨(by unfold R32; omega), (by unfold R32; omega)⟩, fun c => by omega, fun _ => ⟨j + 1, ?_⟩⟩
    have := kf_ends19 (d := d) (Q := Q) (c4 := VX10_ends_4 d Q (j + 1)) (v := smB (fun a => cntB (fun b => decide (a < b) && enP n (rowsL n w 0) a b) n) a) hd (show a < n by omega) j (S := S) (b := a + 1) (by omega) (by omega) hC (fun S' C' q' => ih (a := a + 1) (by omega) C' (fun S'' C'' q'' => h S'' C'' (q'.tr q'')))
    rw [cntB_0 (n := a + 1) (fun k hk => by rw [decide_eq_false (by omega), Bool.false_and])] at this
    exact this
theorem q_ends {d x n : Nat} {w : Nat → Int} {S : MS} {Q : Out → MS → Prop} (hd : 9 ≤ d) (hC : CI S x n w) (h : ∀ S', CI S' x n w → CQ x S S' → Q (.inl (some (vI (enC n (rowsL n w 0) : Nat)))) S') : Mw hX10_ends yX10_ends d [vA x] S Q := by
  obtain ⟨dd, rfl⟩ : ∃ e, d = e + 1 := ⟨d - 1, by omega⟩
  refine MX10_ends ?_
  unfold VX10_ends_0
  exact ⟨_, kf_ends4 (by omega) n (a := 0) (by omega) hC h⟩
