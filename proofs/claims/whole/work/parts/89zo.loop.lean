/-! the law's loop -/
theorem LSt.rf {x : Nat} {S : MS} : LSt x S S := ⟨rfl, by omega, by omega⟩
theorem law_loop {d x0 x L N0 U0 : Nat} {T0 : Nat → Nat} {Q : Out → MS → Prop} (hd : 45 ≤ d) (h16 : x0 = T0 16) (h17 : T0 17 = L) (hL : L ≤ 3072) (hQ : ∀ S' : MS, S'.nx ≤ N0 + 512 → S'.us ≤ U0 + 3072 → Q (.inl (some (vI 1))) S') : ∀ (j : Nat) {S : MS} {i : Nat}, i + j = L / 6 → CO S x → S.T = T0 → S.nx + 1000 * wn0 S x ≤ N0 + i → S.us + 100000 * wn0 S x ≤ U0 + 6 * i → VL_law_23 d Q (j + 1) x0 x (x+176) (x+196) ((6 * i : Nat) : Int) S := by
  intro j
  induction j with
  | zero =>
    intro S i hi hc hT h1 h2
    have e17 : S.T 17 = L := by rw [hT]; exact h17
    unfold VL_law_23
    rw [e17]
    exact ⟨⟨by rw [hT]; exact h16, by omega⟩, ⟨(by unfold R32; omega), (by unfold R32; omega)⟩, fun _ => ⟨rfl, hQ S (by omega) (by omega)⟩, fun c => absurd c (by omega)⟩
  | succ j ih =>
    intro S i hi hc hT h1 h2
    have e17 : S.T 17 = L := by rw [hT]; exact h17
    have hs : SC x0 S ((6 * i : Nat) : Int) := ⟨⟨by rw [hT]; exact h16, by omega⟩, by omega, by rw [e17]; omega⟩
    have hC : ∀ S', CO S' x → LSt x S S' → VL_law_23 d Q (j + 1) x0 x (x+176) (x+196) (((6 * i : Nat) : Int) + 6) S' := fun S' c' l' => by
      have := ih (S := S') (i := i + 1) (by omega) c' (l'.1.trans hT) (by have := l'.2.1; omega) (by have := l'.2.2; omega)
      rw [show (((6 * (i + 1) : Nat)) : Int) = ((6 * i : Nat) : Int) + 6 by omega] at this
      exact this
    unfold VL_law_23
    exact ⟨hs.1, ⟨(by unfold R32; omega), by rw [e17]; unfold R32; omega⟩, fun c => absurd c (by rw [e17]; omega), fun _ => ⟨⟨hs.1, hs.2.1, by have := hs.2.2; omega⟩, ⟨Int32.le_toInt _, Int32.toInt_lt _⟩, fun _ => case_feed hd hc hs hC, fun _ => case_end hd hc hs hC, fun _ => case_shed hd hc hs hC, fun _ => case_fault hd hc hs hC, fun _ => case_things hd hc hs hC, fun _ => case_scale hd hc hs hC, fun _ => case_weight hd hc hs hC, fun _ => case_rises hd hc hs hC, fun _ => case_note hd hc hs hC, fun _ => case_look hd hc hs hC, fun _ => case_drop hd hc hs hC, fun _ => case_rows hd hc hs hC, fun _ => case_row hd hc hs hC, fun _ => case_fits hd hc hs hC, fun _ => case_may hd hc hs hC, fun _ => case_heavier hd hc hs hC, fun _ => case_places hd hc hs hC, fun _ => case_ends hd hc hs hC, fun _ => case_goose hd hc hs hC, fun _ => case_centre hd hc hs hC, fun _ => case_known hd hc hs hC, fun _ => case_quarrels hd hc hs hC, fun _ => case_proof hd hc hs hC, fun _ => case_wrongly hd hc hs hC, fun _ => case_mends hd hc hs hC, fun _ => case_nearly hd hc hs hC, fun _ => case_votes hd hc hs hC, fun _ => case_laying hd hc hs hC, fun _ => case_next hd hc hs hC, fun _ => case_fewest hd hc hs hC, fun _ => case_bound hd hc hs hC, fun _ => case_byNext hd hc hs hC, fun _ => case_wants hd hc hs hC, fun _ => case_plain hd hc hs hC, fun _ => case_sorted hd hc hs hC, fun _ => case_grown hd hc hs hC, fun _ => case_played hd hc hs hC, fun _ => case_sures hd hc hs hC, fun _ => case_pair hd hc hs hC, fun _ => case_mean hd hc hs hC, fun _ => case_cheapest hd hc hs hC, fun _ => case_where hd hc hs hC, fun _ => case_tree hd hc hs hC, fun _ => case_needless hd hc hs hC, fun _ => case_stands hd hc hs hC, fun _ => case_laid hd hc hs hC, fun _ => case_image hd hc hs hC, fun _ => case_back hd hc hs hC, fun _ => case_count hd hc hs hC, fun _ => hC S hc LSt.rf⟩⟩
theorem law_start {d x0 L : Nat} {Q : Out → MS → Prop} {S : MS} (hd : 45 ≤ d) (h16 : x0 = S.T 16) (h17 : S.T 17 = L) (hL : L ≤ 3072) (hQ : ∀ S' : MS, S'.nx ≤ S.nx + 6000 → S'.us ≤ S.us + 800000 → Q (.inl (some (vI 1))) S') : VL_law_0 d Q x0 S := by
  unfold VL_law_0
  have hx : (S.mk 10 15).nx = S.nx + 1 := rfl
  refine k_i10 (by omega) (by rw [mkK_ rfl, if_pos rfl]) hx (fun S1 f1 c1 n1 u1 => oV_i ?_)
  rw [n1]
  have hK1 : (S1.mk 11 39).K (S.nx+176) = 11 := by rw [mkK_ n1, if_pos rfl]
  have hx1 : (S1.mk 11 39).nx = S.nx + 176 + 1 := by show S1.nx + 1 = _; rw [n1]
  have hI1 : (S1.mk 11 39).I (S.nx+176) = fun _ => 0 := by rw [mkI_ n1, if_pos rfl]
  refine k_i11 (by omega) hK1 hx1 hI1 (fun S2 f2 y2 w2 i2 n2 u2 => oV_i ⟨⟨by decide, by decide⟩, ?_⟩)
  have n2' : S2.nx = S.nx + 196 := n2
  rw [n2']
  simp only [Int.reduceToNat]
  have f3 : Fo (S.nx+196) S2 (S2.mk 14 1) := Fo.mk (by omega)
  have fc : Fo (S.nx+176) S1 (S2.mk 14 1) := ((Fo.mk (by omega)).tr f2).tr (f3.wk (by omega))
  have n3 : (S2.mk 14 1).nx = S.nx + 197 := by show S2.nx + 1 = _; omega
  have eI : ∀ a, a < S.nx + 196 → (S2.mk 14 1).I a = S2.I a := fun a ha => (f3.2 a ha).2.2.1
  have F3 : FS (S2.mk 14 1) S.nx 3 w00 (fun _ => 0) 0 0 ((S2.mk 14 1).I (S.nx+176+2)) (-1) := (c1.mv fc).fs (by omega)
  have R3 : RLay (S2.mk 14 1) (S.nx+176) := y2.cg (fun a h1 h2 => ⟨(f3.2 a (by omega)).1, (f3.2 a (by omega)).2.1⟩) (f3.2 _ (by omega)).2.2.2.2
  have e1 : (S2.mk 14 1).I (S.nx+176+1) = w00 := by rw [eI _ (by omega)]; exact w2
  have e0 : (S2.mk 14 1).I (S.nx+176) = S2.I (S.nx+176) := eI _ (by omega)
  have hc : CO (S2.mk 14 1) S.nx := by
    refine ⟨3, fun _ => 0, 0, ⟨R3, by rw [e1]; exact gw00, ?_⟩, ⟨by rw [e0]; exact i2.2.1, Nat.zero_le _, fun i hi => absurd hi (Nat.not_lt_zero i)⟩, ?_, ?_, ?_⟩
    · unfold Tbl
      rw [e0, i2.2.2.2]
      exact ⟨r32_0, fun n h3 _ e => by omega⟩
    · rw [e1, e0, i2.1, i2.2.2.1]
      exact F3
    · rw [mkK_ n2', if_pos rfl]
    · rw [mkN_ n2', if_pos rfl]
  have w5 : wn0 (S2.mk 14 1) S.nx ≤ 5 := cntB_le _ _
  have u3 : (S2.mk 14 1).us = S2.us + 1 := rfl
  have u2' : S2.us = S1.us + 39 + 222703 := u2
  have u1' : S1.us = S.us + 15 + 7392 := u1
  have t3 : (S2.mk 14 1).T = S.T := fc.1.trans f1.1
  have := law_loop (x := S.nx) (L := L) (N0 := S.nx + 5197) (U0 := S.us + 730150) (T0 := S.T) (Q := Q) hd h16 h17 hL (fun S' h1 h2 => hQ S' (by omega) (by omega)) (L / 6) (S := S2.mk 14 1) (i := 0) (by omega) hc t3 (by omega) (by omega)
  exact ⟨_, this⟩
