theorem mC_mis {n r s mask : Nat} {w : Nat → Int} {wo : Int} (hg : GW n w) (hr : r < fct n) (hm : ∀ m, m < nN w → (mask.testBit m = false ↔ (m : Int) ≠ wo)) : ∀ m, m ≤ nN w → mC n w wo s r m = misC n w r mask s m
  | 0, _ => rfl
  | m + 1, h => by
    have ih := mC_mis (s := s) hg hr hm m (by omega)
    obtain ⟨n1, n2, n3⟩ := hg.nt (show m < nN w by omega)
    have k1 := (hg.sc n1.2).1
    have a := rs_N (kn := kd w (nS w m)) hg.1.1 hg.1.2.1 hr n2.2.1 (by rw [n2.2.2]; exact belK_pans k1.2)
    have e : inR n (fun r => decide (rsN n (kd w (nS w m)) (nX w m) r = nT w m)) r = fitN n w r m := by
      unfold inR fitN
      rw [decide_eq_true hr, Bool.true_and, a.1]
      exact decide_eq_decide.mpr (by omega)
    have hmm := hm m (by omega)
    show mC n w wo s r m + _ = misC n w r mask s m + _
    rw [ih, e]
    congr 1
    by_cases c : nS w m = s ∧ (m : Int) ≠ wo ∧ fitN n w r m = false
    · rw [if_pos c, if_pos ⟨hmm.mpr c.2.1, c.1, c.2.2⟩]
    · rw [if_neg c, if_neg (fun k => c ⟨k.2.1, hmm.mp k.1, k.2.2⟩)]
theorem mis_0 {n r s mask : Nat} {w : Nat → Int} (hg : GW n w) (hs : sN w ≤ s) : ∀ m, m ≤ nN w → misC n w r mask s m = 0
  | 0, _ => rfl
  | m + 1, h => by
    have n1 := (hg.nt (show m < nN w by omega)).1
    show misC n w r mask s m + _ = 0
    rw [mis_0 hg hs m (by omega), if_neg (fun k => by omega)]
theorem allB_split {q : Nat → Bool} {a : Nat} : ∀ j, (∀ t, a ≤ t → t < a + j → q t = true) → allB q (a + j) = allB q a
  | 0, _ => rfl
  | j + 1, h => by
    show (q (a + j) && allB q (a + j)) = _
    rw [h (a + j) (by omega) (by omega), allB_split j (fun t h1 h2 => h t h1 (by omega))]
    rfl
theorem allB_cong {p q : Nat → Bool} : ∀ {m : Nat}, (∀ t, t < m → p t = q t) → allB p m = allB q m
  | 0, _ => rfl
  | m + 1, h => by
    show (p m && allB p m) = (q m && allB q m)
    rw [h m (by omega), allB_cong (fun t ht => h t (by omega))]
theorem allS_fit {n r mask : Nat} {w : Nat → Int} {wo : Int} (hg : GW n w) (hr : r < fct n) (hm : ∀ m, m < nN w → (mask.testBit m = false ↔ (m : Int) ≠ wo)) : allS n w wo (sN w) r = fitR n w mask r := by
  have g1 := hg.2.1
  unfold allS fitR
  obtain ⟨j, hj⟩ : ∃ j, 4 = sN w + j := ⟨4 - sN w, by omega⟩
  rw [hj, allB_split j (fun t h1 h2 => decide_eq_true (by rw [mis_0 hg h1 (nN w) (Nat.le_refl _)]; exact Nat.zero_le _))]
  exact allB_cong (fun s hs => by rw [mC_mis hg hr hm (nN w) (Nat.le_refl _)])
/-- the class's rows that fit are the reference's -/
theorem fit_rows {n mask : Nat} {w : Nat → Int} {wo : Int} (hg : GW n w) (hm : ∀ m, m < nN w → (mask.testBit m = false ↔ (m : Int) ≠ wo)) : lsR (inR n (allS n w wo (sN w))) 5056 = rowsL n w mask := by
  have hf := fct_le hg.1.1 hg.1.2.1
  obtain ⟨j, hj⟩ : ∃ j, 5056 = fct n + j := ⟨5056 - fct n, by omega⟩
  rw [hj, lsR_tail j (fun r h1 _ => by unfold inR; rw [decide_eq_false (by omega)]; rfl)]
  unfold lsR rowsL
  refine List.filter_congr (fun r hr => ?_)
  have hr' := List.mem_range.mp hr
  unfold inR
  rw [decide_eq_true hr', Bool.true_and, allS_fit hg hr' hm]
