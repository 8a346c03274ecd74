/-! the calls that may throw, caught -/
theorem cdr1 {c : Int} (h : c = 0 ∨ c = 1) : R32 c := by unfold R32; omega
theorem cdr2 {c : Int} (h : c = 0 ∨ c = 1 ∨ c = 2) : R32 c := by unfold R32; omega
theorem cdr3 {c : Int} (h : c = 0 ∨ c = 1 ∨ c = 2 ∨ c = 3) : R32 c := by unfold R32; omega
theorem cd_scale {w : Nat → Int} {a0 a1 a2 : Int} : (A_scale w a0 a1 a2).1 = 0 ∨ (A_scale w a0 a1 a2).1 = 1 ∨ (A_scale w a0 a1 a2).1 = 2 := by
  unfold A_scale
  split <;> first | exact Or.inl rfl | exact Or.inr (Or.inl rfl) | exact Or.inr (Or.inr (rfl)) | (split <;> first | exact Or.inl rfl | exact Or.inr (Or.inl rfl) | exact Or.inr (Or.inr (rfl)) | (split <;> first | exact Or.inl rfl | exact Or.inr (Or.inl rfl) | exact Or.inr (Or.inr (rfl))))
theorem l_scale {d x n len : Nat} {w vm : Nat → Int} {tb : Nat → Nat} {im ft : Int} {a0 a1 a2 : Int} {S : MS} {Q : Out → MS → Prop} (hd : 7 ≤ d) (hF : FS S x n w tb len im vm ft) (ho : S.K (x+196) = 14 ∧ S.N (x+196) = 1) (h0 : R32 a0) (h1 : R32 a1) (h2 : R32 a2) (h : ∀ S', FS S' x n (U_scale w a0 a1 a2) tb len im vm ft → MD x S S' → ((A_scale w a0 a1 a2).1 = 0 → S'.J (x+196) 0 = i2L (A_scale w a0 a1 a2).2) → Q (.inl (some (vI (A_scale w a0 a1 a2).1))) S') : Mw hL_scale yL_scale d [vA x, vI a0, vI a1, vI a2, vA (x+196)] S Q := by
  obtain ⟨dd, rfl⟩ : ∃ e, d = e + 1 := ⟨d - 1, by omega⟩
  refine ML_scale ?_
  unfold VL_scale_0
  exact ⟨hF.1.1.1, q_scale (by omega) hF.1 h0 h1 h2 (fun S' C' J' => hx2 cd_scale (hfin ho (hF.st J' C') (J'.md (Nat.le_refl _)) h))⟩
theorem cd_weight {n : Nat} {w : Nat → Int} {a0 a1 : Int} : (A_weight n w a0 a1).1 = 0 ∨ (A_weight n w a0 a1).1 = 1 ∨ (A_weight n w a0 a1).1 = 2 := by
  unfold A_weight
  split <;> first | exact Or.inl rfl | exact Or.inr (Or.inl rfl) | exact Or.inr (Or.inr (rfl)) | (split <;> first | exact Or.inl rfl | exact Or.inr (Or.inl rfl) | exact Or.inr (Or.inr (rfl)) | (split <;> first | exact Or.inl rfl | exact Or.inr (Or.inl rfl) | exact Or.inr (Or.inr (rfl))))
theorem l_weight {d x n len : Nat} {w vm : Nat → Int} {tb : Nat → Nat} {im ft : Int} {a0 a1 : Int} {S : MS} {Q : Out → MS → Prop} (hd : 8 ≤ d) (hF : FS S x n w tb len im vm ft) (ho : S.K (x+196) = 14 ∧ S.N (x+196) = 1) (h0 : R32 a0) (h1 : R32 a1) (h : ∀ S', FS S' x n (U_weight n w a0 a1) tb len im vm ft → MD x S S' → ((A_weight n w a0 a1).1 = 0 → S'.J (x+196) 0 = i2L (A_weight n w a0 a1).2) → Q (.inl (some (vI (A_weight n w a0 a1).1))) S') : Mw hL_weight yL_weight d [vA x, vI a0, vI a1, vA (x+196)] S Q := by
  obtain ⟨dd, rfl⟩ : ∃ e, d = e + 1 := ⟨d - 1, by omega⟩
  refine ML_weight ?_
  unfold VL_weight_0
  exact ⟨hF.1.1.1, q_weight (by omega) hF.1 h0 h1 (fun S' C' J' => hx2 cd_weight (hfin ho (hF.st J' C') (J'.md (Nat.le_refl _)) h))⟩
theorem cd_rises {n : Nat} {w : Nat → Int} {a0 a1 : Int} : (A_rises n w a0 a1).1 = 0 ∨ (A_rises n w a0 a1).1 = 1 ∨ (A_rises n w a0 a1).1 = 2 := by
  unfold A_rises
  split <;> first | exact Or.inl rfl | exact Or.inr (Or.inl rfl) | exact Or.inr (Or.inr (rfl)) | (split <;> first | exact Or.inl rfl | exact Or.inr (Or.inl rfl) | exact Or.inr (Or.inr (rfl)) | (split <;> first | exact Or.inl rfl | exact Or.inr (Or.inl rfl) | exact Or.inr (Or.inr (rfl))))
theorem l_rises {d x n len : Nat} {w vm : Nat → Int} {tb : Nat → Nat} {im ft : Int} {a0 a1 : Int} {S : MS} {Q : Out → MS → Prop} (hd : 8 ≤ d) (hF : FS S x n w tb len im vm ft) (ho : S.K (x+196) = 14 ∧ S.N (x+196) = 1) (h0 : R32 a0) (h1 : R32 a1) (h : ∀ S', FS S' x n w tb len im vm ft → MD x S S' → ((A_rises n w a0 a1).1 = 0 → S'.J (x+196) 0 = i2L (A_rises n w a0 a1).2) → Q (.inl (some (vI (A_rises n w a0 a1).1))) S') : Mw hL_rises yL_rises d [vA x, vI a0, vI a1, vA (x+196)] S Q := by
  obtain ⟨dd, rfl⟩ : ∃ e, d = e + 1 := ⟨d - 1, by omega⟩
  refine ML_rises ?_
  unfold VL_rises_0
  exact ⟨hF.1.1.1, q_rises (by omega) hF.1 h0 h1 (fun S' C' J' => hx2 cd_rises (hfin ho (hF.j J' C') (J'.g.md (Nat.le_refl _)) h))⟩
theorem cd_note {n : Nat} {w : Nat → Int} {a0 a1 a2 : Int} : (A_note n w a0 a1 a2).1 = 0 ∨ (A_note n w a0 a1 a2).1 = 1 ∨ (A_note n w a0 a1 a2).1 = 2 ∨ (A_note n w a0 a1 a2).1 = 3 := by
  unfold A_note
  unfold cD
  split <;> first | exact Or.inl rfl | exact Or.inr (Or.inl rfl) | exact Or.inr (Or.inr (Or.inl rfl)) | exact Or.inr (Or.inr (Or.inr (rfl))) | (split <;> first | exact Or.inl rfl | exact Or.inr (Or.inl rfl) | exact Or.inr (Or.inr (Or.inl rfl)) | exact Or.inr (Or.inr (Or.inr (rfl))) | (split <;> first | exact Or.inl rfl | exact Or.inr (Or.inl rfl) | exact Or.inr (Or.inr (Or.inl rfl)) | exact Or.inr (Or.inr (Or.inr (rfl)))))
theorem l_note {d x n len : Nat} {w vm : Nat → Int} {tb : Nat → Nat} {im ft : Int} {a0 a1 a2 : Int} {S : MS} {Q : Out → MS → Prop} (hd : 8 ≤ d) (hF : FS S x n w tb len im vm ft) (ho : S.K (x+196) = 14 ∧ S.N (x+196) = 1) (h0 : R32 a0) (h1 : R32 a1) (h2 : R32 a2) (h : ∀ S', FS S' x n (U_note n w a0 a1 a2) tb len im vm ft → MD x S S' → ((A_note n w a0 a1 a2).1 = 0 → S'.J (x+196) 0 = i2L (A_note n w a0 a1 a2).2) → Q (.inl (some (vI (A_note n w a0 a1 a2).1))) S') : Mw hL_note yL_note d [vA x, vI a0, vI a1, vI a2, vA (x+196)] S Q := by
  obtain ⟨dd, rfl⟩ : ∃ e, d = e + 1 := ⟨d - 1, by omega⟩
  refine ML_note ?_
  unfold VL_note_0
  exact ⟨hF.1.1.1, q_note (by omega) hF.1 h0 h1 h2 (fun S' C' J' => hx3 cd_note (hfin ho (hF.st J' C') (J'.md (Nat.le_refl _)) h))⟩
theorem cd_look {w : Nat → Int} {a0 a1 : Int} : (A_look w a0 a1).1 = 0 ∨ (A_look w a0 a1).1 = 1 ∨ (A_look w a0 a1).1 = 2 := by
  unfold A_look
  split <;> first | exact Or.inl rfl | exact Or.inr (Or.inl rfl) | exact Or.inr (Or.inr (rfl)) | (split <;> first | exact Or.inl rfl | exact Or.inr (Or.inl rfl) | exact Or.inr (Or.inr (rfl)) | (split <;> first | exact Or.inl rfl | exact Or.inr (Or.inl rfl) | exact Or.inr (Or.inr (rfl))))
theorem l_look {d x n len : Nat} {w vm : Nat → Int} {tb : Nat → Nat} {im ft : Int} {a0 a1 : Int} {S : MS} {Q : Out → MS → Prop} (hd : 8 ≤ d) (hF : FS S x n w tb len im vm ft) (ho : S.K (x+196) = 14 ∧ S.N (x+196) = 1) (h0 : R32 a0) (h1 : R32 a1) (h : ∀ S', FS S' x n w tb len im vm ft → MD x S S' → ((A_look w a0 a1).1 = 0 → S'.J (x+196) 0 = i2L (A_look w a0 a1).2) → Q (.inl (some (vI (A_look w a0 a1).1))) S') : Mw hL_look yL_look d [vA x, vI a0, vI a1, vA (x+196)] S Q := by
  obtain ⟨dd, rfl⟩ : ∃ e, d = e + 1 := ⟨d - 1, by omega⟩
  refine ML_look ?_
  unfold VL_look_0
  exact ⟨hF.1.1.1, q_look (by omega) hF.1 h0 h1 (fun S' C' J' => hx2 cd_look (hfin ho (hF.j J' C') (J'.g.md (Nat.le_refl _)) h))⟩
theorem cd_drop {w : Nat → Int} {a0 : Int} : (A_drop w a0).1 = 0 ∨ (A_drop w a0).1 = 1 := by
  unfold A_drop
  split <;> first | exact Or.inl rfl | exact Or.inr (rfl) | (split <;> first | exact Or.inl rfl | exact Or.inr (rfl) | (split <;> first | exact Or.inl rfl | exact Or.inr (rfl)))
theorem l_drop {d x n len : Nat} {w vm : Nat → Int} {tb : Nat → Nat} {im ft : Int} {a0 : Int} {S : MS} {Q : Out → MS → Prop} (hd : 8 ≤ d) (hF : FS S x n w tb len im vm ft) (ho : S.K (x+196) = 14 ∧ S.N (x+196) = 1) (h0 : R32 a0) (h : ∀ S', FS S' x n (U_drop w a0) tb len im vm ft → MD x S S' → ((A_drop w a0).1 = 0 → S'.J (x+196) 0 = i2L (A_drop w a0).2) → Q (.inl (some (vI (A_drop w a0).1))) S') : Mw hL_drop yL_drop d [vA x, vI a0, vA (x+196)] S Q := by
  obtain ⟨dd, rfl⟩ : ∃ e, d = e + 1 := ⟨d - 1, by omega⟩
  refine ML_drop ?_
  unfold VL_drop_0
  exact ⟨hF.1.1.1, q_drop (by omega) hF.1 h0 (fun S' C' J' => hx1 cd_drop (hfin ho (hF.st J' C') (J'.md (Nat.le_refl _)) h))⟩
theorem cd_row {n : Nat} {w : Nat → Int} {a0 a1 : Int} : (A_row n w a0 a1).1 = 0 ∨ (A_row n w a0 a1).1 = 1 := by
  unfold A_row
  split <;> first | exact Or.inl rfl | exact Or.inr (rfl) | (split <;> first | exact Or.inl rfl | exact Or.inr (rfl) | (split <;> first | exact Or.inl rfl | exact Or.inr (rfl)))
theorem l_row {d x n len : Nat} {w vm : Nat → Int} {tb : Nat → Nat} {im ft : Int} {a0 a1 : Int} {S : MS} {Q : Out → MS → Prop} (hd : 10 ≤ d) (hF : FS S x n w tb len im vm ft) (ho : S.K (x+196) = 14 ∧ S.N (x+196) = 1) (h0 : R32 a0) (h1 : R32 a1) (h : ∀ S', FS S' x n w tb len im vm ft → MD x S S' → ((A_row n w a0 a1).1 = 0 → S'.J (x+196) 0 = i2L (A_row n w a0 a1).2) → Q (.inl (some (vI (A_row n w a0 a1).1))) S') : Mw hL_row yL_row d [vA x, vI a0, vI a1, vA (x+196)] S Q := by
  obtain ⟨dd, rfl⟩ : ∃ e, d = e + 1 := ⟨d - 1, by omega⟩
  refine ML_row ?_
  unfold VL_row_0
  exact ⟨hF.1.1.1, q_row (by omega) hF.1 h0 h1 (fun S' C' J' => hx1 cd_row (hfin ho (hF.j J' C') (J'.g.md (Nat.le_refl _)) h))⟩
theorem cd_fits {n : Nat} {len : Nat} {tb : Nat → Nat} {w : Nat → Int} : (A_fits n w tb len).1 = 0 ∨ (A_fits n w tb len).1 = 1 := by
  unfold A_fits
  split <;> first | exact Or.inl rfl | exact Or.inr (rfl) | (split <;> first | exact Or.inl rfl | exact Or.inr (rfl) | (split <;> first | exact Or.inl rfl | exact Or.inr (rfl)))
theorem l_fits {d x n len : Nat} {w vm : Nat → Int} {tb : Nat → Nat} {im ft : Int} {S : MS} {Q : Out → MS → Prop} (hd : 10 ≤ d) (hF : FS S x n w tb len im vm ft) (ho : S.K (x+196) = 14 ∧ S.N (x+196) = 1)  (h : ∀ S', FS S' x n w tb 0 im vm ft → MD x S S' → ((A_fits n w tb len).1 = 0 → S'.J (x+196) 0 = b2L (nm (A_fits n w tb len).2)) → Q (.inl (some (vI (A_fits n w tb len).1))) S') : Mw hL_fits yL_fits d [vA x, vA (x+196)] S Q := by
  obtain ⟨dd, rfl⟩ : ∃ e, d = e + 1 := ⟨d - 1, by omega⟩
  refine ML_fits ?_
  unfold VL_fits_0
  refine ⟨hF.1.1.1, q_fits (by omega) hF.1 hF.2.1  (fun S' C' J' => hx1n cd_fits ?_)⟩
  have z := hfinb ho (hF.jt J' C').1 ((hF.jt J' C').2.md (Nat.le_refl _)) h
  refine ⟨fun c => ⟨r32_nm _, fun y => ?_, fun y => ?_⟩, z.2⟩
  · unfold VL_fits_14; exact z.1 c _ (by unfold b2L; rw [if_pos y])
  · unfold VL_fits_14; exact z.1 c _ (by unfold b2L; rw [if_neg y])
theorem cd_may {n : Nat} {w : Nat → Int} {a0 : Int} : (A_may n w a0).1 = 0 ∨ (A_may n w a0).1 = 1 := by
  unfold A_may
  split <;> first | exact Or.inl rfl | exact Or.inr (rfl) | (split <;> first | exact Or.inl rfl | exact Or.inr (rfl) | (split <;> first | exact Or.inl rfl | exact Or.inr (rfl)))
theorem l_may {d x n len : Nat} {w vm : Nat → Int} {tb : Nat → Nat} {im ft : Int} {a0 : Int} {S : MS} {Q : Out → MS → Prop} (hd : 11 ≤ d) (hF : FS S x n w tb len im vm ft) (ho : S.K (x+196) = 14 ∧ S.N (x+196) = 1) (h0 : R32 a0) (h : ∀ S', FS S' x n w tb len im vm ft → MD x S S' → ((A_may n w a0).1 = 0 → S'.J (x+196) 0 = i2L (A_may n w a0).2) → Q (.inl (some (vI (A_may n w a0).1))) S') : Mw hL_may yL_may d [vA x, vI a0, vA (x+196)] S Q := by
  obtain ⟨dd, rfl⟩ : ∃ e, d = e + 1 := ⟨d - 1, by omega⟩
  refine ML_may ?_
  unfold VL_may_0
  exact ⟨hF.1.1.1, q_may (by omega) hF.1 h0 (fun S' C' J' => hx1 cd_may (hfin ho (hF.j J' C') (J'.g.md (Nat.le_refl _)) h))⟩
theorem cd_heavier {n : Nat} {w : Nat → Int} {a0 a1 : Int} : (A_heavier n w a0 a1).1 = 0 ∨ (A_heavier n w a0 a1).1 = 1 ∨ (A_heavier n w a0 a1).1 = 2 := by
  unfold A_heavier
  split <;> first | exact Or.inl rfl | exact Or.inr (Or.inl rfl) | exact Or.inr (Or.inr (rfl)) | (split <;> first | exact Or.inl rfl | exact Or.inr (Or.inl rfl) | exact Or.inr (Or.inr (rfl)) | (split <;> first | exact Or.inl rfl | exact Or.inr (Or.inl rfl) | exact Or.inr (Or.inr (rfl))))
theorem l_heavier {d x n len : Nat} {w vm : Nat → Int} {tb : Nat → Nat} {im ft : Int} {a0 a1 : Int} {S : MS} {Q : Out → MS → Prop} (hd : 11 ≤ d) (hF : FS S x n w tb len im vm ft) (ho : S.K (x+196) = 14 ∧ S.N (x+196) = 1) (h0 : R32 a0) (h1 : R32 a1) (h : ∀ S', FS S' x n w tb len im vm ft → MD x S S' → ((A_heavier n w a0 a1).1 = 0 → S'.J (x+196) 0 = i2L (A_heavier n w a0 a1).2) → Q (.inl (some (vI (A_heavier n w a0 a1).1))) S') : Mw hL_heavier yL_heavier d [vA x, vI a0, vI a1, vA (x+196)] S Q := by
  obtain ⟨dd, rfl⟩ : ∃ e, d = e + 1 := ⟨d - 1, by omega⟩
  refine ML_heavier ?_
  unfold VL_heavier_0
  exact ⟨hF.1.1.1, q_heavier (by omega) hF.1 h0 h1 (fun S' C' J' => hx2 cd_heavier (hfin ho (hF.j J' C') (J'.g.md (Nat.le_refl _)) h))⟩
theorem cd_places {n : Nat} {w : Nat → Int} {a0 : Int} : (A_places n w a0).1 = 0 ∨ (A_places n w a0).1 = 1 := by
  unfold A_places
  split <;> first | exact Or.inl rfl | exact Or.inr (rfl) | (split <;> first | exact Or.inl rfl | exact Or.inr (rfl) | (split <;> first | exact Or.inl rfl | exact Or.inr (rfl)))
theorem l_places {d x n len : Nat} {w vm : Nat → Int} {tb : Nat → Nat} {im ft : Int} {a0 : Int} {S : MS} {Q : Out → MS → Prop} (hd : 10 ≤ d) (hF : FS S x n w tb len im vm ft) (ho : S.K (x+196) = 14 ∧ S.N (x+196) = 1) (h0 : R32 a0) (h : ∀ S', FS S' x n w tb len im vm ft → MD x S S' → ((A_places n w a0).1 = 0 → S'.J (x+196) 0 = i2L (A_places n w a0).2) → Q (.inl (some (vI (A_places n w a0).1))) S') : Mw hL_places yL_places d [vA x, vI a0, vA (x+196)] S Q := by
  obtain ⟨dd, rfl⟩ : ∃ e, d = e + 1 := ⟨d - 1, by omega⟩
  refine ML_places ?_
  unfold VL_places_0
  exact ⟨hF.1.1.1, q_places (by omega) hF.1 h0 (fun S' C' J' => hx1 cd_places (hfin ho (hF.j J' C') (J'.g.md (Nat.le_refl _)) h))⟩
theorem cd_mends {n : Nat} {w : Nat → Int} {a0 : Int} : (A_mends n w a0).1 = 0 ∨ (A_mends n w a0).1 = 1 := by
  unfold A_mends
  split <;> first | exact Or.inl rfl | exact Or.inr (rfl) | (split <;> first | exact Or.inl rfl | exact Or.inr (rfl) | (split <;> first | exact Or.inl rfl | exact Or.inr (rfl)))
theorem l_mends {d x n len : Nat} {w vm : Nat → Int} {tb : Nat → Nat} {im ft : Int} {a0 : Int} {S : MS} {Q : Out → MS → Prop} (hd : 10 ≤ d) (hF : FS S x n w tb len im vm ft) (ho : S.K (x+196) = 14 ∧ S.N (x+196) = 1) (h0 : R32 a0) (h : ∀ S', FS S' x n w tb len im vm ft → MD x S S' → ((A_mends n w a0).1 = 0 → S'.J (x+196) 0 = i2L (A_mends n w a0).2) → Q (.inl (some (vI (A_mends n w a0).1))) S') : Mw hL_mends yL_mends d [vA x, vI a0, vA (x+196)] S Q := by
  obtain ⟨dd, rfl⟩ : ∃ e, d = e + 1 := ⟨d - 1, by omega⟩
  refine ML_mends ?_
  unfold VL_mends_0
  exact ⟨hF.1.1.1, q_mends (by omega) hF.1 h0 (fun S' C' J' => hx1 cd_mends (hfin ho (hF.j J' C') (J'.g.md (Nat.le_refl _)) h))⟩
theorem cd_nearly {n : Nat} {len : Nat} {tb : Nat → Nat} {w : Nat → Int} : (A_nearly n w tb len).1 = 0 ∨ (A_nearly n w tb len).1 = 1 := by
  unfold A_nearly
  split <;> first | exact Or.inl rfl | exact Or.inr (rfl) | (split <;> first | exact Or.inl rfl | exact Or.inr (rfl) | (split <;> first | exact Or.inl rfl | exact Or.inr (rfl)))
theorem l_nearly {d x n len : Nat} {w vm : Nat → Int} {tb : Nat → Nat} {im ft : Int} {S : MS} {Q : Out → MS → Prop} (hd : 10 ≤ d) (hF : FS S x n w tb len im vm ft) (ho : S.K (x+196) = 14 ∧ S.N (x+196) = 1)  (h : ∀ S', FS S' x n w tb 0 im vm ft → MD x S S' → ((A_nearly n w tb len).1 = 0 → S'.J (x+196) 0 = i2L (A_nearly n w tb len).2) → Q (.inl (some (vI (A_nearly n w tb len).1))) S') : Mw hL_nearly yL_nearly d [vA x, vA (x+196)] S Q := by
  obtain ⟨dd, rfl⟩ : ∃ e, d = e + 1 := ⟨d - 1, by omega⟩
  refine ML_nearly ?_
  unfold VL_nearly_0
  exact ⟨hF.1.1.1, q_nearly (by omega) hF.1 hF.2.1  (fun S' C' J' => hx1 cd_nearly (hfin ho (hF.jt J' C').1 ((hF.jt J' C').2.md (Nat.le_refl _)) h))⟩
theorem cd_votes {n : Nat} {w : Nat → Int} {a0 : Int} : (A_votes n w a0).1 = 0 ∨ (A_votes n w a0).1 = 1 := by
  unfold A_votes
  split <;> first | exact Or.inl rfl | exact Or.inr (rfl) | (split <;> first | exact Or.inl rfl | exact Or.inr (rfl) | (split <;> first | exact Or.inl rfl | exact Or.inr (rfl)))
theorem l_votes {d x n len : Nat} {w vm : Nat → Int} {tb : Nat → Nat} {im ft : Int} {a0 : Int} {S : MS} {Q : Out → MS → Prop} (hd : 8 ≤ d) (hF : FS S x n w tb len im vm ft) (ho : S.K (x+196) = 14 ∧ S.N (x+196) = 1) (h0 : R32 a0) (h : ∀ S', FS S' x n w tb len im vm ft → MD x S S' → ((A_votes n w a0).1 = 0 → S'.J (x+196) 0 = i2L (A_votes n w a0).2) → Q (.inl (some (vI (A_votes n w a0).1))) S') : Mw hL_votes yL_votes d [vA x, vI a0, vA (x+196)] S Q := by
  obtain ⟨dd, rfl⟩ : ∃ e, d = e + 1 := ⟨d - 1, by omega⟩
  refine ML_votes ?_
  unfold VL_votes_0
  exact ⟨hF.1.1.1, q_votes (by omega) hF.1 h0 (fun S' C' J' => hx1 cd_votes (hfin ho (hF.j J' C') (J'.g.md (Nat.le_refl _)) h))⟩
theorem cd_laying {n : Nat} {w : Nat → Int} {a0 a1 a2 : Int} : (A_laying n w a0 a1 a2).1 = 0 ∨ (A_laying n w a0 a1 a2).1 = 1 ∨ (A_laying n w a0 a1 a2).1 = 2 := by
  unfold A_laying
  unfold cD
  split <;> first | exact Or.inl rfl | exact Or.inr (Or.inl rfl) | exact Or.inr (Or.inr (rfl)) | (split <;> first | exact Or.inl rfl | exact Or.inr (Or.inl rfl) | exact Or.inr (Or.inr (rfl)) | (split <;> first | exact Or.inl rfl | exact Or.inr (Or.inl rfl) | exact Or.inr (Or.inr (rfl))))
theorem l_laying {d x n len : Nat} {w vm : Nat → Int} {tb : Nat → Nat} {im ft : Int} {a0 a1 a2 : Int} {S : MS} {Q : Out → MS → Prop} (hd : 10 ≤ d) (hF : FS S x n w tb len im vm ft) (ho : S.K (x+196) = 14 ∧ S.N (x+196) = 1) (h0 : R32 a0) (h1 : R32 a1) (h2 : B01 a2) (h : ∀ S', FS S' x n w tb len im vm ft → MD x S S' → ((A_laying n w a0 a1 a2).1 = 0 → S'.J (x+196) 0 = i2L (A_laying n w a0 a1 a2).2) → Q (.inl (some (vI (A_laying n w a0 a1 a2).1))) S') : Mw hL_laying yL_laying d [vA x, vI a0, vI a1, vI a2, vA (x+196)] S Q := by
  obtain ⟨dd, rfl⟩ : ∃ e, d = e + 1 := ⟨d - 1, by omega⟩
  refine ML_laying ?_
  unfold VL_laying_0
  exact ⟨hF.1.1.1, q_laying (by omega) hF.1 h0 h1 h2 (fun S' C' J' => hx2 cd_laying (hfin ho (hF.j J' C') (J'.g.md (Nat.le_refl _)) h))⟩
theorem cd_next {n : Nat} {w : Nat → Int} {a0 : Int} : (A_next n w a0).1 = 0 ∨ (A_next n w a0).1 = 1 := by
  unfold A_next
  split <;> first | exact Or.inl rfl | exact Or.inr (rfl) | (split <;> first | exact Or.inl rfl | exact Or.inr (rfl) | (split <;> first | exact Or.inl rfl | exact Or.inr (rfl)))
theorem l_next {d x n len : Nat} {w vm : Nat → Int} {tb : Nat → Nat} {im ft : Int} {a0 : Int} {S : MS} {Q : Out → MS → Prop} (hd : 10 ≤ d) (hF : FS S x n w tb len im vm ft) (ho : S.K (x+196) = 14 ∧ S.N (x+196) = 1) (h0 : R32 a0) (h : ∀ S', FS S' x n w tb len im vm ft → MD x S S' → ((A_next n w a0).1 = 0 → S'.J (x+196) 0 = i2L (A_next n w a0).2) → Q (.inl (some (vI (A_next n w a0).1))) S') : Mw hL_next yL_next d [vA x, vI a0, vA (x+196)] S Q := by
  obtain ⟨dd, rfl⟩ : ∃ e, d = e + 1 := ⟨d - 1, by omega⟩
  refine ML_next ?_
  unfold VL_next_0
  exact ⟨hF.1.1.1, q_next (by omega) hF.1 h0 (fun S' C' J' => hx1 cd_next (hfin ho (hF.j J' C') (J'.g.md (Nat.le_refl _)) h))⟩
theorem cd_fewest {n : Nat} {w : Nat → Int} {a0 : Int} : (A_fewest n w a0).1 = 0 ∨ (A_fewest n w a0).1 = 1 := by
  unfold A_fewest
  split <;> first | exact Or.inl rfl | exact Or.inr (rfl) | (split <;> first | exact Or.inl rfl | exact Or.inr (rfl) | (split <;> first | exact Or.inl rfl | exact Or.inr (rfl)))
theorem l_fewest {d x n len : Nat} {w vm : Nat → Int} {tb : Nat → Nat} {im ft : Int} {a0 : Int} {S : MS} {Q : Out → MS → Prop} (hd : 25 ≤ d) (hF : FS S x n w tb len im vm ft) (ho : S.K (x+196) = 14 ∧ S.N (x+196) = 1) (h0 : R32 a0) (h : ∀ S', FS S' x n w tb len im vm ft → MD x S S' → ((A_fewest n w a0).1 = 0 → S'.J (x+196) 0 = i2L (A_fewest n w a0).2) → Q (.inl (some (vI (A_fewest n w a0).1))) S') : Mw hL_fewest yL_fewest d [vA x, vI a0, vA (x+196)] S Q := by
  obtain ⟨dd, rfl⟩ : ∃ e, d = e + 1 := ⟨d - 1, by omega⟩
  refine ML_fewest ?_
  unfold VL_fewest_0
  exact ⟨hF.1.1.1, q_fewest (by omega) hF.1 h0 (fun S' C' J' => hx1 cd_fewest (hfin ho (hF.j J' C') (J'.g.md (Nat.le_refl _)) h))⟩
theorem cd_bound {n : Nat} {w : Nat → Int} {a0 : Int} : (A_bound n w a0).1 = 0 ∨ (A_bound n w a0).1 = 1 := by
  unfold A_bound
  split <;> first | exact Or.inl rfl | exact Or.inr (rfl) | (split <;> first | exact Or.inl rfl | exact Or.inr (rfl) | (split <;> first | exact Or.inl rfl | exact Or.inr (rfl)))
theorem l_bound {d x n len : Nat} {w vm : Nat → Int} {tb : Nat → Nat} {im ft : Int} {a0 : Int} {S : MS} {Q : Out → MS → Prop} (hd : 10 ≤ d) (hF : FS S x n w tb len im vm ft) (ho : S.K (x+196) = 14 ∧ S.N (x+196) = 1) (h0 : R32 a0) (h : ∀ S', FS S' x n w tb len im vm ft → MD x S S' → ((A_bound n w a0).1 = 0 → S'.J (x+196) 0 = i2L (A_bound n w a0).2) → Q (.inl (some (vI (A_bound n w a0).1))) S') : Mw hL_bound yL_bound d [vA x, vI a0, vA (x+196)] S Q := by
  obtain ⟨dd, rfl⟩ : ∃ e, d = e + 1 := ⟨d - 1, by omega⟩
  refine ML_bound ?_
  unfold VL_bound_0
  exact ⟨hF.1.1.1, q_bound (by omega) hF.1 h0 (fun S' C' J' => hx1 cd_bound (hfin ho (hF.j J' C') (J'.g.md (Nat.le_refl _)) h))⟩
theorem cd_byNext {n : Nat} {w : Nat → Int} {a0 : Int} : (A_byNext n w a0).1 = 0 ∨ (A_byNext n w a0).1 = 1 := by
  unfold A_byNext
  split <;> first | exact Or.inl rfl | exact Or.inr (rfl) | (split <;> first | exact Or.inl rfl | exact Or.inr (rfl) | (split <;> first | exact Or.inl rfl | exact Or.inr (rfl)))
theorem l_byNext {d x n len : Nat} {w vm : Nat → Int} {tb : Nat → Nat} {im ft : Int} {a0 : Int} {S : MS} {Q : Out → MS → Prop} (hd : 44 ≤ d) (hF : FS S x n w tb len im vm ft) (ho : S.K (x+196) = 14 ∧ S.N (x+196) = 1) (h0 : R32 a0) (h : ∀ S', FS S' x n w tb len im vm ft → MD x S S' → ((A_byNext n w a0).1 = 0 → S'.J (x+196) 0 = i2L (A_byNext n w a0).2) → Q (.inl (some (vI (A_byNext n w a0).1))) S') : Mw hL_byNext yL_byNext d [vA x, vI a0, vA (x+196)] S Q := by
  obtain ⟨dd, rfl⟩ : ∃ e, d = e + 1 := ⟨d - 1, by omega⟩
  refine ML_byNext ?_
  unfold VL_byNext_0
  exact ⟨hF.1.1.1, q_byNext (by omega) hF.1 h0 (fun S' C' J' => hx1 cd_byNext (hfin ho (hF.j J' C') (J'.g.md (Nat.le_refl _)) h))⟩
theorem cd_wants {n : Nat} {w : Nat → Int} {a0 a1 : Int} : (A_wants n w a0 a1).1 = 0 ∨ (A_wants n w a0 a1).1 = 1 ∨ (A_wants n w a0 a1).1 = 2 := by
  unfold A_wants
  split <;> first | exact Or.inl rfl | exact Or.inr (Or.inl rfl) | exact Or.inr (Or.inr (rfl)) | (split <;> first | exact Or.inl rfl | exact Or.inr (Or.inl rfl) | exact Or.inr (Or.inr (rfl)) | (split <;> first | exact Or.inl rfl | exact Or.inr (Or.inl rfl) | exact Or.inr (Or.inr (rfl))))
theorem l_wants {d x n len : Nat} {w vm : Nat → Int} {tb : Nat → Nat} {im ft : Int} {a0 a1 : Int} {S : MS} {Q : Out → MS → Prop} (hd : 12 ≤ d) (hF : FS S x n w tb len im vm ft) (ho : S.K (x+196) = 14 ∧ S.N (x+196) = 1) (h0 : R32 a0) (h1 : R32 a1) (h : ∀ S', FS S' x n w tb len im vm ft → MD x S S' → ((A_wants n w a0 a1).1 = 0 → S'.J (x+196) 0 = b2L (nm (A_wants n w a0 a1).2)) → Q (.inl (some (vI (A_wants n w a0 a1).1))) S') : Mw hL_wants yL_wants d [vA x, vI a0, vI a1, vA (x+196)] S Q := by
  obtain ⟨dd, rfl⟩ : ∃ e, d = e + 1 := ⟨d - 1, by omega⟩
  refine ML_wants ?_
  unfold VL_wants_0
  refine ⟨hF.1.1.1, q_wants (by omega) hF.1 h0 h1 (fun S' C' J' => hx2n cd_wants ?_)⟩
  have z := hfinb ho (hF.j J' C') (J'.g.md (Nat.le_refl _)) h
  refine ⟨fun c => ⟨r32_nm _, fun y => ?_, fun y => ?_⟩, z.2⟩
  · unfold VL_wants_16; exact z.1 c _ (by unfold b2L; rw [if_pos y])
  · unfold VL_wants_16; exact z.1 c _ (by unfold b2L; rw [if_neg y])
theorem cd_plain {n : Nat} {w : Nat → Int} {a0 a1 : Int} : (A_plain n w a0 a1).1 = 0 ∨ (A_plain n w a0 a1).1 = 1 ∨ (A_plain n w a0 a1).1 = 2 := by
  unfold A_plain
  split <;> first | exact Or.inl rfl | exact Or.inr (Or.inl rfl) | exact Or.inr (Or.inr (rfl)) | (split <;> first | exact Or.inl rfl | exact Or.inr (Or.inl rfl) | exact Or.inr (Or.inr (rfl)) | (split <;> first | exact Or.inl rfl | exact Or.inr (Or.inl rfl) | exact Or.inr (Or.inr (rfl))))
theorem l_plain {d x n len : Nat} {w vm : Nat → Int} {tb : Nat → Nat} {im ft : Int} {a0 a1 : Int} {S : MS} {Q : Out → MS → Prop} (hd : 11 ≤ d) (hF : FS S x n w tb len im vm ft) (ho : S.K (x+196) = 14 ∧ S.N (x+196) = 1) (h0 : R32 a0) (h1 : R32 a1) (h : ∀ S', FS S' x n w tb len im vm ft → MD x S S' → ((A_plain n w a0 a1).1 = 0 → S'.J (x+196) 0 = i2L (A_plain n w a0 a1).2) → Q (.inl (some (vI (A_plain n w a0 a1).1))) S') : Mw hL_plain yL_plain d [vA x, vI a0, vI a1, vA (x+196)] S Q := by
  obtain ⟨dd, rfl⟩ : ∃ e, d = e + 1 := ⟨d - 1, by omega⟩
  refine ML_plain ?_
  unfold VL_plain_0
  exact ⟨hF.1.1.1, q_plain (by omega) hF.1 h0 h1 (fun S' C' J' => hx2 cd_plain (hfin ho (hF.j J' C') (J'.g.md (Nat.le_refl _)) h))⟩
theorem cd_sorted {n : Nat} {w : Nat → Int} {a0 : Int} : (A_sorted n w a0).1 = 0 ∨ (A_sorted n w a0).1 = 1 := by
  unfold A_sorted
  split <;> first | exact Or.inl rfl | exact Or.inr (rfl) | (split <;> first | exact Or.inl rfl | exact Or.inr (rfl) | (split <;> first | exact Or.inl rfl | exact Or.inr (rfl)))
theorem l_sorted {d x n len : Nat} {w vm : Nat → Int} {tb : Nat → Nat} {im ft : Int} {a0 : Int} {S : MS} {Q : Out → MS → Prop} (hd : 8 ≤ d) (hF : FS S x n w tb len im vm ft) (ho : S.K (x+196) = 14 ∧ S.N (x+196) = 1) (h0 : R32 a0) (h : ∀ S', FS S' x n w tb len im vm ft → MD x S S' → ((A_sorted n w a0).1 = 0 → S'.J (x+196) 0 = i2L (A_sorted n w a0).2) → Q (.inl (some (vI (A_sorted n w a0).1))) S') : Mw hL_sorted yL_sorted d [vA x, vI a0, vA (x+196)] S Q := by
  obtain ⟨dd, rfl⟩ : ∃ e, d = e + 1 := ⟨d - 1, by omega⟩
  refine ML_sorted ?_
  unfold VL_sorted_0
  exact ⟨hF.1.1.1, q_sorted (by omega) hF.1 h0 (fun S' C' J' => hx1 cd_sorted (hfin ho (hF.j J' C') (J'.g.md (Nat.le_refl _)) h))⟩
theorem cd_played {n : Nat} {w : Nat → Int} {a0 a1 a2 a3 : Int} : (A_played n w a0 a1 a2 a3).1 = 0 ∨ (A_played n w a0 a1 a2 a3).1 = 1 ∨ (A_played n w a0 a1 a2 a3).1 = 2 ∨ (A_played n w a0 a1 a2 a3).1 = 3 := by
  unfold A_played
  split <;> first | exact Or.inl rfl | exact Or.inr (Or.inl rfl) | exact Or.inr (Or.inr (Or.inl rfl)) | exact Or.inr (Or.inr (Or.inr (rfl))) | (split <;> first | exact Or.inl rfl | exact Or.inr (Or.inl rfl) | exact Or.inr (Or.inr (Or.inl rfl)) | exact Or.inr (Or.inr (Or.inr (rfl))) | (split <;> first | exact Or.inl rfl | exact Or.inr (Or.inl rfl) | exact Or.inr (Or.inr (Or.inl rfl)) | exact Or.inr (Or.inr (Or.inr (rfl)))))
theorem l_played {d x n len : Nat} {w vm : Nat → Int} {tb : Nat → Nat} {im ft : Int} {a0 a1 a2 a3 : Int} {S : MS} {Q : Out → MS → Prop} (hd : 10 ≤ d) (hF : FS S x n w tb len im vm ft) (ho : S.K (x+196) = 14 ∧ S.N (x+196) = 1) (h0 : R32 a0) (h1 : R32 a1) (h3 : R32 a3) (h : ∀ S', FS S' x n w tb len im vm ft → MD x S S' → ((A_played n w a0 a1 a2 a3).1 = 0 → S'.J (x+196) 0 = i2L (A_played n w a0 a1 a2 a3).2) → Q (.inl (some (vI (A_played n w a0 a1 a2 a3).1))) S') : Mw hL_played yL_played d [vA x, vI a0, vI a1, vI a2, vI a3, vA (x+196)] S Q := by
  obtain ⟨dd, rfl⟩ : ∃ e, d = e + 1 := ⟨d - 1, by omega⟩
  refine ML_played ?_
  unfold VL_played_0
  exact ⟨hF.1.1.1, q_played (by omega) hF.1 h0 h1 h3 (fun S' C' J' => hx3 cd_played (hfin ho (hF.j J' C') (J'.g.md (Nat.le_refl _)) h))⟩
theorem cd_mean {n : Nat} {w : Nat → Int} {a0 : Int} : (A_mean n w a0).1 = 0 ∨ (A_mean n w a0).1 = 1 := by
  unfold A_mean
  split <;> first | exact Or.inl rfl | exact Or.inr (rfl) | (split <;> first | exact Or.inl rfl | exact Or.inr (rfl) | (split <;> first | exact Or.inl rfl | exact Or.inr (rfl)))
theorem l_mean {d x n len : Nat} {w vm : Nat → Int} {tb : Nat → Nat} {im ft : Int} {a0 : Int} {S : MS} {Q : Out → MS → Prop} (hd : 44 ≤ d) (hF : FS S x n w tb len im vm ft) (ho : S.K (x+196) = 14 ∧ S.N (x+196) = 1) (h0 : R32 a0) (h : ∀ S', FS S' x n w tb len im vm ft → MD x S S' → ((A_mean n w a0).1 = 0 → S'.J (x+196) 0 = i2L (A_mean n w a0).2) → Q (.inl (some (vI (A_mean n w a0).1))) S') : Mw hL_mean yL_mean d [vA x, vI a0, vA (x+196)] S Q := by
  obtain ⟨dd, rfl⟩ : ∃ e, d = e + 1 := ⟨d - 1, by omega⟩
  refine ML_mean ?_
  unfold VL_mean_0
  exact ⟨hF.1.1.1, q_mean (by omega) hF.1 h0 (fun S' C' J' => hx1 cd_mean (hfin ho (hF.j J' C') (J'.g.md (Nat.le_refl _)) h))⟩
theorem cd_where {n : Nat} {w : Nat → Int} {a0 a1 : Int} : (A_where n w a0 a1).1 = 0 ∨ (A_where n w a0 a1).1 = 1 := by
  unfold A_where
  split <;> first | exact Or.inl rfl | exact Or.inr (rfl) | (split <;> first | exact Or.inl rfl | exact Or.inr (rfl) | (split <;> first | exact Or.inl rfl | exact Or.inr (rfl)))
theorem l_where {d x n len : Nat} {w vm : Nat → Int} {tb : Nat → Nat} {im ft : Int} {a0 a1 : Int} {S : MS} {Q : Out → MS → Prop} (hd : 44 ≤ d) (hF : FS S x n w tb len im vm ft) (ho : S.K (x+196) = 14 ∧ S.N (x+196) = 1) (h0 : R32 a0) (h1 : R32 a1) (h : ∀ S', FS S' x n w tb len im vm ft → MD x S S' → ((A_where n w a0 a1).1 = 0 → S'.J (x+196) 0 = i2L (A_where n w a0 a1).2) → Q (.inl (some (vI (A_where n w a0 a1).1))) S') : Mw hL_where yL_where d [vA x, vI a0, vI a1, vA (x+196)] S Q := by
  obtain ⟨dd, rfl⟩ : ∃ e, d = e + 1 := ⟨d - 1, by omega⟩
  refine ML_where ?_
  unfold VL_where_0
  exact ⟨hF.1.1.1, q_where (by omega) hF.1 h0 h1 (fun S' C' J' => hx1 cd_where (hfin ho (hF.j J' C') (J'.g.md (Nat.le_refl _)) h))⟩
theorem cd_tree {n : Nat} {len : Nat} {tb : Nat → Nat} {w : Nat → Int} {a0 a1 : Int} : (A_tree n w tb len a0 a1).1 = 0 ∨ (A_tree n w tb len a0 a1).1 = 1 ∨ (A_tree n w tb len a0 a1).1 = 2 := by
  unfold A_tree
  split <;> first | exact Or.inl rfl | exact Or.inr (Or.inl rfl) | exact Or.inr (Or.inr (rfl)) | (split <;> first | exact Or.inl rfl | exact Or.inr (Or.inl rfl) | exact Or.inr (Or.inr (rfl)) | (split <;> first | exact Or.inl rfl | exact Or.inr (Or.inl rfl) | exact Or.inr (Or.inr (rfl))))
theorem l_tree {d x n len : Nat} {w vm : Nat → Int} {tb : Nat → Nat} {im ft : Int} {a0 a1 : Int} {S : MS} {Q : Out → MS → Prop} (hd : 10 ≤ d) (hF : FS S x n w tb len im vm ft) (ho : S.K (x+196) = 14 ∧ S.N (x+196) = 1) (h0 : R32 a0) (h1 : B01 a1) (h : ∀ S', FS S' x n w tb 0 im vm ft → MD x S S' → ((A_tree n w tb len a0 a1).1 = 0 → S'.J (x+196) 0 = i2L (A_tree n w tb len a0 a1).2) → Q (.inl (some (vI (A_tree n w tb len a0 a1).1))) S') : Mw hL_tree yL_tree d [vA x, vI a0, vI a1, vA (x+196)] S Q := by
  obtain ⟨dd, rfl⟩ : ∃ e, d = e + 1 := ⟨d - 1, by omega⟩
  refine ML_tree ?_
  unfold VL_tree_0
  exact ⟨hF.1.1.1, q_tree (by omega) hF.1 hF.2.1 h0 h1 (fun S' C' J' => hx2 cd_tree (hfin ho (hF.jt J' C').1 ((hF.jt J' C').2.md (Nat.le_refl _)) h))⟩
theorem cd_stands {n : Nat} {w : Nat → Int} {a0 a1 : Int} : (A_stands n w a0 a1).1 = 0 ∨ (A_stands n w a0 a1).1 = 1 := by
  unfold A_stands
  split <;> first | exact Or.inl rfl | exact Or.inr (rfl) | (split <;> first | exact Or.inl rfl | exact Or.inr (rfl) | (split <;> first | exact Or.inl rfl | exact Or.inr (rfl)))
theorem l_stands {d x n len : Nat} {w vm : Nat → Int} {tb : Nat → Nat} {im ft : Int} {a0 a1 : Int} {S : MS} {Q : Out → MS → Prop} (hd : 10 ≤ d) (hF : FS S x n w tb len im vm ft) (ho : S.K (x+196) = 14 ∧ S.N (x+196) = 1) (h0 : R32 a0) (h1 : B01 a1) (h : ∀ S', FS S' x n w tb len im vm ft → MD x S S' → ((A_stands n w a0 a1).1 = 0 → S'.J (x+196) 0 = i2L (A_stands n w a0 a1).2) → Q (.inl (some (vI (A_stands n w a0 a1).1))) S') : Mw hL_stands yL_stands d [vA x, vI a0, vI a1, vA (x+196)] S Q := by
  obtain ⟨dd, rfl⟩ : ∃ e, d = e + 1 := ⟨d - 1, by omega⟩
  refine ML_stands ?_
  unfold VL_stands_0
  exact ⟨hF.1.1.1, q_stands (by omega) hF.1 h0 h1 (fun S' C' J' => hx1 cd_stands (hfin ho (hF.j J' C') (J'.g.md (Nat.le_refl _)) h))⟩
theorem cd_laid {n : Nat} {w : Nat → Int} {a0 a1 : Int} : (A_laid n w a0 a1).1 = 0 ∨ (A_laid n w a0 a1).1 = 1 := by
  unfold A_laid
  split <;> first | exact Or.inl rfl | exact Or.inr (rfl) | (split <;> first | exact Or.inl rfl | exact Or.inr (rfl) | (split <;> first | exact Or.inl rfl | exact Or.inr (rfl)))
theorem l_laid {d x n len : Nat} {w vm : Nat → Int} {tb : Nat → Nat} {im ft : Int} {a0 a1 : Int} {S : MS} {Q : Out → MS → Prop} (hd : 8 ≤ d) (hF : FS S x n w tb len im vm ft) (ho : S.K (x+196) = 14 ∧ S.N (x+196) = 1) (h0 : R32 a0) (h1 : B01 a1) (h : ∀ S', FS S' x n w tb len im vm ft → MD x S S' → ((A_laid n w a0 a1).1 = 0 → S'.J (x+196) 0 = i2L (A_laid n w a0 a1).2) → Q (.inl (some (vI (A_laid n w a0 a1).1))) S') : Mw hL_laid yL_laid d [vA x, vI a0, vI a1, vA (x+196)] S Q := by
  obtain ⟨dd, rfl⟩ : ∃ e, d = e + 1 := ⟨d - 1, by omega⟩
  refine ML_laid ?_
  unfold VL_laid_0
  exact ⟨hF.1.1.1, q_laid (by omega) hF.1 h0 h1 (fun S' C' J' => hx1 cd_laid (hfin ho (hF.j J' C') (J'.g.md (Nat.le_refl _)) h))⟩
theorem l_things {d x n len : Nat} {w vm : Nat → Int} {tb : Nat → Nat} {im ft a0 : Int} {S : MS} {Q : Out → MS → Prop} (hd : 7 ≤ d) (hF : FS S x n w tb len im vm ft) (h0 : R32 a0) (h : ∀ S' n', FS S' x n' (U_things w a0) tb len im vm ft → MD x S S' → Q (.inl (some (vI (A_things w a0)))) S') : Mw hL_things yL_things d [vA x, vI a0] S Q := by
  obtain ⟨dd, rfl⟩ : ∃ e, d = e + 1 := ⟨d - 1, by omega⟩
  refine ML_things ?_
  unfold VL_things_0
  refine ⟨hF.1.1.1, q_things (by omega) hF.1 h0 (fun z S' C' J' => xV_i ?_) (fun z S' C' J' => xV_x (Or.inl ⟨rfl, ?_⟩)) (fun z S' C' J' => xV_x (Or.inr ⟨rfl, ?_⟩))⟩
  · have e : U_things w a0 = W_things w a0.toNat := by unfold U_things; rw [z]; exact if_pos rfl
    have := h S' a0.toNat (by rw [e]; exact hF.st J' C') (J'.md (by omega))
    rw [z] at this
    exact this
  · have e : U_things w a0 = w := by unfold U_things; rw [z]; exact if_neg (by decide)
    have := h S' n (by rw [e]; exact hF.st J' C') (J'.md (by omega))
    rw [z] at this
    exact this
  · have e : U_things w a0 = w := by unfold U_things; rw [z]; exact if_neg (by decide)
    have := h S' n (by rw [e]; exact hF.st J' C') (J'.md (by omega))
    rw [z] at this
    exact this
theorem l_grown {d x n len : Nat} {w vm : Nat → Int} {tb : Nat → Nat} {im ft t : Int} {S : MS} {Q : Out → MS → Prop} (hd : 8 ≤ d) (hF : FS S x n w tb len im vm ft) (ho : S.K (x+196) = 14 ∧ S.N (x+196) = 1) (ht : R32 t) (h0 : (0 ≤ t ∧ t < (n : Int)) → ∀ S' u, FS S' x n u tb len im vm ft → MD x S S' → GW n u → SmHd w u → ntL u = (ntL w).filter (ntK t.toNat) → S'.J (x+196) 0 = i2L (((ntL w).length : Int) - ((ntL w).filter (ntK t.toNat)).length) → Q (.inl (some (vI 0))) S') (h1 : ¬ (0 ≤ t ∧ t < (n : Int)) → ∀ S', FS S' x n w tb len im vm ft → MD x S S' → Q (.inl (some (vI 1))) S') : Mw hL_grown yL_grown d [vA x, vI t, vA (x+196)] S Q := by
  obtain ⟨dd, rfl⟩ : ∃ e, d = e + 1 := ⟨d - 1, by omega⟩
  refine ML_grown ?_
  unfold VL_grown_0
  refine ⟨hF.1.1.1, q_grown (by omega) hF.1 ht (fun c S' u C' J' g1 g2 g3 => xI_i ⟨⟨?_, by decide, ?_⟩, ?_⟩) (fun c S' C' J' => xI_x ⟨rfl, h1 c S' (hF.st J' C') (J'.md (by omega))⟩)⟩
  · rw [((J'.md (by omega)).2.1 (x+196) (by omega)).1]; exact ho.1
  · rw [((J'.md (by omega)).2.1 (x+196) (by omega)).2, ho.2]; decide
  · exact h0 c _ u (hF.st J' C').sJ (J'.md (by omega)).sJ g1 g2 g3 (by rw [sJ_J, if_pos ⟨rfl, rfl⟩])
theorem l_shed {d x n len : Nat} {w u vm : Nat → Int} {tb : Nat → Nat} {im ft : Int} {S : MS} {Q : Out → MS → Prop} (hd : 12 ≤ d) (h : FS S x n w tb len im vm ft) (ho : S.K (x+196) = 14 ∧ S.N (x+196) = 1) (hu : ∀ q, q < 71 → u q = w q)
    (h1 : ∀ g : Nat, pText tb len u = .inl g → ∀ S', FS S' x n w tb 0 im vm (g : Int) → MD x S S' → Q (.inl (some (vI 1))) S')
    (h2 : ∀ w', pText tb len u = .inr w' → w 3 = 8 → ∀ S', FS S' x n w tb 0 im vm (-1) → MD x S S' → Q (.inl (some (vI 2))) S')
    (h0 : ∀ w' n', pText tb len u = .inr w' → w 3 ≠ 8 → ∀ S', FS S' x n' (upW w' 3 (w 3 + 1)) tb 0 im vm (-1) → MD x S S' → S'.J (x+196) 0 = i2L (w 3 + 1) → Q (.inl (some (vI 0))) S') : Mw hL_shed yL_shed d [vA x, vA (x+196)] S Q := by
  obtain ⟨dd, rfl⟩ : ∃ e, d = e + 1 := ⟨d - 1, by omega⟩
  refine ML_shed ?_
  unfold VL_shed_0
  refine ⟨h.1.1.1, q_shed (by omega) h hu (fun g e S' F' G' => xI_x (Or.inl ⟨rfl, h1 g e S' F' (G'.md (Nat.le_refl _))⟩)) (fun w' e z S' F' G' => xI_x (Or.inr ⟨rfl, h2 w' e z S' F' (G'.md (Nat.le_refl _))⟩)) (fun w' n' e z S' F' G' => xI_i ⟨⟨?_, by decide, ?_⟩, ?_⟩)⟩
  · rw [((G'.md (Nat.le_refl _)).2.1 (x+196) (by omega)).1]; exact ho.1
  · rw [((G'.md (Nat.le_refl _)).2.1 (x+196) (by omega)).2, ho.2]; decide
  · exact h0 w' n' e z _ F'.sJ (G'.md (Nat.le_refl _)).sJ (by rw [sJ_J, if_pos ⟨rfl, rfl⟩])
