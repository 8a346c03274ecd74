/-! class and reference side by side -/
noncomputable def nm (a : Int) : Int := (Int32.ofInt a).toInt
theorem vI_nm (a : Int) : vI (nm a) = vI a := by
  show Value.int (Int32.ofInt (Int32.ofInt a).toInt) = _
  rw [Int32.ofInt_toInt]
theorem r32_nm (a : Int) : R32 (nm a) := ⟨Int32.le_toInt _, Int32.toInt_lt _⟩
theorem i2L_nm (a : Int) : i2L (nm a) = i2L a := by
  unfold i2L nm
  rw [Int32.ofInt_toInt]
theorem nm_eq {a : Int} (h : R32 a) : nm a = a := r32_to h
theorem oI_nm {P : Int → MS → Prop} {S : MS} {r : Int} (h : P (nm r) S) : oI P (.inl (some (vI r))) S := by
  rw [← vI_nm r]
  exact oI_i h
theorem xI_nm {P : Int → MS → Prop} {X : String → MS → Prop} {S : MS} {r : Int} (h : P (nm r) S) : xI P X (.inl (some (vI r))) S := by
  rw [← vI_nm r]
  exact xI_i h
/-- the class's call leaves the reference be -/
def MD (x : Nat) (S S' : MS) : Prop := S'.T = S.T ∧ (∀ a, a < x + 197 → S'.K a = S.K a ∧ S'.N a = S.N a) ∧ (∀ a, x + 176 ≤ a → a < x + 196 → S'.I a = S.I a ∧ S'.J a = S.J a ∧ S'.R a = S.R a) ∧ S'.nx + 1000 * wn0 S' x ≤ S.nx + 1000 * wn0 S x + 1 ∧ S'.us + 100000 * wn0 S' x ≤ S.us + 100000 * wn0 S x + 6
theorem MD.rf {x : Nat} {S : MS} : MD x S S := ⟨rfl, fun _ _ => ⟨rfl, rfl⟩, fun _ _ _ => ⟨rfl, rfl, rfl⟩, by omega, by omega⟩
theorem CG.md {x e : Nat} {A B : Nat → Prop} {S S' : MS} (g : CG x A B e S S') (he : e ≤ 1) : MD x S S' := ⟨g.1, g.2.2.2.1, fun a h1 h2 => g.2.2.2.2.1 a h1 (by omega), by have := g.2.2.2.2.2.1; omega, by have := g.2.2.2.2.2.2; omega⟩
theorem MD.sJ {x k : Nat} {v : BitVec 64} {S S' : MS} (g : MD x S S') : MD x S (S'.setJ (x+196) k v) := ⟨g.1, g.2.1, fun a h1 h2 => ⟨(g.2.2.1 a h1 h2).1, by rw [sJ_Ja (by omega)]; exact (g.2.2.1 a h1 h2).2.1, (g.2.2.1 a h1 h2).2.2⟩, g.2.2.2.1, g.2.2.2.2⟩
theorem FS.sJ {x n len k : Nat} {u : BitVec 64} {w v : Nat → Int} {tb : Nat → Nat} {i f : Int} {S : MS} (h : FS S x n w tb len i v f) : FS (S.setJ (x+196) k u) x n w tb len i v f := h.mv (h.1.all rfl rfl rfl rfl (fun a ha => ⟨rfl, sJ_Ja (by omega)⟩) rfl) h.2.1 (fun _ _ _ => rfl) rfl rfl
theorem RLay.cg {m : Nat} {S S' : MS} (h : RLay S m) (e : ∀ a, m ≤ a → a < m + 20 → S'.K a = S.K a ∧ S'.N a = S.N a) (r : S'.R m = S.R m) : RLay S' m := by
  have k := fun a h1 h2 => (e a h1 h2).1
  have n := fun a h1 h2 => (e a h1 h2).2
  unfold RLay at h ⊢
  rw [r, k m (by omega) (by omega), k (m+1) (by omega) (by omega), k (m+2) (by omega) (by omega), k (m+3) (by omega) (by omega), k (m+4) (by omega) (by omega), k (m+5) (by omega) (by omega), k (m+6) (by omega) (by omega), k (m+7) (by omega) (by omega), k (m+8) (by omega) (by omega), k (m+9) (by omega) (by omega), k (m+10) (by omega) (by omega), k (m+11) (by omega) (by omega), k (m+12) (by omega) (by omega), k (m+13) (by omega) (by omega), k (m+14) (by omega) (by omega), k (m+15) (by omega) (by omega), k (m+16) (by omega) (by omega), k (m+17) (by omega) (by omega), k (m+18) (by omega) (by omega), k (m+19) (by omega) (by omega)]
  rw [n (m+1) (by omega) (by omega), n (m+2) (by omega) (by omega), n (m+3) (by omega) (by omega), n (m+4) (by omega) (by omega), n (m+5) (by omega) (by omega), n (m+6) (by omega) (by omega), n (m+7) (by omega) (by omega), n (m+8) (by omega) (by omega), n (m+9) (by omega) (by omega), n (m+10) (by omega) (by omega), n (m+11) (by omega) (by omega), n (m+12) (by omega) (by omega), n (m+13) (by omega) (by omega), n (m+14) (by omega) (by omega), n (m+15) (by omega) (by omega), n (m+16) (by omega) (by omega), n (m+17) (by omega) (by omega), n (m+18) (by omega) (by omega), n (m+19) (by omega) (by omega)]
  exact h
theorem RI.md {x n : Nat} {S S' : MS} (h : RI S (x+176) n) (g : MD x S S') : RI S' (x+176) n := by
  have e := fun a h1 h2 => (g.2.2.1 a h1 h2).1
  refine ⟨h.1.cg (fun a h1 h2 => g.2.1 a (by omega)) (g.2.2.1 (x+176) (by omega) (by omega)).2.2, by rw [e (x+176+1) (by omega) (by omega)]; exact h.2.1, ?_⟩
  have k := h.2.2
  unfold Tbl Tb at k ⊢
  rw [e (x+176) (by omega) (by omega), e (x+176+6) (by omega) (by omega)]
  exact k
theorem Tp.md {x len : Nat} {tb : Nat → Nat} {S S' : MS} (h : Tp S (x+176) tb len) (g : MD x S S') : Tp S' (x+176) tb len := by
  have e := fun a h1 h2 => (g.2.2.1 a h1 h2).1
  unfold Tp at h ⊢
  rw [e (x+176) (by omega) (by omega), e (x+176+4) (by omega) (by omega)]
  exact h
theorem FS.fr {x n len : Nat} {A B : List Nat} {w v : Nat → Int} {tb : Nat → Nat} {i f : Int} {S S' : MS} (h : FS S x n w tb len i v f) (g : Fr (x+176) A B S S') (hA : ∀ o ∈ A, o < 20) : FS S' x n w tb len i v f := by
  have e : ∀ a, a < x + 176 ∨ x + 196 ≤ a → S'.I a = S.I a := fun a ha => g.far hA (by omega)
  refine h.mv (h.1.all g.K g.N g.R g.nx (fun a ha => ⟨e a (by omega), by rw [g.J]⟩) (by rw [e x (by omega)])) (tw_I h.2.1 (by rw [e _ (by omega)]) (e _ (by omega))) (fun a _ _ => e a (by omega)) (by rw [e x (by omega)]) (by rw [e x (by omega)])
def CO (S : MS) (x : Nat) : Prop := ∃ n tb len, RI S (x+176) n ∧ Tp S (x+176) tb len ∧ FS S x n (S.I (x+176+1)) tb len (S.I (x+176) 4) (S.I (x+176+2)) (S.I (x+176) 10) ∧ (S.K (x+196) = 14 ∧ S.N (x+196) = 1)
def LSt (x : Nat) (S S' : MS) : Prop := S'.T = S.T ∧ S'.nx + 1000 * wn0 S' x ≤ S.nx + 1000 * wn0 S x + 1 ∧ S'.us + 100000 * wn0 S' x ≤ S.us + 100000 * wn0 S x + 6
theorem co_end {x n len : Nat} {A B : List Nat} {tb : Nat → Nat} {S S1 S2 : MS} (hR : RI S2 (x+176) n) (hT : Tp S2 (x+176) tb len) (hF : FS S1 x n (S2.I (x+176+1)) tb len (S2.I (x+176) 4) (S2.I (x+176+2)) (S2.I (x+176) 10)) (hM : MD x S S1) (f : Fr (x+176) A B S1 S2) (hA : ∀ o ∈ A, o < 20) (ho : S.K (x+196) = 14 ∧ S.N (x+196) = 1) : CO S2 x ∧ LSt x S S2 := by
  refine ⟨⟨n, tb, len, hR, hT, hF.fr f hA, by rw [f.K, (hM.2.1 (x+196) (by omega)).1]; exact ho.1, by rw [f.N, (hM.2.1 (x+196) (by omega)).2]; exact ho.2⟩, by rw [f.T]; exact hM.1, ?_, ?_⟩
  · have e : wn0 S2 x = wn0 S1 x := by unfold wn0; rw [f.R]
    rw [e, f.nx]; exact hM.2.2.2.1
  · have e : wn0 S2 x = wn0 S1 x := by unfold wn0; rw [f.R]
    rw [e, f.us]; exact hM.2.2.2.2
theorem A0_20 : ∀ o ∈ A0, o < 20 := by decide
theorem A1_20 : ∀ o ∈ 1 :: A0, o < 20 := by decide
theorem co_q {x n len : Nat} {tb : Nat → Nat} {S S1 S2 : MS} (hI : RI S (x+176) n) (hP : Tp S (x+176) tb len) (ho : S.K (x+196) = 14 ∧ S.N (x+196) = 1) (hF : FS S1 x n (S.I (x+176+1)) tb len (S.I (x+176) 4) (S.I (x+176+2)) (S.I (x+176) 10)) (hM : MD x S S1) (q : RQ (x+176) S1 S2) : CO S2 x ∧ LSt x S S2 := by
  have e := fun a h1 h2 => (hM.2.2.1 a h1 h2).1
  refine co_end (q.ri (hI.md hM)) (tb := tb) (len := len) ?_ ?_ hM q.1 A0_20 ho
  · have := hP.md hM
    unfold Tp at this ⊢
    rw [q.1.fld (by decide), q.1.arr (by decide) (by decide)]
    exact this
  · rw [q.w, q.1.fld (k := 4) (by decide), q.1.fld (k := 10) (by decide), q.1.arr (o := 2) (by decide) (by decide), e (x+176+1) (by omega) (by omega), e (x+176) (by omega) (by omega), e (x+176+2) (by omega) (by omega)]
    exact hF
theorem co_t {x n len : Nat} {tb : Nat → Nat} {S S1 S2 : MS} (hI : RI S (x+176) n) (hP : Tp S (x+176) tb len) (ho : S.K (x+196) = 14 ∧ S.N (x+196) = 1) (hF : FS S1 x n (S.I (x+176+1)) tb 0 (S.I (x+176) 4) (S.I (x+176+2)) (S.I (x+176) 10)) (hM : MD x S S1) (q : RT (x+176) S1 S2) : CO S2 x ∧ LSt x S S2 := by
  have e := fun a h1 h2 => (hM.2.2.1 a h1 h2).1
  refine co_end (q.ri (hI.md hM)) (tb := tb) (len := 0) ⟨q.2.2, Nat.zero_le _, fun i hi => absurd hi (Nat.not_lt_zero i)⟩ ?_ hM q.1 A0_20 ho
  rw [q.w, q.1.fld (k := 4) (by decide), q.1.fld (k := 10) (by decide), q.1.arr (o := 2) (by decide) (by decide), e (x+176+1) (by omega) (by omega), e (x+176) (by omega) (by omega), e (x+176+2) (by omega) (by omega)]
  exact hF
theorem co_u {x n n' len : Nat} {tb : Nat → Nat} {w' : Nat → Int} {S S1 S2 : MS} (hI : RI S (x+176) n) (hP : Tp S (x+176) tb len) (ho : S.K (x+196) = 14 ∧ S.N (x+196) = 1) (hF : FS S1 x n' w' tb len (S.I (x+176) 4) (S.I (x+176+2)) (S.I (x+176) 10)) (hM : MD x S S1) (q : RU (x+176) S1 S2 w') : CO S2 x ∧ LSt x S S2 := by
  have e := fun a h1 h2 => (hM.2.2.1 a h1 h2).1
  refine co_end (n := n') ⟨q.1.lay (hI.md hM).1, by rw [q.2.2]; exact hF.1.2.1.2.2, q.2.1⟩ (tb := tb) (len := len) ?_ ?_ hM q.1 A1_20 ho
  · have := hP.md hM
    unfold Tp at this ⊢
    rw [q.1.fld (by decide), q.1.arr (by decide) (by decide)]
    exact this
  · rw [q.2.2, q.1.fld (k := 4) (by decide), q.1.fld (k := 10) (by decide), q.1.arr (o := 2) (by decide) (by decide), e (x+176) (by omega) (by omega), e (x+176+2) (by omega) (by omega)]
    exact hF
/-! a call that may throw -/
theorem hx1 {A : Int × Int} {a : String} {K : Int → MS → Prop} {Q : Out → MS → Prop} {S : MS} (hc : A.1 = 0 ∨ A.1 = 1) (h : (A.1 = 0 → K A.2 S) ∧ (A.1 ≠ 0 → Q (.inl (some (vI A.1))) S)) : xI K (fun E S9 => (E = a ∧ Q (.inl (some (vI 1))) S9)) (oR A [a]) S := by
  obtain ⟨c, v⟩ := A
  rcases hc with rfl | rfl
  · exact xI_i (h.1 rfl)
  · exact xI_x ⟨rfl, h.2 (by simp)⟩
theorem hx2 {A : Int × Int} {a b : String} {K : Int → MS → Prop} {Q : Out → MS → Prop} {S : MS} (hc : A.1 = 0 ∨ A.1 = 1 ∨ A.1 = 2) (h : (A.1 = 0 → K A.2 S) ∧ (A.1 ≠ 0 → Q (.inl (some (vI A.1))) S)) : xI K (fun E S9 => (E = a ∧ Q (.inl (some (vI 1))) S9) ∨ (E = b ∧ Q (.inl (some (vI 2))) S9)) (oR A [a, b]) S := by
  obtain ⟨c, v⟩ := A
  rcases hc with rfl | rfl | rfl
  · exact xI_i (h.1 rfl)
  · exact xI_x (Or.inl ⟨rfl, h.2 (by simp)⟩)
  · exact xI_x (Or.inr ⟨rfl, h.2 (by simp)⟩)
theorem hx3 {A : Int × Int} {a b c : String} {K : Int → MS → Prop} {Q : Out → MS → Prop} {S : MS} (hc : A.1 = 0 ∨ A.1 = 1 ∨ A.1 = 2 ∨ A.1 = 3) (h : (A.1 = 0 → K A.2 S) ∧ (A.1 ≠ 0 → Q (.inl (some (vI A.1))) S)) : xI K (fun E S9 => (E = a ∧ Q (.inl (some (vI 1))) S9) ∨ (E = b ∧ Q (.inl (some (vI 2))) S9) ∨ (E = c ∧ Q (.inl (some (vI 3))) S9)) (oR A [a, b, c]) S := by
  obtain ⟨e, v⟩ := A
  rcases hc with rfl | rfl | rfl | rfl
  · exact xI_i (h.1 rfl)
  · exact xI_x (Or.inl ⟨rfl, h.2 (by simp)⟩)
  · exact xI_x (Or.inr (Or.inl ⟨rfl, h.2 (by simp)⟩))
  · exact xI_x (Or.inr (Or.inr ⟨rfl, h.2 (by simp)⟩))
theorem hfin {x n len : Nat} {w v : Nat → Int} {tb : Nat → Nat} {i f : Int} {A : Int × Int} {S S' : MS} {Q : Out → MS → Prop} (ho : S.K (x+196) = 14 ∧ S.N (x+196) = 1) (hF : FS S' x n w tb len i v f) (hM : MD x S S') (h : ∀ S', FS S' x n w tb len i v f → MD x S S' → (A.1 = 0 → S'.J (x+196) 0 = i2L A.2) → Q (.inl (some (vI A.1))) S') : (A.1 = 0 → (S'.K (x+196) = 14 ∧ 0 ≤ (0 : Int) ∧ (0 : Int) < S'.N (x+196)) ∧ Q (.inl (some (vI 0))) (S'.setJ (x+196) ((0 : Int)).toNat (i2L A.2))) ∧ (A.1 ≠ 0 → Q (.inl (some (vI A.1))) S') := by
  refine ⟨fun z => ⟨⟨by rw [(hM.2.1 (x+196) (by omega)).1]; exact ho.1, by decide, by rw [(hM.2.1 (x+196) (by omega)).2, ho.2]; decide⟩, ?_⟩, fun z => h S' hF hM (fun y => absurd y z)⟩
  have := h (S'.setJ (x+196) 0 (i2L A.2)) hF.sJ hM.sJ (fun _ => by rw [sJ_J, if_pos ⟨rfl, rfl⟩])
  rw [z] at this
  exact this
def b2L (a : Int) : BitVec 64 := if a = 0 then 0#64 else 1#64
theorem hfinb {x n len : Nat} {w v : Nat → Int} {tb : Nat → Nat} {i f : Int} {A : Int × Int} {S S' : MS} {Q : Out → MS → Prop} (ho : S.K (x+196) = 14 ∧ S.N (x+196) = 1) (hF : FS S' x n w tb len i v f) (hM : MD x S S') (h : ∀ S', FS S' x n w tb len i v f → MD x S S' → (A.1 = 0 → S'.J (x+196) 0 = b2L (nm A.2)) → Q (.inl (some (vI A.1))) S') : (A.1 = 0 → ∀ u, u = b2L (nm A.2) → (S'.K (x+196) = 14 ∧ 0 ≤ (0 : Int) ∧ (0 : Int) < S'.N (x+196)) ∧ Q (.inl (some (vI 0))) (S'.setJ (x+196) ((0 : Int)).toNat u)) ∧ (A.1 ≠ 0 → Q (.inl (some (vI A.1))) S') := by
  refine ⟨fun z u hu => ⟨⟨by rw [(hM.2.1 (x+196) (by omega)).1]; exact ho.1, by decide, by rw [(hM.2.1 (x+196) (by omega)).2, ho.2]; decide⟩, ?_⟩, fun z => h S' hF hM (fun y => absurd y z)⟩
  have := h (S'.setJ (x+196) 0 u) hF.sJ hM.sJ (fun _ => by rw [sJ_J, if_pos ⟨rfl, rfl⟩, hu])
  rw [z] at this
  exact this
theorem hx1n {A : Int × Int} {a : String} {K : Int → MS → Prop} {Q : Out → MS → Prop} {S : MS} (hc : A.1 = 0 ∨ A.1 = 1) (h : (A.1 = 0 → K (nm A.2) S) ∧ (A.1 ≠ 0 → Q (.inl (some (vI A.1))) S)) : xI K (fun E S9 => (E = a ∧ Q (.inl (some (vI 1))) S9)) (oR A [a]) S := by
  obtain ⟨c, v⟩ := A
  rcases hc with rfl | rfl
  · exact xI_nm (h.1 rfl)
  · exact xI_x ⟨rfl, h.2 (by simp)⟩
theorem hx2n {A : Int × Int} {a b : String} {K : Int → MS → Prop} {Q : Out → MS → Prop} {S : MS} (hc : A.1 = 0 ∨ A.1 = 1 ∨ A.1 = 2) (h : (A.1 = 0 → K (nm A.2) S) ∧ (A.1 ≠ 0 → Q (.inl (some (vI A.1))) S)) : xI K (fun E S9 => (E = a ∧ Q (.inl (some (vI 1))) S9) ∨ (E = b ∧ Q (.inl (some (vI 2))) S9)) (oR A [a, b]) S := by
  obtain ⟨c, v⟩ := A
  rcases hc with rfl | rfl | rfl
  · exact xI_nm (h.1 rfl)
  · exact xI_x (Or.inl ⟨rfl, h.2 (by simp)⟩)
  · exact xI_x (Or.inr ⟨rfl, h.2 (by simp)⟩)
/-! the answers compared -/
theorem d_cmp {a : Int} {P W : Prop} (h : P) : (R32 (nm a) ∧ R32 (nm a)) ∧ ((nm a = nm a) → P) ∧ (¬ (nm a = nm a) → W) := ⟨⟨r32_nm a, r32_nm a⟩, fun _ => h, fun c => absurd rfl c⟩
theorem h_cmp {A : Int × Int} {c : Int} {o : Nat} {S : MS} {P W : Prop} (hc : c = A.1) (hA : R32 A.1) (hJ : A.1 = 0 → S.J o 0 = i2L A.2) (hK : S.K o = 14 ∧ S.N o = 1) (h : P) : (R32 (nm c) ∧ R32 (nm A.1)) ∧ ((nm c = nm A.1) → R32 (nm A.1) ∧ (¬ (nm A.1 = 0) → P) ∧ ((nm A.1 = 0) → (S.K o = 14 ∧ 0 ≤ (0 : Int) ∧ (0 : Int) < S.N o) ∧ (R32 (lCmp (S.J o ((0 : Int)).toNat) (i2L (nm A.2))) ∧ (((lCmp (S.J o ((0 : Int)).toNat) (i2L (nm A.2))) = 0) → P) ∧ (¬ ((lCmp (S.J o ((0 : Int)).toNat) (i2L (nm A.2))) = 0) → W)))) ∧ (¬ (nm c = nm A.1) → W) := by
  subst hc
  refine ⟨⟨r32_nm _, r32_nm _⟩, fun _ => ⟨r32_nm _, fun _ => h, fun z => ⟨⟨hK.1, by decide, by rw [hK.2]; decide⟩, lCmp_0.1, fun _ => h, fun y => absurd ?_ y⟩⟩, fun y => absurd rfl y⟩
  rw [nm_eq hA] at z
  rw [i2L_nm]
  exact lCmp_0.2.mpr (hJ z)
theorem h_cmpb {A : Int × Int} {c : Int} {o : Nat} {S : MS} {P W : Prop} (hc : c = A.1) (hA : R32 A.1) (hJ : A.1 = 0 → S.J o 0 = b2L (nm A.2)) (hK : S.K o = 14 ∧ S.N o = 1) (h : P) : (R32 (nm c) ∧ R32 (nm A.1)) ∧ ((nm c = nm A.1) → R32 (nm A.1) ∧ (¬ (nm A.1 = 0) → P) ∧ ((nm A.1 = 0) → (S.K o = 14 ∧ 0 ≤ (0 : Int) ∧ (0 : Int) < S.N o) ∧ (R32 (nm A.2) ∧ ((nm A.2 = 0) → (R32 (lCmp (S.J o ((0 : Int)).toNat) 0#64) ∧ (((lCmp (S.J o ((0 : Int)).toNat) 0#64) = 0) → P) ∧ (¬ ((lCmp (S.J o ((0 : Int)).toNat) 0#64) = 0) → W))) ∧ (¬ (nm A.2 = 0) → (R32 (lCmp (S.J o ((0 : Int)).toNat) 1#64) ∧ (((lCmp (S.J o ((0 : Int)).toNat) 1#64) = 0) → P) ∧ (¬ ((lCmp (S.J o ((0 : Int)).toNat) 1#64) = 0) → W)))))) ∧ (¬ (nm c = nm A.1) → W) := by
  subst hc
  refine ⟨⟨r32_nm _, r32_nm _⟩, fun _ => ⟨r32_nm _, fun _ => h, fun z => ⟨⟨hK.1, by decide, by rw [hK.2]; decide⟩, r32_nm _, fun z2 => ⟨lCmp_0.1, fun _ => h, fun y => absurd ?_ y⟩, fun z2 => ⟨lCmp_0.1, fun _ => h, fun y => absurd ?_ y⟩⟩⟩, fun y => absurd rfl y⟩
  · rw [nm_eq hA] at z
    have := hJ z
    unfold b2L at this
    rw [if_pos z2] at this
    exact lCmp_0.2.mpr this
  · rw [nm_eq hA] at z
    have := hJ z
    unfold b2L at this
    rw [if_neg z2] at this
    exact lCmp_0.2.mpr this
