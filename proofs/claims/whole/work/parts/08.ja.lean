theorem arr_i {S : MS} {a : Nat} (h : S.K a < 17) (h2 : S.K a ≠ 14) : S.arr a = (S.N a, .inl (fun j => Int32.ofInt (S.I a j))) := by simp [MS.arr, h, h2]
theorem arr_l {S : MS} {a : Nat} (h : S.K a = 14) : S.arr a = (S.N a, .inr (.inl (fun j => Int64.ofBitVec (S.J a j)))) := by simp [MS.arr, h]
theorem arr_q {S : MS} {a : Nat} (h : 17 ≤ S.K a) : S.arr a = (S.N a, .inr (.inr (.inr (.inr (S.R a))))) := by
  have h1 : ¬ S.K a = 14 := by omega
  have h2 : ¬ S.K a < 17 := by omega
  simp [MS.arr, h1, h2]
theorem Rep.arr {D : va_G} {b0 : Nat} {S : MS} {U : State} {H : Heap} {a : Nat} (h : Rep D b0 S U H) (h1 : 12 ≤ S.K a) (h2 : S.K a < 21) : ∃ cA, (ArrOfT U cA (ety (S.K a)) ∧ va_RA U cA (ety (S.K a))) ∧ H[a]? = some (vp_cell cA (S.arr a)) := (h.2.2 a h2).2.2.2.2 h1
theorem Rep.ws {D : va_G} {H : Heap} {a : Nat} {cA : ClassId} {A : vp_A} (h : H[a]? = some (vp_cell cA A)) : va_P D vwCl [(a, .inl (cA, A))] H := by
  intro k q hq
  match k, hq with
  | 0, hq => cases hq; exact h
theorem va_K.ty1 {D : va_G} {U : State} (h : va_K D vwCl [] U) {cA : ClassId} {t : FieldType} (ht : ArrOfT U cA t ∧ va_RA U cA t) : va_K D vwCl [(cA, t)] U := by
  refine ⟨h.1, fun k q hq => ?_⟩
  match k, hq with
  | 0, hq => cases hq; exact ht
section JA
variable {Fz : FinT} {own : String} {cc : ByteArray} {nL : Nat} {ret : Option FieldType} {hh : List (Nat × Nat × Nat × Nat)} {y : MethodName} {d : Nat} {S0 S : MS} {pc : Nat} {lv : List (Nat × Value)} {st : List Value} {Q : Out → MS → Prop}
theorem j_alen {a : Nat} {P : Prop} (hd : decode cc pc = .ok (.arraylength, 1)) (h : (12 ≤ S.K a ∧ S.K a < 21) ∧ P) (k : P → Jw Fz own cc nL ret hh y d S0 S (pc + 1) lv (vI (S.N a) :: st) Q) : Jw Fz own cc nL ret hh y d S0 S pc lv (vA a :: st) Q := by
  refine j_rd (fun hx hb ho ht hK hR w => ?_) (k h.2)
  obtain ⟨cA, q1, q2⟩ := hR.arr h.1.1 h.1.2
  refine va_alen hx hb (hK.ty1 q1) (Rep.ws q2) 0 0 rfl rfl (v := Int32.ofInt (S.N a)) ?_ hd w
  have e : (S.arr a).1 = S.N a := by unfold MS.arr; repeat' split <;> try rfl
  rw [e, Int32.ofInt_eq_ofNat]
theorem j_iald {a : Nat} {i : Int} {P : Prop} (hd : decode cc pc = .ok (.iaload, 1)) (h : (S.K a = 13 ∧ 0 ≤ i ∧ i < S.N a) ∧ P) (k : P → Jw Fz own cc nL ret hh y d S0 S (pc + 1) lv (vI (S.I a i.toNat) :: st) Q) : Jw Fz own cc nL ret hh y d S0 S pc lv (vI i :: vA a :: st) Q := by
  obtain ⟨⟨h1, h2, h3⟩, h4⟩ := h
  refine j_rd (fun hx hb ho ht hK hR w => ?_) (k h4)
  obtain ⟨cA, q1, q2⟩ := hR.arr (a := a) (by omega) (by omega)
  rw [arr_i (by omega) (by omega)] at q2
  rw [h1] at q1
  obtain ⟨g1, g2, g3⟩ := r32_in (hR.2.2 a (by omega)).2.2.1 h2 h3
  refine va_iald hx hb (hK.ty1 q1) (Rep.ws q2) 0 0 rfl rfl g2 hd ?_
  rw [g3]; exact w
theorem j_bald {a : Nat} {i : Int} {P : Prop} (hd : decode cc pc = .ok (.baload, 1)) (h : (S.K a = 12 ∧ 0 ≤ i ∧ i < S.N a) ∧ P) (k : P → Jw Fz own cc nL ret hh y d S0 S (pc + 1) lv (vI (S.I a i.toNat) :: st) Q) : Jw Fz own cc nL ret hh y d S0 S pc lv (vI i :: vA a :: st) Q := by
  obtain ⟨⟨h1, h2, h3⟩, h4⟩ := h
  refine j_rd (fun hx hb ho ht hK hR w => ?_) (k h4)
  obtain ⟨cA, q1, q2⟩ := hR.arr (a := a) (by omega) (by omega)
  rw [arr_i (by omega) (by omega)] at q2
  rw [h1] at q1
  obtain ⟨g1, g2, g3⟩ := r32_in (hR.2.2 a (by omega)).2.2.1 h2 h3
  refine va_bald hx hb (hK.ty1 q1) (Rep.ws q2) 0 0 rfl rfl g2 hd ?_
  rw [g3]; exact w
theorem j_zald {a : Nat} {i : Int} {P : Prop} (hd : decode cc pc = .ok (.baload, 1)) (h : (S.K a = 16 ∧ 0 ≤ i ∧ i < S.N a) ∧ P) (k : P → Jw Fz own cc nL ret hh y d S0 S (pc + 1) lv (vI (S.I a i.toNat) :: st) Q) : Jw Fz own cc nL ret hh y d S0 S pc lv (vI i :: vA a :: st) Q := by
  obtain ⟨⟨h1, h2, h3⟩, h4⟩ := h
  refine j_rd (fun hx hb ho ht hK hR w => ?_) (k h4)
  obtain ⟨cA, q1, q2⟩ := hR.arr (a := a) (by omega) (by omega)
  rw [arr_i (by omega) (by omega)] at q2
  rw [h1] at q1
  obtain ⟨g1, g2, g3⟩ := r32_in (hR.2.2 a (by omega)).2.2.1 h2 h3
  refine va_zald hx hb (hK.ty1 q1) (Rep.ws q2) 0 0 rfl rfl g2 hd ?_
  rw [g3]; exact w
theorem j_sald {a : Nat} {i : Int} {P : Prop} (hd : decode cc pc = .ok (.saload, 1)) (h : (S.K a = 15 ∧ 0 ≤ i ∧ i < S.N a) ∧ P) (k : P → Jw Fz own cc nL ret hh y d S0 S (pc + 1) lv (vI (S.I a i.toNat) :: st) Q) : Jw Fz own cc nL ret hh y d S0 S pc lv (vI i :: vA a :: st) Q := by
  obtain ⟨⟨h1, h2, h3⟩, h4⟩ := h
  refine j_rd (fun hx hb ho ht hK hR w => ?_) (k h4)
  obtain ⟨cA, q1, q2⟩ := hR.arr (a := a) (by omega) (by omega)
  rw [arr_i (by omega) (by omega)] at q2
  rw [h1] at q1
  obtain ⟨g1, g2, g3⟩ := r32_in (hR.2.2 a (by omega)).2.2.1 h2 h3
  refine va_sald hx hb (hK.ty1 q1) (Rep.ws q2) 0 0 rfl rfl g2 hd ?_
  rw [g3]; exact w
theorem j_lald {a : Nat} {i : Int} {P : Prop} (hd : decode cc pc = .ok (.laload, 1)) (h : (S.K a = 14 ∧ 0 ≤ i ∧ i < S.N a) ∧ P) (k : P → Jw Fz own cc nL ret hh y d S0 S (pc + 1) lv (vL (S.J a i.toNat) :: st) Q) : Jw Fz own cc nL ret hh y d S0 S pc lv (vI i :: vA a :: st) Q := by
  obtain ⟨⟨h1, h2, h3⟩, h4⟩ := h
  refine j_rd (fun hx hb ho ht hK hR w => ?_) (k h4)
  obtain ⟨cA, q1, q2⟩ := hR.arr (a := a) (by omega) (by omega)
  rw [arr_l h1] at q2
  rw [h1] at q1
  obtain ⟨g1, g2, g3⟩ := r32_in (hR.2.2 a (by omega)).2.2.1 h2 h3
  refine va_lald hx hb (hK.ty1 q1) (Rep.ws q2) 0 0 rfl rfl g2 hd ?_
  rw [g3]; exact w
theorem j_aald {a : Nat} {i : Int} (kd : Nat) {P : Nat → Prop} (hd : decode cc pc = .ok (.aaload, 1)) (h : (S.K a = kd ∧ (17 ≤ kd ∧ kd < 21) ∧ 0 ≤ i ∧ i < S.N a) ∧ ∃ b, S.R a i.toNat = some b ∧ P b) (k : ∀ b, P b → Jw Fz own cc nL ret hh y d S0 S (pc + 1) lv (vA b :: st) Q) : Jw Fz own cc nL ret hh y d S0 S pc lv (vI i :: vA a :: st) Q := by
  obtain ⟨⟨h1, hkd, h2, h3⟩, b, h4, h5⟩ := h
  refine j_rd (fun hx hb ho ht hK hR w => ?_) (k b h5)
  obtain ⟨cA, q1, q2⟩ := hR.arr (a := a) (by omega) (by omega)
  rw [arr_q (by omega)] at q2
  obtain ⟨g1, g2, g3⟩ := r32_in (hR.2.2 a (by omega)).2.2.1 h2 h3
  have hlt : (Int32.ofInt i).toNatClampNeg < S.N a := Nat.not_le.mp fun q => g2 (Or.inr q)
  refine W.aald (v := vA b) (ty := ety (S.K a)) hx hb q2 (q1.1 (S.N a) (fun j => va_rf (S.R a j))) (by rcases (show S.K a = 17 ∨ S.K a = 18 ∨ S.K a = 19 ∨ S.K a = 20 by omega) with q | q | q | q <;> rw [q] <;> rfl) (fun q => by cases q) (by show ¬ (_ ∨ (arrV _ _ _).slots.size ≤ _); rw [arrV_size]; exact g2) ?_ rfl rfl hd w
  show (arrV _ _ _).slots[_]? = _
  rw [arrV_read _ _ hlt, g3, h4]; rfl
theorem j_aaldN {a : Nat} {i : Int} (kd : Nat) {P : Prop} {P2 : Nat → Prop} {off : Int} {tgt : Nat} (hd : decode cc pc = .ok (.aaload, 1)) (hd2 : decode cc (pc + 1) = .ok (.ifnonnull off, 3)) (ht2 : ((pc + 1 : Nat) : Int) + off = (tgt : Int)) (h : (S.K a = kd ∧ (17 ≤ kd ∧ kd < 21) ∧ 0 ≤ i ∧ i < S.N a) ∧ (S.R a i.toNat = none → P) ∧ (∀ b, S.R a i.toNat = some b → P2 b)) (k : P → Jw Fz own cc nL ret hh y d S0 S (pc + 4) lv st Q) (k2 : ∀ b, P2 b → Jw Fz own cc nL ret hh y d S0 S tgt lv st Q) : Jw Fz own cc nL ret hh y d S0 S pc lv (vI i :: vA a :: st) Q := by
  obtain ⟨⟨h1, hkd, h2, h3⟩, h4, h5⟩ := h
  cases hr : S.R a i.toNat with
  | none =>
    refine j_rd (fun hx hb ho ht hK hR w => ?_) (k (h4 hr))
    obtain ⟨cA, q1, q2⟩ := hR.arr (a := a) (by omega) (by omega)
    rw [arr_q (by omega)] at q2
    obtain ⟨g1, g2, g3⟩ := r32_in (hR.2.2 a (by omega)).2.2.1 h2 h3
    have hlt : (Int32.ofInt i).toNatClampNeg < S.N a := Nat.not_le.mp fun q => g2 (Or.inr q)
    refine W.aald (v := .null) (ty := ety (S.K a)) hx hb q2 (q1.1 (S.N a) (fun j => va_rf (S.R a j))) (by rcases (show S.K a = 17 ∨ S.K a = 18 ∨ S.K a = 19 ∨ S.K a = 20 by omega) with q | q | q | q <;> rw [q] <;> rfl) (fun q => by cases q) (by show ¬ (_ ∨ (arrV _ _ _).slots.size ≤ _); rw [arrV_size]; exact g2) ?_ rfl rfl hd (lv_ifnonnullN hx hb hd2 w)
    show (arrV _ _ _).slots[_]? = _
    rw [arrV_read _ _ hlt, g3, hr]; rfl
  | some b =>
    refine j_rd (fun hx hb ho ht hK hR w => ?_) (k2 b (h5 b hr))
    obtain ⟨cA, q1, q2⟩ := hR.arr (a := a) (by omega) (by omega)
    rw [arr_q (by omega)] at q2
    obtain ⟨g1, g2, g3⟩ := r32_in (hR.2.2 a (by omega)).2.2.1 h2 h3
    have hlt : (Int32.ofInt i).toNatClampNeg < S.N a := Nat.not_le.mp fun q => g2 (Or.inr q)
    refine W.aald (v := vA b) (ty := ety (S.K a)) hx hb q2 (q1.1 (S.N a) (fun j => va_rf (S.R a j))) (by rcases (show S.K a = 17 ∨ S.K a = 18 ∨ S.K a = 19 ∨ S.K a = 20 by omega) with q | q | q | q <;> rw [q] <;> rfl) (fun q => by cases q) (by show ¬ (_ ∨ (arrV _ _ _).slots.size ≤ _); rw [arrV_size]; exact g2) ?_ rfl rfl hd (lv_ifnonnull hx hb hd2 ht2 w)
    show (arrV _ _ _).slots[_]? = _
    rw [arrV_read _ _ hlt, g3, hr]; rfl
theorem j_iast {a : Nat} {i x : Int} {P : Prop} (hd : decode cc pc = .ok (.iastore, 1)) (h : (S.K a = 13 ∧ 0 ≤ i ∧ i < S.N a) ∧ P) (k : P → Jw Fz own cc nL ret hh y d S0 (S.setI a i.toNat (x)) (pc + 1) lv st Q) : Jw Fz own cc nL ret hh y d S0 S pc lv (vI x :: vI i :: vA a :: st) Q := by
  obtain ⟨⟨h1, h2, h3⟩, h4⟩ := h
  refine j_wr (S1 := S.setI a i.toNat (x)) (a := a) (by omega) ⟨Nat.le_refl _, Nat.le_refl _, rfl⟩ ⟨rfl, rfl⟩ (fun hx hb ho ht hK _ hR w => ?_) (k h4)
  obtain ⟨cA, q1, q2⟩ := hR.arr (a := a) (by omega) (by omega)
  rw [arr_i (by omega) (by omega)] at q2
  rw [h1] at q1
  obtain ⟨g1, g2, g3⟩ := r32_in (hR.2.2 a (by omega)).2.2.1 h2 h3
  refine W.iast hx hb q2 (q1.1 (S.N a) (fun j => .int (Int32.ofInt (S.I a j)))) (fun q => by cases q) (by show ¬ (_ ∨ (arrV _ _ _).slots.size ≤ _); rw [arrV_size]; exact g2) rfl rfl hd fun H1 e z oq => w H1 _ z oq ?_
  refine hR.put z oq rfl rfl rfl ot_setI (fun _ => ⟨fun h7 => ?_, fun _ => ⟨cA, ?_, ?_⟩⟩)
  · have h7 : S.K a < 12 := h7
    omega
  · show ArrOfT _ cA (ety (S.K a)) ∧ va_RA _ cA (ety (S.K a))
    rw [h1]; exact q1
  · rw [e, arr_i (S := S.setI a i.toNat (x)) (a := a) (show S.K a < 17 by omega) (show S.K a ≠ 14 by omega), vp_cell_i, vp_cell_i, arrV_store]
    refine congrArg some (congrArg (arrV cA (S.N a)) (funext fun q => ?_))
    show updV _ _ _ q = Value.int (Int32.ofInt (up2 S.I a i.toNat (x) a q))
    rw [g3]
    by_cases hq : q = i.toNat
    · subst hq
      simp [updV, up2, up1]
    · simp [updV, up2, up1, hq]
theorem j_bast {a : Nat} {i x : Int} {P : Prop} (hd : decode cc pc = .ok (.bastore, 1)) (h : (S.K a = 12 ∧ 0 ≤ i ∧ i < S.N a) ∧ P) (k : P → Jw Fz own cc nL ret hh y d S0 (S.setI a i.toNat (i2B x)) (pc + 1) lv st Q) : Jw Fz own cc nL ret hh y d S0 S pc lv (vI x :: vI i :: vA a :: st) Q := by
  obtain ⟨⟨h1, h2, h3⟩, h4⟩ := h
  refine j_wr (S1 := S.setI a i.toNat (i2B x)) (a := a) (by omega) ⟨Nat.le_refl _, Nat.le_refl _, rfl⟩ ⟨rfl, rfl⟩ (fun hx hb ho ht hK _ hR w => ?_) (k h4)
  obtain ⟨cA, q1, q2⟩ := hR.arr (a := a) (by omega) (by omega)
  rw [arr_i (by omega) (by omega)] at q2
  rw [h1] at q1
  obtain ⟨g1, g2, g3⟩ := r32_in (hR.2.2 a (by omega)).2.2.1 h2 h3
  refine W.bast hx hb q2 (q1.1 (S.N a) (fun j => .int (Int32.ofInt (S.I a j)))) (fun q => by cases q) (by show ¬ (_ ∨ (arrV _ _ _).slots.size ≤ _); rw [arrV_size]; exact g2) rfl rfl hd fun H1 e z oq => w H1 _ z oq ?_
  refine hR.put z oq rfl rfl rfl ot_setI (fun _ => ⟨fun h7 => ?_, fun _ => ⟨cA, ?_, ?_⟩⟩)
  · have h7 : S.K a < 12 := h7
    omega
  · show ArrOfT _ cA (ety (S.K a)) ∧ va_RA _ cA (ety (S.K a))
    rw [h1]; exact q1
  · rw [e, arr_i (S := S.setI a i.toNat (i2B x)) (a := a) (show S.K a < 17 by omega) (show S.K a ≠ 14 by omega), vp_cell_i, vp_cell_i, arrV_store]
    refine congrArg some (congrArg (arrV cA (S.N a)) (funext fun q => ?_))
    show updV _ _ _ q = Value.int (Int32.ofInt (up2 S.I a i.toNat (i2B x) a q))
    rw [g3]
    by_cases hq : q = i.toNat
    · subst hq
      rw [up2_eq, up1_eq]
      simp only [updV, ↓reduceIte]
      rw [i2B, Int32.ofInt_toInt]
      rfl
    · simp [updV, up2, up1, hq]
theorem j_sast {a : Nat} {i x : Int} {P : Prop} (hd : decode cc pc = .ok (.sastore, 1)) (h : (S.K a = 15 ∧ 0 ≤ i ∧ i < S.N a) ∧ P) (k : P → Jw Fz own cc nL ret hh y d S0 (S.setI a i.toNat (i2S x)) (pc + 1) lv st Q) : Jw Fz own cc nL ret hh y d S0 S pc lv (vI x :: vI i :: vA a :: st) Q := by
  obtain ⟨⟨h1, h2, h3⟩, h4⟩ := h
  refine j_wr (S1 := S.setI a i.toNat (i2S x)) (a := a) (by omega) ⟨Nat.le_refl _, Nat.le_refl _, rfl⟩ ⟨rfl, rfl⟩ (fun hx hb ho ht hK _ hR w => ?_) (k h4)
  obtain ⟨cA, q1, q2⟩ := hR.arr (a := a) (by omega) (by omega)
  rw [arr_i (by omega) (by omega)] at q2
  rw [h1] at q1
  obtain ⟨g1, g2, g3⟩ := r32_in (hR.2.2 a (by omega)).2.2.1 h2 h3
  refine W.sast hx hb q2 (q1.1 (S.N a) (fun j => .int (Int32.ofInt (S.I a j)))) (fun q => by cases q) (by show ¬ (_ ∨ (arrV _ _ _).slots.size ≤ _); rw [arrV_size]; exact g2) rfl rfl hd fun H1 e z oq => w H1 _ z oq ?_
  refine hR.put z oq rfl rfl rfl ot_setI (fun _ => ⟨fun h7 => ?_, fun _ => ⟨cA, ?_, ?_⟩⟩)
  · have h7 : S.K a < 12 := h7
    omega
  · show ArrOfT _ cA (ety (S.K a)) ∧ va_RA _ cA (ety (S.K a))
    rw [h1]; exact q1
  · rw [e, arr_i (S := S.setI a i.toNat (i2S x)) (a := a) (show S.K a < 17 by omega) (show S.K a ≠ 14 by omega), vp_cell_i, vp_cell_i, arrV_store]
    refine congrArg some (congrArg (arrV cA (S.N a)) (funext fun q => ?_))
    show updV _ _ _ q = Value.int (Int32.ofInt (up2 S.I a i.toNat (i2S x) a q))
    rw [g3]
    by_cases hq : q = i.toNat
    · subst hq
      rw [up2_eq, up1_eq]
      simp only [updV, ↓reduceIte]
      rw [i2S, Int32.ofInt_toInt]
      rfl
    · simp [updV, up2, up1, hq]
theorem j_zast {a : Nat} {i x : Int} {P : Prop} (hd : decode cc pc = .ok (.bastore, 1)) (h : (S.K a = 16 ∧ 0 ≤ i ∧ i < S.N a ∧ B01 x) ∧ P) (k : P → Jw Fz own cc nL ret hh y d S0 (S.setI a i.toNat (x)) (pc + 1) lv st Q) : Jw Fz own cc nL ret hh y d S0 S pc lv (vI x :: vI i :: vA a :: st) Q := by
  obtain ⟨⟨h1, h2, h3, hx01⟩, h4⟩ := h
  refine j_wr (S1 := S.setI a i.toNat (x)) (a := a) (by omega) ⟨Nat.le_refl _, Nat.le_refl _, rfl⟩ ⟨rfl, rfl⟩ (fun hx hb ho ht hK _ hR w => ?_) (k h4)
  obtain ⟨cA, q1, q2⟩ := hR.arr (a := a) (by omega) (by omega)
  rw [arr_i (by omega) (by omega)] at q2
  rw [h1] at q1
  obtain ⟨g1, g2, g3⟩ := r32_in (hR.2.2 a (by omega)).2.2.1 h2 h3
  refine W.zast hx hb q2 (q1.1 (S.N a) (fun j => .int (Int32.ofInt (S.I a j)))) (fun q => by cases q) (by show ¬ (_ ∨ (arrV _ _ _).slots.size ≤ _); rw [arrV_size]; exact g2) rfl rfl hd fun H1 e z oq => w H1 _ z oq ?_
  refine hR.put z oq rfl rfl rfl ot_setI (fun _ => ⟨fun h7 => ?_, fun _ => ⟨cA, ?_, ?_⟩⟩)
  · have h7 : S.K a < 12 := h7
    omega
  · show ArrOfT _ cA (ety (S.K a)) ∧ va_RA _ cA (ety (S.K a))
    rw [h1]; exact q1
  · rw [e, arr_i (S := S.setI a i.toNat (x)) (a := a) (show S.K a < 17 by omega) (show S.K a ≠ 14 by omega), vp_cell_i, vp_cell_i, arrV_store]
    refine congrArg some (congrArg (arrV cA (S.N a)) (funext fun q => ?_))
    show updV _ _ _ q = Value.int (Int32.ofInt (up2 S.I a i.toNat (x) a q))
    rw [g3]
    by_cases hq : q = i.toNat
    · subst hq
      rcases hx01 with r | r <;> subst r <;> simp [updV, up2, up1] <;> rfl
    · simp [updV, up2, up1, hq]
theorem j_last {a : Nat} {i : Int} {x : BitVec 64} {P : Prop} (hd : decode cc pc = .ok (.lastore, 1)) (h : (S.K a = 14 ∧ 0 ≤ i ∧ i < S.N a) ∧ P) (k : P → Jw Fz own cc nL ret hh y d S0 (S.setJ a i.toNat x) (pc + 1) lv st Q) : Jw Fz own cc nL ret hh y d S0 S pc lv (vL x :: vI i :: vA a :: st) Q := by
  obtain ⟨⟨h1, h2, h3⟩, h4⟩ := h
  refine j_wr (S1 := S.setJ a i.toNat x) (a := a) (by omega) ⟨Nat.le_refl _, Nat.le_refl _, rfl⟩ ⟨rfl, rfl⟩ (fun hx hb ho ht hK _ hR w => ?_) (k h4)
  obtain ⟨cA, q1, q2⟩ := hR.arr (a := a) (by omega) (by omega)
  rw [arr_l h1] at q2
  rw [h1] at q1
  obtain ⟨g1, g2, g3⟩ := r32_in (hR.2.2 a (by omega)).2.2.1 h2 h3
  refine W.last hx hb q2 (q1.1 (S.N a) (fun j => .long (Int64.ofBitVec (S.J a j)))) (fun q => by cases q) (by show ¬ (_ ∨ (arrV _ _ _).slots.size ≤ _); rw [arrV_size]; exact g2) rfl rfl hd fun H1 e z oq => w H1 _ z oq ?_
  refine hR.put z oq rfl rfl rfl ot_setJ (fun _ => ⟨fun h7 => ?_, fun _ => ⟨cA, ?_, ?_⟩⟩)
  · have h7 : S.K a < 12 := h7
    omega
  · show ArrOfT _ cA (ety (S.K a)) ∧ va_RA _ cA (ety (S.K a))
    rw [h1]; exact q1
  · rw [e, arr_l (S := S.setJ a i.toNat x) (a := a) (show S.K a = 14 from h1), vp_cell_l, vp_cell_l, arrV_store]
    refine congrArg some (congrArg (arrV cA (S.N a)) (funext fun q => ?_))
    show updV _ _ _ q = Value.long (Int64.ofBitVec (up2 S.J a i.toNat x a q))
    rw [g3]
    by_cases hq : q = i.toNat
    · subst hq
      simp [updV, up2, up1]
    · simp [updV, up2, up1, hq]
end JA
