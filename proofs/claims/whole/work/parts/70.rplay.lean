/-! plays -/
def drw (s : Int) : Int := iRem (iAnd (iShr s 16) 32767) 100
theorem iRem_R (a b : Int) : R32 (iRem a b) := ⟨Int32.le_toInt _, Int32.toInt_lt _⟩
def sd1 (s : Int) : Int := 1103515245 * s + 12345
theorem c_draw {d m : Nat} {S : MS} {Q : Out → MS → Prop} (hd : 1 ≤ d) (hL : RLay S m) (h : Q (.inl (some (vI (drw (sd1 (S.I m 38)))))) (S.setI m 38 (sd1 (S.I m 38)))) : Mw hX11_draw yX11_draw d [vA m] S Q := by
  obtain ⟨dd, rfl⟩ : ∃ e, d = e + 1 := ⟨d - 1, by omega⟩
  refine MX11_draw ?_
  have hl := hL
  unfold RLay at hl
  unfold VX11_draw_0
  simp only [hl, sI_K, sI_N, sI_R, sI_J, Option.some.injEq, exists_eq_left', true_and, and_true, Int.toNat_zero, Int.reduceToNat, Int.reduceLT, Int.reduceLE, Int.cast_ofNat_Int, forall_eq, ge_iff_le, Int.reduceNeg, Int.reduceAdd, Int.reduceSub, Int.reduceMul, Int.reduceEq, r32_0, r32_1, r32_m1, b01_0, b01_1, not_true_eq_false, not_false_eq_true, false_implies, true_implies, implies_true, forall_const]
  rw [sI_I, if_pos ⟨rfl, rfl⟩]
  exact ⟨⟨(by unfold R32; omega), by decide⟩, h⟩
def bhH (x t : Nat) : Nat := x / 2 ^ (t + 1) * 2 ^ (t + 1)
def bhN (x t : Nat) : Nat := (tzF (if bhH x t = 0 then x else bhH x t)).toNat
theorem bh_all : ∀ x : Nat, x < 128 → ∀ t : Nat, t < 7 → iShl (iShr (x : Int) ((t : Int) + 1)) ((t : Int) + 1) = (bhH x t : Nat) ∧ bhH x t < 128 ∧ (x.testBit t = true → tzF (if bhH x t = 0 then x else bhH x t) = (bhN x t : Nat) ∧ bhN x t < 7 ∧ x.testBit (bhN x t) = true) := by decide +kernel
theorem c_behind {d x t : Nat} {S : MS} {Q : Out → MS → Prop} {v u : Int} (hd : 2 ≤ d) (e1 : v = (x : Int)) (e2 : u = (t : Int)) (hx : x < 128) (ht : t < 7) (hb : x.testBit t = true) (h : Q (.inl (some (vI (bhN x t : Nat)))) S) : Mw hX11_behind yX11_behind d [vI v, vI u] S Q := by
  subst e1 e2
  obtain ⟨a1, a2, a3⟩ := bh_all x hx t ht
  have a4 := (a3 hb).1
  obtain ⟨dd, rfl⟩ : ∃ e, d = e + 1 := ⟨d - 1, by omega⟩
  refine MX11_behind ?_
  unfold VX11_behind_0
  rw [a1]
  unfold VX11_behind_19
  refine ⟨(by unfold R32; omega), fun c => c_ntz (x := bhH x t) (by omega) rfl a2 (oI_i ?_), fun c => c_ntz (x := x) (by omega) rfl hx (oI_i ?_)⟩
  · rw [if_neg (by omega)] at a4
    rw [a4]
    exact h
  · rw [if_pos (by omega)] at a4
    rw [a4]
    exact h
/-- who rises in a play -/
noncomputable def plT (w : Nat → Int) (n kn x : Nat) (wr s : Int) : Nat := if drw s < wr then bhN x (rsN n kn x (rW w n)) else rsN n kn x (rW w n)
noncomputable def plF (w : Nat → Int) (n kn : Nat) (wr : Int) : Nat → List Nat → Int → Nat → List Nat × Nat
  | 0, L, _, c => (L, c)
  | f + 1, L, s, c => if lf n kn L < 0 then (L, c) else plF w n kn wr f (prt n kn (lf n kn L).toNat (plT w n kn (lf n kn L).toNat wr (sd1 s)) L) (sd1 s) (c + 1)
theorem f_pl192 {d m n r : Nat} {w : Nat → Int} {L : List Nat} {S : MS} {Q : Out → MS → Prop} (hd : 1 ≤ d) (hD : RD S m n w L) (hr : r < fct n) (h : ∀ q, BI q (r ∈ L) → Q (.inl (some (vI q))) S) : ∀ (j : Nat) {k : Nat} {q : Int}, k + j = L.length → BI q (r ∈ L.take k) → VX11_played_192 d Q (j + 1) m (r : Nat) q (k : Nat) S := by
  obtain ⟨hL, hw, hg, hT, hK, hrow, hlen⟩ := hD
  have h3 := hg.1.1
  have h7 := hg.1.2.1
  have hf := fct_le h3 h7
  intro j
  induction j with
  | zero =>
    intro k q hk hq
    have hl := hL
    unfold RLay at hl
    unfold VX11_played_192
    simp only [hl, sI_K, sI_N, sI_R, sI_J, Option.some.injEq, exists_eq_left', true_and, and_true, Int.toNat_zero, Int.reduceToNat, Int.reduceLT, Int.reduceLE, Int.cast_ofNat_Int, forall_eq, ge_iff_le, Int.reduceNeg, Int.reduceAdd, Int.reduceSub, Int.reduceMul, Int.reduceEq, r32_0, r32_1, r32_m1, b01_0, b01_1, not_true_eq_false, not_false_eq_true, false_implies, true_implies, implies_true, forall_const]
    rw [hK.1]
    rw [show L.take k = L by rw [show k = L.length by omega]; exact List.take_length] at hq
    exact ⟨⟨(by unfold R32; omega), (by unfold R32; omega)⟩, fun _ => h q hq, fun c => by omega⟩
  | succ j ih =>
    intro k q hk hq
    have hl := hL
    unfold RLay at hl
    have hkl : k < L.length := by omega
    have hrk := hrow _ (getD_mem hkl)
    unfold VX11_played_192 VX11_played_221
    simp only [hl, sI_K, sI_N, sI_R, sI_J, Option.some.injEq, exists_eq_left', true_and, and_true, Int.toNat_zero, Int.reduceToNat, Int.reduceLT, Int.reduceLE, Int.cast_ofNat_Int, forall_eq, ge_iff_le, Int.reduceNeg, Int.reduceAdd, Int.reduceSub, Int.reduceMul, Int.reduceEq, r32_0, r32_1, r32_m1, b01_0, b01_1, not_true_eq_false, not_false_eq_true, false_implies, true_implies, implies_true, forall_const]
    rw [hK.1]
    refine ⟨⟨(by unfold R32; omega), (by unfold R32; omega)⟩, fun _ => by omega, fun c => c_rowAt (r := 0) (p := k) (by omega) hL rfl rfl (by omega) (oI_i ?_)⟩
    rw [hK.2 k hkl]
    have es := take_s hkl
    refine ⟨⟨(by unfold R32; omega), (by unfold R32; omega)⟩, fun c2 => ih (k := k + 1) (by omega) ?_, fun c2 => ih (k := k + 1) (by omega) (.y ?_)⟩
    · rw [es]
      rcases hq with ⟨e, hq⟩ | ⟨e, hq⟩
      · exact Or.inl ⟨e, List.mem_append_left _ hq⟩
      · refine Or.inr ⟨e, fun g => ?_⟩
        rcases List.mem_append.mp g with g | g
        · exact hq g
        · have := List.mem_singleton.mp g
          omega
    · rw [es]
      exact List.mem_append_right _ (List.mem_singleton.mpr (by omega))
noncomputable def plA (w : Nat → Int) (n : Nat) (wh : Int) (a : List Nat × Nat) : Int := if wh = 0 then (a.2 : Int) else if wh = 1 then (a.1.length : Int) else pI (rW w n ∈ a.1)
theorem f_pl95 {d m n kn : Nat} {w : Nat → Int} {Q : Out → MS → Prop} {wr wh : Int} (hd : 5 ≤ d) (hg : GW n w) (hk : kn < 3) (hwr : 0 ≤ wr ∧ wr ≤ 99) (hwh : 0 ≤ wh ∧ wh ≤ 2) : ∀ (f : Nat) {S : MS} {c : Nat} {L : List Nat}, RD S m n w L → Tbl S m → pD n kn L < f → (∀ S', RQ m S S' → S'.I m 0 = S.I m 0 → Q (.inl (some (vI (plA w n wh (plF w n kn wr f L (S.I m 38) c))))) S') → ∃ q, VX11_played_95 d Q q m wr wh (kn : Nat) (c : Nat) (lf n kn L) S := by
  have h3 := hg.1.1
  have h7 := hg.1.2.1
  have p7 := p2_7 h7
  intro f
  induction f with
  | zero => intro S c L _ _ h; exact absurd h (Nat.not_lt_zero _)
  | succ f ih =>
    intro S c L hD hTl hf h
    have hL := hD.1
    have hw := hD.2.1
    have hK := hD.2.2.2.2.1
    have hlen2 := hD.2.2.2.2.2.2
    have hr := lf_n (n := n) (kn := kn) (L := L) h7 hlen2
    have hl := hL
    unfold RLay at hl
    by_cases c0 : lf n kn L < 0
    · have h' := h S (RQ.rf hTl) rfl
      rw [show plF w n kn wr (f + 1) L (S.I m 38) c = (L, c) by show (if _ then _ else _) = _; rw [if_pos c0]] at h'
      unfold plA at h'
      refine ⟨1, ?_⟩
      unfold VX11_played_95
      refine ⟨(by unfold R32; omega), fun _ => ⟨⟨(by unfold R32; omega), (by unfold R32; omega)⟩, fun c1 => ⟨hL.1, c_trueRow (n := n) (by omega) hL (by rw [hw]; exact hg) hD.2.2.2.1 (oI_i ⟨L.length + 1, ?_⟩)⟩, fun c1 => ⟨(by unfold R32; omega), fun c2 => ?_, fun c2 => ?_⟩⟩, fun c => by omega⟩
      · rw [hw]
        refine f_pl192 (n := n) (by omega) hD (rW_lt h3 h7) (fun q hq => ?_) L.length (k := 0) (by omega) (.n (by rw [List.take_zero]; simp))
        rw [hq.e]
        rw [if_neg (by omega), if_neg (by omega)] at h'
        exact h'
      · simp only [hl, sI_K, sI_N, sI_R, sI_J, Option.some.injEq, exists_eq_left', true_and, and_true, Int.toNat_zero, Int.reduceToNat, Int.reduceLT, Int.reduceLE, Int.cast_ofNat_Int, forall_eq, ge_iff_le, Int.reduceNeg, Int.reduceAdd, Int.reduceSub, Int.reduceMul, Int.reduceEq, r32_0, r32_1, r32_m1, b01_0, b01_1, not_true_eq_false, not_false_eq_true, false_implies, true_implies, implies_true, forall_const]
        rw [hK.1]
        rw [if_neg c2, if_pos (by omega)] at h'
        exact h'
      · rw [if_pos c2] at h'
        exact h'
    · obtain ⟨-, e2, e3, e4⟩ := lf_ok h7 (show 0 ≤ lf n kn L by omega)
      have hx := (cmb_k (kn := kn) h7).2 _ e3
      have hx128 : (lf n kn L).toNat < 128 := by omega
      obtain ⟨t1, t2, t3⟩ := trF_rs (w := w) (n := n) (kn := kn) (x := (lf n kn L).toNat) h3 h7 hk hx.1 hx.2
      have hpl : plF w n kn wr (f + 1) L (S.I m 38) c = plF w n kn wr f (prt n kn (lf n kn L).toNat (plT w n kn (lf n kn L).toNat wr (sd1 (S.I m 38))) L) (sd1 (S.I m 38)) (c + 1) := by
        show (if _ then _ else _) = _
        rw [if_neg c0]
      have hT7 : plT w n kn (lf n kn L).toNat wr (sd1 (S.I m 38)) < 7 := by
        unfold plT
        split
        · exact ((bh_all _ hx128 _ (by omega)).2.2 t3).2.1
        · omega
      have fs : Fr m [] [38] S (S.setI m 38 (sd1 (S.I m 38))) := Fr.sB (by decide)
      have v38 : (S.setI m 38 (sd1 (S.I m 38))).I m 38 = sd1 (S.I m 38) := by rw [sI_I, if_pos ⟨rfl, rfl⟩]
      -- behind the choice of who rises
      have tail : ∃ q, VX11_played_127 d (VX11_played_95 d Q q) Q m wr wh (kn : Nat) (c : Nat) (lf n kn L) (plT w n kn (lf n kn L).toNat wr (sd1 (S.I m 38)) : Nat) (S.setI m 38 (sd1 (S.I m 38))) := by
        have D1 := hD.fr fs (by decide) (by decide) (by decide) (by decide) (by decide) (by decide)
        generalize hS1 : S.setI m 38 (sd1 (S.I m 38)) = S1 at D1 fs v38
        generalize hTT : plT w n kn (lf n kn L).toNat wr (sd1 (S.I m 38)) = TT at hT7 hpl
        have X3 : ∀ S3, Fr m [8, 9] [] S1 S3 → LV S3 m n 0 (prt n kn (lf n kn L).toNat TT L) → ∃ q, S3.K m = 11 ∧ Mw hX11_laidFor yX11_laidFor d [vA m, vI 0, vI (kn : Nat)] S3 (oI (fun r3 S4 => VX11_played_95 d Q q m wr wh (kn : Nat) ((c : Int) + 1) r3 S4)) := by
          intro S3 f3 v3
          have hL3 := f3.lay D1.1
          have X4 : ∀ S4, Fr m [12, 13, 14] [23, 25, 26, 27] S3 S4 → ∃ q, VX11_played_95 d Q q m wr wh (kn : Nat) ((c : Int) + 1) (lf n kn (prt n kn (lf n kn L).toNat TT L)) S4 := by
            intro S4 f4
            have f14 : Fr m [8, 9, 12, 13, 14] [23, 25, 26, 27] S1 S4 := (f3.wk (by decide) (by decide)).tr (f4.wk (by decide) (by decide))
            have v4 := f4.lv (by decide) (by decide) v3
            have D4 : RD S4 m n w (prt n kn (lf n kn L).toNat TT L) := ⟨f14.lay D1.1, by rw [f14.arr (by decide) (by decide), D1.2.1], hg, f14.tb (by decide) (by decide) (by decide) D1.2.2.2.1, v4.1, v4.2.1, v4.2.2.1⟩
            have T1 := fs.tbl (by decide) (by decide) (by decide) hTl
            have T4 := f14.tbl (by decide) (by decide) (by decide) T1
            have e38 : S4.I m 38 = sd1 (S.I m 38) := by rw [f14.fld (by decide), v38]
            have pd := pD_lt (t := TT) h3 h7 hD.2.2.2.2.2.1 hk e3 e4 hT7
            refine ih (c := c + 1) D4 T4 (by omega) (fun S' q' t' => ?_)
            rw [e38, ← hpl]
            refine h S' ?_ (by rw [t', f14.fld (by decide), fs.fld (by decide)])
            exact RQ.tr ⟨(fs.wk (by decide) (by decide)).tr (f14.wk (by decide) (by decide)), T4⟩ q'
          obtain ⟨q, hq⟩ := Mw.exJ (P := fun q r3 S4 => VX11_played_95 d Q q m wr wh (kn : Nat) ((c : Int) + 1) r3 S4) (c_laidFor (n := n) (l := 0) (kn := kn) (d := d) (x1 := 0) (x2 := (kn : Nat)) (by omega) hL3 (by rw [f3.arr (by decide) (by decide), D1.2.1]; exact hg) (f3.tb (by decide) (by decide) (by decide) D1.2.2.2.1) v3 rfl rfl hk (fun S4 f4 => oI_i (X4 S4 f4)))
          exact ⟨q, hL3.1, hq⟩
        have X2 : ∀ S2, Fr m [8, 9] [] S1 S2 → LV S2 m n 1 (prt n kn (lf n kn L).toNat TT L) → ∃ q, S2.K m = 11 ∧ Mw hX11_takesNext yX11_takesNext d [vA m] S2 (oV (fun S3 => S3.K m = 11 ∧ Mw hX11_laidFor yX11_laidFor d [vA m, vI 0, vI (kn : Nat)] S3 (oI (fun r3 S4 => VX11_played_95 d Q q m wr wh (kn : Nat) ((c : Int) + 1) r3 S4)))) := by
          intro S2 f2 v2
          have hL2 := f2.lay D1.1
          obtain ⟨q, hq⟩ := Mw.ex (P := fun q S3 => S3.K m = 11 ∧ Mw hX11_laidFor yX11_laidFor d [vA m, vI 0, vI (kn : Nat)] S3 (oI (fun r3 S4 => VX11_played_95 d Q q m wr wh (kn : Nat) ((c : Int) + 1) r3 S4))) (c_takesNext (n := n) (d := d) (by omega) hL2 h3 h7 v2 (fun S3 f3 v3 => oV_i (X3 S3 (f2.tr f3) v3)))
          exact ⟨q, hL2.1, hq⟩
        obtain ⟨q, hq⟩ := Mw.ex (P := fun q S2 => S2.K m = 11 ∧ Mw hX11_takesNext yX11_takesNext d [vA m] S2 (oV (fun S3 => S3.K m = 11 ∧ Mw hX11_laidFor yX11_laidFor d [vA m, vI 0, vI (kn : Nat)] S3 (oI (fun r3 S4 => VX11_played_95 d Q q m wr wh (kn : Nat) ((c : Int) + 1) r3 S4))))) (c_parts (n := n) (l := 0) (kn := kn) (d := d) (x1 := 0) (x2 := (kn : Nat)) (x3 := lf n kn L) (x4 := (TT : Nat)) (x := (lf n kn L).toNat) (t := TT) (by omega) D1.1 h3 h7 D1.2.2.2.1 D1.lv rfl rfl e2 rfl hk hx.1 hx.2 (by decide) hT7 (fun S2 f2 o2 v2 => oV_i (X2 S2 f2 v2)))
        exact ⟨q, D1.1.1, hq⟩
      obtain ⟨q, hq⟩ := tail
      refine ⟨q + 1, ?_⟩
      unfold VX11_played_95
      refine ⟨(by unfold R32; omega), fun c => by omega, fun _ => ⟨hL.1, c_truly (n := n) (kn := kn) (x := (lf n kn L).toNat) (by omega) hL (by rw [hw]; exact hg) rfl e2 hk (by omega) (oI_i ⟨hL.1, c_draw (by omega) hL (oI_i ?_)⟩)⟩⟩
      rw [hw, t1]
      unfold plT at hq
      refine ⟨⟨iRem_R _ _, (by unfold R32; omega)⟩, fun c1 => ?_, fun c1 => ?_⟩
      · rw [if_neg (by omega)] at hq
        exact hq
      · rw [if_pos (by omega)] at hq
        exact c_behind (x := (lf n kn L).toNat) (t := rsN n kn (lf n kn L).toNat (rW w n)) (by omega) e2 rfl hx128 (by omega) t3 (oI_i hq)
noncomputable def A_played (n : Nat) (w : Nat → Int) (s wr sd wh : Int) : Int × Int := if 0 ≤ s ∧ s < (sN w : Int) then (if 0 ≤ wr ∧ wr ≤ 99 then (if 0 ≤ wh ∧ wh ≤ 2 then (0, plA w n wh (plF w n (kd w s.toNat) wr 36 (rowsL n w 0) sd 0)) else (3, 0)) else (2, 0)) else (1, 0)
theorem c_played {d m n : Nat} {S : MS} {Q : Out → MS → Prop} {s wr sd wh : Int} (hd : 7 ≤ d) (hI : RI S m n) (hs : R32 s) (hwr : R32 wr) (hwh : R32 wh) (h : ∀ S', RQ m S S' → S'.I m 0 = (A_played n (S.I (m+1)) s wr sd wh).1 → Q (.inl (some (vI (A_played n (S.I (m+1)) s wr sd wh).2))) S') : Mw hX11_played yX11_played d [vA m, vI s, vI wr, vI sd, vI wh] S Q := by
  have hL := hI.1
  have hg := hI.2.1
  have h7 := hg.1.2.1
  have e0 : (S.setI m 0 0).I (m+1) = S.I (m+1) := sI_Ia (by omega)
  obtain ⟨dd, rfl⟩ : ∃ e, d = e + 1 := ⟨d - 1, by omega⟩
  refine MX11_played ?_
  have hl := hL
  unfold RLay at hl
  unfold VX11_played_0
  simp only [hl, sI_K, sI_N, sI_R, sI_J, Option.some.injEq, exists_eq_left', true_and, and_true, Int.toNat_zero, Int.reduceToNat, Int.reduceLT, Int.reduceLE, Int.cast_ofNat_Int, forall_eq, ge_iff_le, Int.reduceNeg, Int.reduceAdd, Int.reduceSub, Int.reduceMul, Int.reduceEq, r32_0, r32_1, r32_m1, b01_0, b01_1, not_true_eq_false, not_false_eq_true, false_implies, true_implies, implies_true, forall_const]
  refine l_noS (n := n) (by omega) hI hs (fun r hr => oI_i ⟨hL.1, t_if (by omega) (by exact hL) hr (fun c => oI_i ?_) (fun c => oI_i ?_)⟩)
  · have c' : 0 ≤ s ∧ s < (sN (S.I (m+1)) : Int) := Classical.byContradiction c
    have g1 := hg.2.1
    have b := hg.sc (s := s.toNat) (by omega)
    simp only [hl, sI_K, sI_N, sI_R, sI_J, Option.some.injEq, exists_eq_left', true_and, and_true, Int.toNat_zero, Int.reduceToNat, Int.reduceLT, Int.reduceLE, Int.cast_ofNat_Int, forall_eq, ge_iff_le, Int.reduceNeg, Int.reduceAdd, Int.reduceSub, Int.reduceMul, Int.reduceEq, r32_0, r32_1, r32_m1, b01_0, b01_1, not_true_eq_false, not_false_eq_true, false_implies, true_implies, implies_true, forall_const]
    refine c_in (by omega) hwr r32_0 (by unfold R32; omega) (fun r hr => oI_i ⟨hr.r, fun c2 => ?_, fun c2 => ?_⟩)
    · have cw : 0 ≤ wr ∧ wr ≤ 99 := by rcases hr with ⟨-, hr⟩ | ⟨rfl, -⟩ <;> omega
      unfold VX11_played_34
      refine ⟨hL.1, t_if (P := False) (by omega) (by exact hL) (.n id) (fun _ => oI_i ?_) (fun k => k.elim)⟩
      simp only [hl, sI_K, sI_N, sI_R, sI_J, Option.some.injEq, exists_eq_left', true_and, and_true, Int.toNat_zero, Int.reduceToNat, Int.reduceLT, Int.reduceLE, Int.cast_ofNat_Int, forall_eq, ge_iff_le, Int.reduceNeg, Int.reduceAdd, Int.reduceSub, Int.reduceMul, Int.reduceEq, r32_0, r32_1, r32_m1, b01_0, b01_1, not_true_eq_false, not_false_eq_true, false_implies, true_implies, implies_true, forall_const]
      refine c_in (by omega) hwh r32_0 (by unfold R32; omega) (fun r hr => oI_i ⟨hr.r, fun c3 => ?_, fun c3 => ?_⟩)
      · have ch : 0 ≤ wh ∧ wh ≤ 2 := by rcases hr with ⟨-, hr⟩ | ⟨rfl, -⟩ <;> omega
        unfold VX11_played_57
        refine ⟨hL.1, t_if (P := False) (by omega) (by exact hL) (.n id) (fun _ => oI_i ?_) (fun k => k.elim)⟩
        simp only [hl, sI_K, sI_N, sI_R, sI_J, Option.some.injEq, exists_eq_left', true_and, and_true, Int.toNat_zero, Int.reduceToNat, Int.reduceLT, Int.reduceLE, Int.cast_ofNat_Int, forall_eq, ge_iff_le, Int.reduceNeg, Int.reduceAdd, Int.reduceSub, Int.reduceMul, Int.reduceEq, r32_0, r32_1, r32_m1, b01_0, b01_1, not_true_eq_false, not_false_eq_true, false_implies, true_implies, implies_true, forall_const]
        refine c_ofScale (i := s.toNat) (q := 0) (by omega) (by exact hL) (by omega) rfl (by omega) (by decide) (oI_i ⟨hL.1, hL.1, ?_⟩)
        rw [e0]
        have f1 : Fr m [] [38] (S.setI m 0 0) ((S.setI m 0 0).setI m 38 sd) := Fr.sB (by decide)
        have q1 : RQ m S ((S.setI m 0 0).setI m 38 sd) := (RQ.s0 hI.2.2).fr f1 (by decide) (by decide) (by decide) (by decide) (by decide)
        have e1 : ((S.setI m 0 0).setI m 38 sd).I (m+1) = S.I (m+1) := by rw [f1.arr (by decide) (by decide), e0]
        refine l_leaves2 (n := n) (by omega) (q1.ri hI) (fun S2 f2 q2 d2 => oV_i ⟨d2.1.1, ?_⟩)
        rw [e1] at d2
        refine c_laidFor (n := n) (l := 0) (kn := kd (S.I (m+1)) s.toNat) (by omega) d2.1 (by rw [d2.2.1]; exact hg) d2.2.2.2.1 d2.lv rfl b.1.1 b.1.2 (fun S3 f3 => oI_i ?_)
        rw [show S.I (m+1) (11 + 3 * s.toNat + 0) = ((kd (S.I (m+1)) s.toNat : Nat) : Int) from b.1.1]
        have d3 := d2.fr f3 (by decide) (by decide) (by decide) (by decide) (by decide) (by decide)
        have q3 : RQ m S S3 := (q1.tr q2).fr f3 (by decide) (by decide) (by decide) (by decide) (by decide)
        have e38 : S3.I m 38 = sd := by rw [f3.fld (by decide), f2.fld (by decide), sI_I, if_pos ⟨rfl, rfl⟩]
        have pd := pD_35 (kn := kd (S.I (m+1)) s.toNat) (L := rowsL n (S.I (m+1)) 0) h7
        refine f_pl95 (n := n) (kn := kd (S.I (m+1)) s.toNat) (w := S.I (m+1)) (by omega) hg b.1.2 cw ch 36 (c := 0) (L := rowsL n (S.I (m+1)) 0) d3 q3.2 (by omega) (fun S' q' t' => ?_)
        rw [e38]
        exact fin h (by unfold A_played; rw [if_pos c', if_pos cw, if_pos ch]) (q3.tr q') (by rw [t', f3.fld (by decide), f2.fld (by decide), f1.fld (by decide), sI_I, if_pos ⟨rfl, rfl⟩])
      · have ch : ¬ (0 ≤ wh ∧ wh ≤ 2) := by rcases hr with ⟨rfl, -⟩ | ⟨-, hr⟩ <;> omega
        unfold VX11_played_57
        refine ⟨hL.1, t_if (P := True) (by omega) (by exact hL) (.y trivial) (fun k => absurd trivial k) (fun _ => oI_i ?_)⟩
        simp only [hl, sI_K, sI_N, sI_R, sI_J, Option.some.injEq, exists_eq_left', true_and, and_true, Int.toNat_zero, Int.reduceToNat, Int.reduceLT, Int.reduceLE, Int.cast_ofNat_Int, forall_eq, ge_iff_le, Int.reduceNeg, Int.reduceAdd, Int.reduceSub, Int.reduceMul, Int.reduceEq, r32_0, r32_1, r32_m1, b01_0, b01_1, not_true_eq_false, not_false_eq_true, false_implies, true_implies, implies_true, forall_const]
        exact fin h (by unfold A_played; rw [if_pos c', if_pos cw, if_neg ch]) (rq_x hI) rq_t
    · have cw : ¬ (0 ≤ wr ∧ wr ≤ 99) := by rcases hr with ⟨rfl, -⟩ | ⟨-, hr⟩ <;> omega
      unfold VX11_played_34
      refine ⟨hL.1, t_if (P := True) (by omega) (by exact hL) (.y trivial) (fun k => absurd trivial k) (fun _ => oI_i ?_)⟩
      simp only [hl, sI_K, sI_N, sI_R, sI_J, Option.some.injEq, exists_eq_left', true_and, and_true, Int.toNat_zero, Int.reduceToNat, Int.reduceLT, Int.reduceLE, Int.cast_ofNat_Int, forall_eq, ge_iff_le, Int.reduceNeg, Int.reduceAdd, Int.reduceSub, Int.reduceMul, Int.reduceEq, r32_0, r32_1, r32_m1, b01_0, b01_1, not_true_eq_false, not_false_eq_true, false_implies, true_implies, implies_true, forall_const]
      exact fin h (by unfold A_played; rw [if_pos c', if_neg cw]) (rq_x hI) rq_t
  · simp only [hl, sI_K, sI_N, sI_R, sI_J, Option.some.injEq, exists_eq_left', true_and, and_true, Int.toNat_zero, Int.reduceToNat, Int.reduceLT, Int.reduceLE, Int.cast_ofNat_Int, forall_eq, ge_iff_le, Int.reduceNeg, Int.reduceAdd, Int.reduceSub, Int.reduceMul, Int.reduceEq, r32_0, r32_1, r32_m1, b01_0, b01_1, not_true_eq_false, not_false_eq_true, false_implies, true_implies, implies_true, forall_const]
    exact fin h (by unfold A_played; rw [if_neg c]) (rq_x hI) rq_t
/-! threes that are sure -/
def suN (w : Nat → Int) (x i : Nat) : Bool := decide (kd w (nS w i) ≠ 0) || decide (nX w i ≠ x)
def suB (n : Nat) (w : Nat → Int) (L : List Nat) (bl : Int) (x : Nat) : Bool := decide (pc (mskL (rsN n 0 x) L) = 1) && (decide (bl = 0) || allB (suN w x) (nN w))
theorem f_su93 {d m n i : Nat} {w : Nat → Int} {X : List Nat} {S : MS} {Q : Out → MS → Prop} {bl v : Int} {c18 : Nat → Int → Int → Int → MS → Prop} {P : Prop} (hd : 1 ≤ d) (hL : RLay S m) (hw : S.I (m+1) = w) (hg : GW n w) (hb : B01 bl) (hS : SL S m X) (hX : ∀ x ∈ X, x < 2 ^ n) (hi : i < X.length) (hi35 : X.length ≤ 35) (h0 : ¬ (P ∧ (bl = 0 ∨ ∀ k, k < nN w → suN w (X.getD i 0) k = true)) → c18 m bl (v + 0) ((i : Int) + 1) S) (h1 : (P ∧ (bl = 0 ∨ ∀ k, k < nN w → suN w (X.getD i 0) k = true)) → c18 m bl (v + 1) ((i : Int) + 1) S) : ∀ (j : Nat) {k : Nat} {q : Int}, k + j = nN w → BI q (P ∧ (bl = 0 ∨ ∀ u, u < k → suN w (X.getD i 0) u = true)) → VX11_sures_93 d c18 Q (j + 1) m bl v (i : Nat) q (k : Nat) S := by
  have g1 := hg.2.1
  have g2 := hg.2.2.1
  have p7 := p2_7 hg.1.2.1
  have hxi := hX _ (getD_mem hi)
  have e155 : ∀ q, BI q (P ∧ (bl = 0 ∨ ∀ k, k < nN w → suN w (X.getD i 0) k = true)) → VX11_sures_155 d c18 Q m bl v (i : Nat) q S := by
    intro q hq
    unfold VX11_sures_155 VX11_sures_166
    refine ⟨hq.r, fun c => h0 ?_, fun c => h1 ?_⟩
    · rcases hq with ⟨rfl, -⟩ | ⟨-, hq⟩
      · omega
      · exact hq
    · rcases hq with ⟨-, hq⟩ | ⟨rfl, -⟩
      · exact hq
      · omega
  intro j
  induction j with
  | zero =>
    intro k q hk hq
    unfold VX11_sures_93
    refine ⟨hL.1, c_notes hd hL (oI_i ?_)⟩
    rw [hw, g2.1]
    rw [show k = nN w by omega] at hq
    exact ⟨⟨(by unfold R32; omega), (by unfold R32; omega)⟩, fun _ => e155 q hq, fun c => by omega⟩
  | succ j ih =>
    intro k q hk hq
    have a := hg.nt (i := k) (by omega)
    have b := hg.sc a.1.2
    unfold VX11_sures_93 VX11_sures_146 VX11_sures_142 VX11_sures_147
    refine ⟨hL.1, c_notes hd hL (oI_i ?_)⟩
    rw [hw, g2.1]
    refine ⟨⟨(by unfold R32; omega), (by unfold R32; omega)⟩, fun _ => by omega, fun c => ⟨b01_r hb, fun c1 => e155 q ?_, fun c1 => ⟨hq.r, fun c2 => ih (k := k + 1) (by omega) (.n (fun g => ?_)), fun c2 => ⟨hL.1, c_ofNote (i := k) (q := 0) hd hL rfl rfl (by omega) (by decide) (oI_i ⟨hL.1, ?_⟩)⟩⟩⟩⟩
    · rcases hq with ⟨e, h1, -⟩ | ⟨e, h1⟩
      · exact Or.inl ⟨e, h1, Or.inl c1⟩
      · exact Or.inr ⟨e, fun g => h1 ⟨g.1, Or.inl c1⟩⟩
    · rcases hq with ⟨rfl, -⟩ | ⟨-, hq⟩
      · omega
      · refine hq ⟨g.1, ?_⟩
        rcases g.2 with g | g
        · exact Or.inl g
        · exact Or.inr (fun u hu => g u (by omega))
    · have hq' : P ∧ (∀ u, u < k → suN w (X.getD i 0) u = true) := by
        rcases hq with ⟨-, h1, h2⟩ | ⟨rfl, -⟩
        · rcases h2 with h2 | h2
          · exact absurd h2 c1
          · exact ⟨h1, h2⟩
        · omega
      have yes : suN w (X.getD i 0) k = true → BI 1 (P ∧ (bl = 0 ∨ ∀ u, u < k + 1 → suN w (X.getD i 0) u = true)) := by
        intro g
        refine .y ⟨hq'.1, Or.inr (fun u hu => ?_)⟩
        by_cases e : u = k
        · rw [e]; exact g
        · exact hq'.2 u (by omega)
      rw [hw]
      refine c_ofScale (i := nS w k) (q := 0) hd hL a.1.1 rfl (by omega) (by decide) (oI_i ?_)
      rw [hw, show w (11 + 3 * nS w k + 0) = ((kd w (nS w k) : Nat) : Int) from b.1.1]
      refine ⟨(by unfold R32; omega), fun c3 => ih (k := k + 1) (by omega) (yes (by simp only [suN, Bool.or_eq_true, decide_eq_true_eq]; left; omega)), fun c3 => ⟨hL.1, c_ofNote (i := k) (q := 1) hd hL rfl rfl (by omega) (by decide) (oI_i ?_)⟩⟩
      have hl := hL
      unfold RLay at hl
      simp only [hl, sI_K, sI_N, sI_R, sI_J, Option.some.injEq, exists_eq_left', true_and, and_true, Int.toNat_zero, Int.reduceToNat, Int.reduceLT, Int.reduceLE, Int.cast_ofNat_Int, forall_eq, ge_iff_le, Int.reduceNeg, Int.reduceAdd, Int.reduceSub, Int.reduceMul, Int.reduceEq, r32_0, r32_1, r32_m1, b01_0, b01_1, not_true_eq_false, not_false_eq_true, false_implies, true_implies, implies_true, forall_const]
      rw [hw, show 23 + 3 * k + 1 = 24 + 3 * k by omega, a.2.1.1, Int.toNat_natCast, hS.2 i hi]
      refine ⟨by omega, ⟨(by unfold R32; omega), (by unfold R32; omega)⟩, fun c4 => ih (k := k + 1) (by omega) (.n (fun g => ?_)), fun c4 => ih (k := k + 1) (by omega) (yes (by simp only [suN, Bool.or_eq_true, decide_eq_true_eq]; right; omega))⟩
      rcases g.2 with g | g
      · exact c1 g
      · have := g k (by omega)
        simp only [suN, Bool.or_eq_true, decide_eq_true_eq] at this
        omega
theorem f_su32 {d m n i : Nat} {w : Nat → Int} {L X : List Nat} {S : MS} {Q : Out → MS → Prop} {bl v : Int} {c18 : Nat → Int → Int → Int → MS → Prop} (hd : 2 ≤ d) (hD : RD S m n w L) (hb : B01 bl) (hS : SL S m X) (hX : ∀ x ∈ X, x < 2 ^ n ∧ pc x = 3) (hi : i < X.length) (hi35 : X.length ≤ 35) (h : c18 m bl (v + (if suB n w L bl (X.getD i 0) then 1 else 0)) ((i : Int) + 1) S) : ∀ (j : Nat) {k : Nat}, k + j = L.length → VX11_sures_32 d c18 Q (j + 1) m bl v (i : Nat) (mskL (rsN n 0 (X.getD i 0)) (L.take k) : Nat) (k : Nat) S := by
  obtain ⟨hL, hw, hg, hT, hK, hrow, hlen⟩ := hD
  have h3 := hg.1.1
  have h7 := hg.1.2.1
  have hf := fct_le h3 h7
  have p7 := p2_7 h7
  have hxi := hX _ (getD_mem hi)
  intro j
  induction j with
  | zero =>
    intro k hk
    have hl := hL
    unfold RLay at hl
    unfold VX11_sures_32 VX11_sures_88
    simp only [hl, sI_K, sI_N, sI_R, sI_J, Option.some.injEq, exists_eq_left', true_and, and_true, Int.toNat_zero, Int.reduceToNat, Int.reduceLT, Int.reduceLE, Int.cast_ofNat_Int, forall_eq, ge_iff_le, Int.reduceNeg, Int.reduceAdd, Int.reduceSub, Int.reduceMul, Int.reduceEq, r32_0, r32_1, r32_m1, b01_0, b01_1, not_true_eq_false, not_false_eq_true, false_implies, true_implies, implies_true, forall_const]
    rw [hK.1]
    rw [show L.take k = L by rw [show k = L.length by omega]; exact List.take_length]
    have q1 := mskL_lt (rsN n 0 (X.getD i 0)) L
    have q2 := pc_le (mskL (rsN n 0 (X.getD i 0)) L)
    have fin93 : ∀ q, BI q (pc (mskL (rsN n 0 (X.getD i 0)) L) = 1) → ∃ f, VX11_sures_93 d c18 Q f m bl v (i : Nat) q 0 S := by
      intro q hq
      refine ⟨nN w + 1, f_su93 (P := pc (mskL (rsN n 0 (X.getD i 0)) L) = 1) (by omega) hL hw hg hb hS (fun x hx => (hX x hx).1) hi hi35 (fun g => ?_) (fun g => ?_) (nN w) (k := 0) (by omega) ?_⟩
      · have : suB n w L bl (X.getD i 0) = false := by
          unfold suB
          cases e : (decide (pc (mskL (rsN n 0 (X.getD i 0)) L) = 1) && (decide (bl = 0) || allB (suN w (X.getD i 0)) (nN w)))
          · rfl
          · exfalso
            rw [Bool.and_eq_true, Bool.or_eq_true] at e
            refine g ⟨of_decide_eq_true e.1, ?_⟩
            rcases e.2 with e | e
            · exact Or.inl (of_decide_eq_true e)
            · exact Or.inr (fun k hk => allB_iff e k hk)
        rw [this, if_neg (by decide)] at h
        exact h
      · have : suB n w L bl (X.getD i 0) = true := by
          unfold suB
          rw [Bool.and_eq_true, Bool.or_eq_true]
          refine ⟨decide_eq_true g.1, ?_⟩
          rcases g.2 with g | g
          · exact Or.inl (decide_eq_true g)
          · exact Or.inr (allB_of g)
        rw [this, if_pos rfl] at h
        exact h
      · rcases hq with ⟨e, hq⟩ | ⟨e, hq⟩
        · exact Or.inl ⟨e, hq, Or.inr (fun u hu => absurd hu (Nat.not_lt_zero u))⟩
        · exact Or.inr ⟨e, fun g => hq g.1⟩
    refine ⟨⟨(by unfold R32; omega), (by unfold R32; omega)⟩, fun _ => c_bitCount (x := mskL (rsN n 0 (X.getD i 0)) L) (by omega) rfl q1 (oI_i ⟨(by unfold R32; omega), fun c => fin93 0 (.n (by omega)), fun c => fin93 1 (.y (by omega))⟩), fun c => by omega⟩
  | succ j ih =>
    intro k hk
    have hl := hL
    unfold RLay at hl
    have hkl : k < L.length := by omega
    have hrk := hrow _ (getD_mem hkl)
    obtain ⟨e1, e2, -, -⟩ := rs_N (kn := 0) h3 h7 hrk hxi.1 (by rw [hxi.2]; decide)
    unfold VX11_sures_32
    simp only [hl, sI_K, sI_N, sI_R, sI_J, Option.some.injEq, exists_eq_left', true_and, and_true, Int.toNat_zero, Int.reduceToNat, Int.reduceLT, Int.reduceLE, Int.cast_ofNat_Int, forall_eq, ge_iff_le, Int.reduceNeg, Int.reduceAdd, Int.reduceSub, Int.reduceMul, Int.reduceEq, r32_0, r32_1, r32_m1, b01_0, b01_1, not_true_eq_false, not_false_eq_true, false_implies, true_implies, implies_true, forall_const]
    rw [hK.1, Int.toNat_natCast, hS.2 i hi]
    refine ⟨⟨(by unfold R32; omega), (by unfold R32; omega)⟩, fun _ => by omega, fun c => ⟨by omega, c_rowAt (r := 0) (p := k) (by omega) hL rfl rfl (by omega) (oI_i ⟨hL.1, ?_⟩)⟩⟩
    rw [hK.2 k hkl]
    refine c_riser (n := n) (kn := 0) (x := X.getD i 0) (by omega) hL h3 h7 hT rfl rfl rfl (by decide) (by omega) hrk (oI_i ?_)
    have q1 := mskL_lt (rsN n 0 (X.getD i 0)) (L.take k)
    have q2 : 2 ^ rsN n 0 (X.getD i 0) (L.getD k 0) ≤ 2 ^ 6 := Nat.pow_le_pow_right (by decide) (by omega)
    rw [e1, i1_shl (by omega), iOr_n (by omega) (by omega), ← mskL_s hkl (by omega), (show ∀ (k : Nat), (k : Int) + 1 = ((k + 1 : Nat) : Int) from fun _ => rfl) k]
    exact ih (by omega)
theorem f_su18 {d m n : Nat} {w : Nat → Int} {L X : List Nat} {S : MS} {Q : Out → MS → Prop} {bl : Int} (hd : 2 ≤ d) (hD : RD S m n w L) (hb : B01 bl) (hS : SL S m X) (hX : ∀ x ∈ X, x < 2 ^ n ∧ pc x = 3) (hi35 : X.length ≤ 35) (h : Q (.inl (some (vI (ct (suB n w L bl) X : Nat)))) S) : ∀ (j : Nat) {i : Nat}, i + j = X.length → VX11_sures_18 d Q (j + 1) m bl (ct (suB n w L bl) (X.take i) : Nat) (i : Nat) S := by
  have hL := hD.1
  intro j
  induction j with
  | zero =>
    intro i hi
    have hl := hL
    unfold RLay at hl
    unfold VX11_sures_18
    simp only [hl, sI_K, sI_N, sI_R, sI_J, Option.some.injEq, exists_eq_left', true_and, and_true, Int.toNat_zero, Int.reduceToNat, Int.reduceLT, Int.reduceLE, Int.cast_ofNat_Int, forall_eq, ge_iff_le, Int.reduceNeg, Int.reduceAdd, Int.reduceSub, Int.reduceMul, Int.reduceEq, r32_0, r32_1, r32_m1, b01_0, b01_1, not_true_eq_false, not_false_eq_true, false_implies, true_implies, implies_true, forall_const]
    rw [hS.1]
    rw [show X.take i = X by rw [show i = X.length by omega]; exact List.take_length]
    exact ⟨⟨(by unfold R32; omega), (by unfold R32; omega)⟩, fun _ => h, fun c => by omega⟩
  | succ j ih =>
    intro i hi
    have hl := hL
    unfold RLay at hl
    unfold VX11_sures_18
    simp only [hl, sI_K, sI_N, sI_R, sI_J, Option.some.injEq, exists_eq_left', true_and, and_true, Int.toNat_zero, Int.reduceToNat, Int.reduceLT, Int.reduceLE, Int.cast_ofNat_Int, forall_eq, ge_iff_le, Int.reduceNeg, Int.reduceAdd, Int.reduceSub, Int.reduceMul, Int.reduceEq, r32_0, r32_1, r32_m1, b01_0, b01_1, not_true_eq_false, not_false_eq_true, false_implies, true_implies, implies_true, forall_const]
    rw [hS.1]
    refine ⟨⟨(by unfold R32; omega), (by unfold R32; omega)⟩, fun _ => by omega, fun c => ⟨L.length + 1, ?_⟩⟩
    have ih' := ih (i := i + 1) (by omega)
    rw [ct_s (by omega)] at ih'
    have := f_su32 (Q := Q) (c18 := VX11_sures_18 d Q (j + 1)) (i := i) (v := (ct (suB n w L bl) (X.take i) : Nat)) hd hD hb hS hX (by omega) hi35 (by
      rw [Int.natCast_add] at ih'
      have e : (((if suB n w L bl (X.getD i 0) = true then 1 else 0 : Nat)) : Int) = (if suB n w L bl (X.getD i 0) = true then 1 else 0 : Int) := by split <;> rfl
      rw [e] at ih'
      exact ih') L.length (k := 0) (by omega)
    rw [List.take_zero, mskL_0] at this
    exact this
noncomputable def A_sures (n : Nat) (w : Nat → Int) (bl : Int) : Nat := ct (suB n w (rowsL n w 0) bl) (cmb n n 3)
theorem c_sures {d m n : Nat} {S : MS} {Q : Out → MS → Prop} {bl : Int} (hd : 7 ≤ d) (hI : RI S m n) (hb : B01 bl) (h : ∀ S', RQ m S S' → S'.I m 0 = 0 → Q (.inl (some (vI (A_sures n (S.I (m+1)) bl : Nat)))) S') : Mw hX11_sures yX11_sures d [vA m, vI bl] S Q := by
  have hL := hI.1
  have hg := hI.2.1
  have ok := cmb_ok n (by have := hg.1.2.1; omega) 3 (by decide) (by decide)
  obtain ⟨dd, rfl⟩ : ∃ e, d = e + 1 := ⟨d - 1, by omega⟩
  refine MX11_sures ?_
  have hl := hL
  unfold RLay at hl
  unfold VX11_sures_0
  simp only [hl, sI_K, sI_N, sI_R, sI_J, Option.some.injEq, exists_eq_left', true_and, and_true, Int.toNat_zero, Int.reduceToNat, Int.reduceLT, Int.reduceLE, Int.cast_ofNat_Int, forall_eq, ge_iff_le, Int.reduceNeg, Int.reduceAdd, Int.reduceSub, Int.reduceMul, Int.reduceEq, r32_0, r32_1, r32_m1, b01_0, b01_1, not_true_eq_false, not_false_eq_true, false_implies, true_implies, implies_true, forall_const]
  refine l_lv (n := n) (by omega) hI (fun S1 q1 t1 d1 => oV_i ⟨d1.1.1, c_listsSets (n := n) (k := 3) (by omega) d1.1 (by rw [d1.2.1]; exact hg) rfl (by decide) ok.1 (fun S2 f2 s2 => oV_i ⟨(cmb n n 3).length + 1, ?_⟩)⟩)
  have d2 := d1.fr f2 (by decide) (by decide) (by decide) (by decide) (by decide) (by decide)
  have := f_su18 (Q := Q) (d := dd) (by omega) d2 hb s2 ok.2 ok.1 (h S2 (q1.fr f2 (by decide) (by decide) (by decide) (by decide) (by decide)) (by rw [f2.fld (by decide), t1])) (cmb n n 3).length (i := 0) (by omega)
  exact this
