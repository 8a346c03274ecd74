theorem Mw.ex {hd : Cond} {y : MethodName} {d : Nat} {av : List Value} {S : MS} {P : Nat → MS → Prop} (h : Mw hd y d av S (oV (fun S' => ∃ q, P q S'))) : ∃ q, Mw hd y d av S (oV (P q)) := by
  obtain ⟨o, S', h1, h2⟩ := h
  rcases h1 with ⟨v, e, e2, q, hq⟩ | ⟨E, -, k⟩
  · exact ⟨q, o, S', Or.inl ⟨v, e, e2, hq⟩, h2⟩
  · exact k.elim
theorem Mw.exI {hd : Cond} {y : MethodName} {d : Nat} {av : List Value} {S : MS} {P : Nat → Int → MS → Prop} (h : Mw hd y d av S (oI (fun r S' => ∃ q, P q r S'))) : ∃ q, Mw hd y d av S (oI (P q)) := by
  obtain ⟨o, S', h1, h2⟩ := h
  rcases h1 with ⟨v, e, r, e2, q, hq⟩ | ⟨E, -, k⟩
  · exact ⟨q, o, S', Or.inl ⟨v, e, r, e2, hq⟩, h2⟩
  · exact k.elim
theorem c_arrives {d m n lev kn : Nat} {th : Int} {L : List Nat} {S : MS} {Q : Out → MS → Prop} {a : Nat × Nat × Bool} {x1 x2 : Int} (hd : 6 ≤ d) (hL : RLay S m) (hg : GW n (S.I (m+1))) (hT : Tb S m n) (hV : LV S m n lev L) (hA : Acc S m a) (ha : a.1 ≤ 100) (e1 : x1 = (lev : Int)) (e2 : x2 = (kn : Int)) (hk : kn < 3) (hth : -1 ≤ th ∧ th < (n : Int))
    (h : ∀ S', Fr m [12, 13, 14, 17, 18] BW S S' → WO m lev S S' → S'.I (m+17) lev = arF n kn th L → S'.I (m+18) lev = 0 → Acc S' m (comb a (w1 n kn th lev L)) → Q (.inl none) S') : Mw hX11_arrives yX11_arrives d [vA m, vI x1, vI x2, vI th] S Q := by
  subst e1 e2
  have h3 := hg.1.1
  have h7 := hg.1.2.1
  have hl := hL
  unfold RLay at hl
  obtain ⟨dd, rfl⟩ : ∃ e, d = e + 1 := ⟨d - 1, by omega⟩
  refine MX11_arrives ?_
  unfold VX11_arrives_0
  have lay : arF n kn th L = lf n kn L → VX11_arrives_17 dd Q m (lev : Nat) (kn : Nat) S := by
    intro e
    unfold VX11_arrives_17 VX11_arrives_18
    simp only [hl, sI_K, sI_N, sI_R, sI_J, Option.some.injEq, exists_eq_left', true_and, and_true, Int.toNat_zero, Int.reduceToNat, Int.reduceLT, Int.reduceLE, Int.cast_ofNat_Int, forall_eq, ge_iff_le, Int.reduceNeg, Int.reduceAdd, Int.reduceSub, Int.reduceMul, Int.reduceEq, r32_0, r32_1, r32_m1, b01_0, b01_1, not_true_eq_false, not_false_eq_true, false_implies, true_implies, implies_true, forall_const]
    refine c_laidFor (n := n) (l := lev) (kn := kn) (by omega) hL hg hT hV rfl rfl hk (fun S1 f1 => oI_i ?_)
    refine f_arr40 (n := n) (kn := kn) (th := th) (L := L) (by omega) (f1.lay hL) h3 h7 (f1.tb (by decide) (by decide) (by decide) hT) (f1.lv (by decide) (by decide) hV) (hA.fr f1 (by decide) (by decide) (by decide)) ha e.symm (fun S' f2 o2 k1 k2 k3 => h S' ((f1.wk (by decide) (by decide)).tr (f2.wk (by decide) (by decide))) ((WO.fr f1 (by decide) (by decide) (by decide) (by decide)).tr o2) k1 k2 k3)
  refine ⟨(by unfold R32; omega), fun c => lay (by unfold arF; rw [cD_n (by omega)]), fun c => ⟨hL.1, c_isPlaced (n := n) (l := lev) (t := th.toNat) (by omega) hL h3 h7 hT hV rfl (by omega) (by omega) (fun q hq => oI_i ⟨hq.r, fun c2 => lay ?_, fun c2 => ?_⟩)⟩⟩
  · unfold arF
    rw [cD_n]
    rintro ⟨-, k⟩
    rcases hq with ⟨rfl, -⟩ | ⟨-, hq⟩
    · omega
    · exact hq k
  · unfold VX11_arrives_18
    simp only [hl, sI_K, sI_N, sI_R, sI_J, Option.some.injEq, exists_eq_left', true_and, and_true, Int.toNat_zero, Int.reduceToNat, Int.reduceLT, Int.reduceLE, Int.cast_ofNat_Int, forall_eq, ge_iff_le, Int.reduceNeg, Int.reduceAdd, Int.reduceSub, Int.reduceMul, Int.reduceEq, r32_0, r32_1, r32_m1, b01_0, b01_1, not_true_eq_false, not_false_eq_true, false_implies, true_implies, implies_true, forall_const]
    refine f_arr40 (n := n) (kn := kn) (th := th) (L := L) (by omega) hL h3 h7 hT hV hA ha ?_ (fun S' f2 o2 k1 k2 k3 => h S' (f2.wk (by decide) (by decide)) o2 k1 k2 k3)
    unfold arF
    rw [cD_y]
    refine ⟨by omega, ?_⟩
    rcases hq with ⟨-, hq⟩ | ⟨rfl, -⟩
    · exact hq
    · omega
theorem w1_le {n kn : Nat} {th : Int} {lev : Nat} {L : List Nat} : (w1 n kn th lev L).1 = lev := by
  unfold w1
  split <;> rfl
theorem wk_1 {n kn : Nat} {th : Int} {f lev : Nat} {L : List Nat} : wk n kn th (f + 1) lev L = if arF n kn th L < 0 then w1 n kn th lev L else wkC (fun p => wk n kn th f (lev + 1) (prt n kn (arF n kn th L).toNat (mbN (arF n kn th L).toNat p) L)) (pansK kn) 0 (w1 n kn th lev L) := by
  show (if arF n kn th L < 0 then (lev, 0, dc (Dn n L)) else wkC (fun p => wk n kn th f (lev + 1) (prt n kn (arF n kn th L).toNat (mbN (arF n kn th L).toNat p) L)) (pansK kn) 0 (lev, L.length, true)) = _
  unfold w1
  split
  · rfl
  · rfl
/-- a walk never goes deeper than there are sets -/
theorem wk_le {n kn : Nat} {th : Int} : ∀ (f lev : Nat) (L : List Nat), (wk n kn th f lev L).1 ≤ lev + f
  | 0, lev, _ => Nat.le_refl _
  | f + 1, lev, L => by
    rw [wk_1]
    split
    · rw [w1_le]; omega
    · have : ∀ (j p : Nat) (a : Nat × Nat × Bool), a.1 ≤ lev + (f + 1) → (wkC (fun p => wk n kn th f (lev + 1) (prt n kn (arF n kn th L).toNat (mbN (arF n kn th L).toNat p) L)) j p a).1 ≤ lev + (f + 1) := by
        intro j
        induction j with
        | zero => intro p a ha; exact ha
        | succ j ih =>
          intro p a ha
          refine ih (p + 1) _ ?_
          have := wk_le (n := n) (kn := kn) (th := th) f (lev + 1) (prt n kn (arF n kn th L).toNat (mbN (arF n kn th L).toNat p) L)
          refine Nat.max_le.mpr ⟨ha, ?_⟩
          show (wk n kn th f (lev + 1) (prt n kn (arF n kn th L).toNat (mbN (arF n kn th L).toNat p) L)).1 ≤ _
          omega
      exact this _ _ _ (by rw [w1_le]; omega)
noncomputable def wkR (n kn : Nat) (th : Int) (f lev : Nat) (L : List Nat) (a : Nat × Nat × Bool) : Nat × Nat × Bool := if arF n kn th L < 0 then a else wkC (fun p => wk n kn th f (lev + 1) (prt n kn (arF n kn th L).toNat (mbN (arF n kn th L).toNat p) L)) (pansK kn) 0 a
theorem wkR_w {n kn : Nat} {th : Int} {f lev : Nat} {L : List Nat} {a : Nat × Nat × Bool} : wkR n kn th f lev L (comb a (w1 n kn th lev L)) = comb a (wk n kn th (f + 1) lev L) := by
  rw [wk_1]
  unfold wkR
  split
  · rfl
  · rw [wkC_as]
theorem wkC_le {g : Nat → Nat × Nat × Bool} {b : Nat} (hg : ∀ p, (g p).1 ≤ b) : ∀ (j p : Nat) (a : Nat × Nat × Bool), a.1 ≤ b → (wkC g j p a).1 ≤ b
  | 0, _, _, ha => ha
  | j + 1, p, a, ha => wkC_le hg j (p + 1) _ (Nat.max_le.mpr ⟨ha, hg p⟩)
theorem f_wk0 {d m n kn lev : Nat} {th : Int} {L : List Nat} {S : MS} {Q : Out → MS → Prop} {q : Nat} (hL : RLay S m) (h17 : S.I (m+17) lev = arF n kn th L) (hlev : lev < 36) (hr : -1 ≤ arF n kn th L) (c : arF n kn th L < 0) (hq : VX11_walks_28 d Q q m (kn : Nat) th ((lev : Int) - 1) S) : VX11_walks_28 d Q (q + 1) m (kn : Nat) th (lev : Nat) S := by
  have hl := hL
  unfold RLay at hl
  unfold VX11_walks_28 VX11_walks_60
  refine ⟨(by unfold R32; omega), fun c => by omega, fun _ => ?_⟩
  simp only [hl, sI_K, sI_N, sI_R, sI_J, Option.some.injEq, exists_eq_left', true_and, and_true, Int.toNat_zero, Int.reduceToNat, Int.reduceLT, Int.reduceLE, Int.cast_ofNat_Int, forall_eq, ge_iff_le, Int.reduceNeg, Int.reduceAdd, Int.reduceSub, Int.reduceMul, Int.reduceEq, r32_0, r32_1, r32_m1, b01_0, b01_1, not_true_eq_false, not_false_eq_true, false_implies, true_implies, implies_true, forall_const]
  rw [Int.toNat_natCast, h17]
  refine ⟨by omega, (by unfold R32; omega), fun c2 => by omega, fun _ => ?_⟩
  exact hq
/-- the walk's loop, from a node on -/
theorem f_walk {d m n kn : Nat} {w : Nat → Int} {th : Int} {Q : Out → MS → Prop} (hd : 6 ≤ d) (hg : GW n w) (hk : kn < 3) (hth : -1 ≤ th ∧ th < (n : Int)) : ∀ (f : Nat) {lev : Nat} {L : List Nat}, pD n kn L + lev ≤ 35 → pD n kn L ≤ f → lev + f ≤ 99 → ∀ {S : MS} {a : Nat × Nat × Bool}, RLay S m → S.I (m+1) = w → Tb S m n → LV S m n lev L → Acc S m a → a.1 ≤ 100 → S.I (m+17) lev = arF n kn th L → S.I (m+18) lev = 0 →
    (∀ S', Fr m AW BW S S' → WO m lev S S' → Acc S' m (wkR n kn th f lev L a) → ∃ q, VX11_walks_28 d Q q m (kn : Nat) th ((lev : Int) - 1) S') → ∃ q, VX11_walks_28 d Q q m (kn : Nat) th (lev : Nat) S := by
  have h3 := hg.1.1
  have h7 := hg.1.2.1
  have hpk := pansK_le kn
  intro f
  induction f with
  | zero =>
    intro lev L hD hf hlf S a hL hw hT hV hA ha h17 h18 h
    have hr := ar_n (kn := kn) (th := th) h7 hV.2.2.1
    have c : arF n kn th L < 0 := by
      rcases Int.lt_or_le (arF n kn th L) 0 with c | c
      · exact c
      · obtain ⟨nd, ex, xm, xw⟩ := ar_ok h7 c
        have := pD_lt (t := 0) h3 h7 hV.2.1 hk xm xw (by decide)
        omega
    obtain ⟨q, hq⟩ := h S Fr.rf WO.rf (by unfold wkR; rw [if_pos c]; exact hA)
    exact ⟨q + 1, f_wk0 hL h17 hV.2.2.2 hr.1 c hq⟩
  | succ f ih =>
    intro lev L hD hf hlf S a hL hw hT hV hA ha h17 h18 h
    have hl36 := hV.2.2.2
    have hr := ar_n (kn := kn) (th := th) h7 hV.2.2.1
    by_cases c : arF n kn th L < 0
    · obtain ⟨q, hq⟩ := h S Fr.rf WO.rf (by unfold wkR; rw [if_pos c]; exact hA)
      exact ⟨q + 1, f_wk0 hL h17 hV.2.2.2 hr.1 c hq⟩
    · obtain ⟨nd, ex, xm, xw⟩ := ar_ok h7 (show 0 ≤ arF n kn th L by omega)
      have hx := (cmb_k (kn := kn) h7).2 _ xm
      have p7 := p2_7 h7
      have pd0 := pD_lt (t := 0) h3 h7 hV.2.1 hk xm xw (by decide)
      generalize hG : (fun p => wk n kn th (f + 1) (lev + 1) (prt n kn (arF n kn th L).toNat (mbN (arF n kn th L).toNat p) L)) = G at h
      have hG1 : ∀ p, (G p).1 ≤ 100 := by
        intro p
        rw [← hG]
        exact Nat.le_trans (wk_le _ _ _) (by omega)
      -- from member p on
      have mem : ∀ (j : Nat) {p : Nat} {S1 : MS} {b : Nat × Nat × Bool}, p + j = pansK kn → Fr m AW BW S S1 → WO m lev S S1 → Acc S1 m b → b.1 ≤ 100 → S1.I (m+17) lev = arF n kn th L → S1.I (m+18) lev = (p : Nat) → wkC G j p b = wkC G (pansK kn) 0 a → ∃ q, VX11_walks_28 d Q q m (kn : Nat) th (lev : Nat) S1 := by
        intro j
        induction j with
        | zero =>
          intro p S1 b hp f1 o1 hA1 hb1 g17 g18 hc1
          have hL1 := f1.lay hL
          have hA2 : Acc S1 m (wkR n kn th (f + 1) lev L a) := by
            unfold wkR
            rw [if_neg c, hG, ← hc1]
            exact hA1
          obtain ⟨q, hq⟩ := h S1 f1 o1 hA2
          refine ⟨q + 1, ?_⟩
          have hl := hL1
          unfold RLay at hl
          unfold VX11_walks_28 VX11_walks_60
          refine ⟨(by unfold R32; omega), fun c => by omega, fun _ => ?_⟩
          simp only [hl, sI_K, sI_N, sI_R, sI_J, Option.some.injEq, exists_eq_left', true_and, and_true, Int.toNat_zero, Int.reduceToNat, Int.reduceLT, Int.reduceLE, Int.cast_ofNat_Int, forall_eq, ge_iff_le, Int.reduceNeg, Int.reduceAdd, Int.reduceSub, Int.reduceMul, Int.reduceEq, r32_0, r32_1, r32_m1, b01_0, b01_1, not_true_eq_false, not_false_eq_true, false_implies, true_implies, implies_true, forall_const]
          rw [Int.toNat_natCast, g17, g18]
          have mb := (mb_ok (arF n kn th L).toNat (by omega) p (by omega)).2 (by omega)
          refine ⟨by omega, (by unfold R32; omega), fun _ => ⟨by omega, by omega, c_memberOf (x := (arF n kn th L).toNat) (k := p) (by omega) ex rfl (by omega) (by omega) (oI_i ?_)⟩, fun c => by omega⟩
          rw [mb]
          exact ⟨r32_m1, fun c => by omega, fun _ => hq⟩
        | succ j ihj =>
          intro p S1 b hp f1 o1 hA1 hb1 g17 g18 hc1
          have hL1 := f1.lay hL
          have hw1 : S1.I (m+1) = w := by rw [f1.arr (by decide) (by decide), hw]
          have hT1 := f1.tb (by decide) (by decide) (by decide) hT
          have hV1 := o1.lv (Nat.le_refl _) hV
          have mb := (mb_ok (arF n kn th L).toNat (by omega) p (by omega)).1 (by omega)
          generalize hC : prt n kn (arF n kn th L).toNat (mbN (arF n kn th L).toNat p) L = C
          have pdl := pD_lt (t := mbN (arF n kn th L).toNat p) h3 h7 hV.2.1 hk xm xw mb.2.1
          rw [hC] at pdl
          -- what stands behind this member
          have next : ∀ (S2 : MS), Fr m AW BW S1 S2 → WO m lev S1 S2 → LV S2 m n (lev+1) C → Acc S2 m (comb b (w1 n kn th (lev+1) C)) → S2.I (m+17) lev = arF n kn th L → S2.I (m+18) lev = ((p + 1 : Nat) : Int) → S2.I (m+17) (lev+1) = arF n kn th C → S2.I (m+18) (lev+1) = 0 → ∃ q, VX11_walks_28 d Q q m (kn : Nat) th ((lev + 1 : Nat) : Int) S2 := by
            intro S2 f2 o2 hV2 hA2 k17 k18 k17' k18'
            have hL2 := f2.lay hL1
            have hw2 : S2.I (m+1) = w := by rw [f2.arr (by decide) (by decide), hw1]
            have hT2 := f2.tb (by decide) (by decide) (by decide) hT1
            refine ih (lev := lev + 1) (L := C) (by omega) (by omega) (by omega) hL2 hw2 hT2 hV2 hA2 (Nat.max_le.mpr ⟨hb1, by rw [w1_le]; omega⟩) k17' k18' (fun S3 f3 o3 hA3 => ?_)
            rw [show ((lev + 1 : Nat) : Int) - 1 = (lev : Nat) by omega]
            rw [wkR_w] at hA3
            have eG : G p = wk n kn th (f + 1) (lev + 1) C := by rw [← hG, ← hC]
            rw [← eG] at hA3
            exact ihj (p := p + 1) (by omega) (f1.tr (f2.tr f3)) (o1.tr (o2.tr o3.dn)) hA3 (Nat.max_le.mpr ⟨hb1, hG1 p⟩) (by rw [o3.2.2.1 lev (by omega), k17]) (by rw [o3.2.2.2 lev (by omega), k18]) hc1
          -- one step of the loop: it goes to a call that goes on
          have hl := hL1
          unfold RLay at hl
          have f2 : Fr m AW BW S1 (S1.setI (m+18) lev ((p : Int) + 1)) := Fr.sA (by decide) (by decide)
          have hV2 : LV (S1.setI (m+18) lev ((p : Int) + 1)) m n lev L := Fr.lv (A := [18]) (B := []) (Fr.sA (by decide) (by decide)) (by decide) (by decide) hV1
          have g17' : (S1.setI (m+18) lev ((p : Int) + 1)).I (m+17) lev = arF n kn th L := by rw [sI_Ia (by omega)]; exact g17
          -- the call of parts and arrives, for any fuel behind it: first find that fuel
          have : ∃ q, Mw hX11_parts yX11_parts d [vA m, vI (lev : Nat), vI (kn : Nat), vI (arF n kn th L), vI (mbN (arF n kn th L).toNat p : Nat)] (S1.setI (m+18) lev ((p : Int) + 1)) (oV (fun S3 => S3.K m = 11 ∧ Mw hX11_arrives yX11_arrives d [vA m, vI ((lev : Int) + 1), vI (kn : Nat), vI th] S3 (oV (fun S4 => VX11_walks_28 d Q q m (kn : Nat) th ((lev : Int) + 1) S4)))) := by
            refine Mw.ex (c_parts (n := n) (l := lev) (kn := kn) (x := (arF n kn th L).toNat) (t := mbN (arF n kn th L).toNat p) (by omega) (by exact hL1) h3 h7 (Fr.tb (A := [18]) (B := []) (Fr.sA (by decide) (by decide)) (by decide) (by decide) (by decide) hT1) hV2 rfl rfl ex rfl hk hx.1 hx.2 (by omega) mb.2.1 (fun S3 f3 o3 hV3 => oV_i ?_))
            rw [hC] at hV3
            have hL3 := f3.lay (show RLay (S1.setI (m+18) lev ((p : Int) + 1)) m by exact hL1)
            have f23 : Fr m AW BW S1 S3 := f2.tr (f3.wk (by decide) (by decide))
            have hA3 : Acc S3 m b := hA1.fr (A := [18, 8, 9]) (B := []) ((Fr.sA (by decide) (by decide)).tr (f3.wk (by decide) (by decide))) (by decide) (by decide) (by decide)
            have o13 : WO m lev S1 S3 := by
              refine ⟨fun q hq => ?_, fun q hq => ?_, fun q hq => ?_, fun q hq => ?_⟩
              · rw [o3.1 q (by omega), sI_Ia (by omega)]
              · rw [o3.2 q (by omega), sI_Ia (by omega)]
              · rw [f3.arr (by decide) (by decide), sI_Ia (by omega)]
              · rw [f3.arr (by decide) (by decide), sI_I, if_neg (by omega)]
            have r17 : S3.I (m+17) lev = arF n kn th L := by rw [f3.arr (by decide) (by decide)]; exact g17'
            have r18 : S3.I (m+18) lev = ((p + 1 : Nat) : Int) := by rw [f3.arr (by decide) (by decide), sI_I, if_pos ⟨rfl, rfl⟩]; rfl
            obtain ⟨q, hq⟩ := Mw.ex (P := fun q S4 => VX11_walks_28 d Q q m (kn : Nat) th ((lev : Int) + 1) S4) (c_arrives (n := n) (lev := lev + 1) (kn := kn) (th := th) (L := C) (a := b) (d := d) (x1 := (lev : Int) + 1) (x2 := (kn : Int)) (by omega) hL3 (by rw [f23.arr (by decide) (by decide), hw1]; exact hg) (f23.tb (by decide) (by decide) (by decide) hT1) hV3 hA3 hb1 rfl rfl hk hth (fun S4 f4 o4 k1 k2 k3 => oV_i (next S4 (f23.tr (f4.wk (by decide) (by decide))) (o13.tr o4.dn) (f4.lv (by decide) (by decide) hV3) k3 (by rw [o4.2.2.1 lev (by omega), r17]) (by rw [o4.2.2.2 lev (by omega), r18]) k1 k2)))
            exact ⟨q, hL3.1, hq⟩
          obtain ⟨q, hq⟩ := this
          refine ⟨q + 1, ?_⟩
          unfold VX11_walks_28 VX11_walks_60
          refine ⟨(by unfold R32; omega), fun c => by omega, fun _ => ?_⟩
          simp only [hl, sI_K, sI_N, sI_R, sI_J, Option.some.injEq, exists_eq_left', true_and, and_true, Int.toNat_zero, Int.reduceToNat, Int.reduceLT, Int.reduceLE, Int.cast_ofNat_Int, forall_eq, ge_iff_le, Int.reduceNeg, Int.reduceAdd, Int.reduceSub, Int.reduceMul, Int.reduceEq, r32_0, r32_1, r32_m1, b01_0, b01_1, not_true_eq_false, not_false_eq_true, false_implies, true_implies, implies_true, forall_const]
          rw [Int.toNat_natCast, g17, g18]
          refine ⟨by omega, (by unfold R32; omega), fun _ => ⟨by omega, by omega, c_memberOf (x := (arF n kn th L).toNat) (k := p) (by omega) ex rfl (by omega) (by omega) (oI_i ?_)⟩, fun c => by omega⟩
          rw [mb.1]
          refine ⟨(by unfold R32; omega), fun _ => ?_, fun c => by omega⟩
          simp only [hl, sI_K, sI_N, sI_R, sI_J, Option.some.injEq, exists_eq_left', true_and, and_true, Int.toNat_zero, Int.reduceToNat, Int.reduceLT, Int.reduceLE, Int.cast_ofNat_Int, forall_eq, ge_iff_le, Int.reduceNeg, Int.reduceAdd, Int.reduceSub, Int.reduceMul, Int.reduceEq, r32_0, r32_1, r32_m1, b01_0, b01_1, not_true_eq_false, not_false_eq_true, false_implies, true_implies, implies_true, forall_const]
          rw [g18, g17']
          exact ⟨by omega, by omega, by omega, hq⟩
      exact mem (pansK kn) (p := 0) (by omega) Fr.rf WO.rf hA ha h17 h18 rfl
/-- the whole walk -/
noncomputable def wkA (n kn : Nat) (th : Int) (L : List Nat) : Nat × Nat × Bool := wk n kn th 36 0 L
theorem pD_35 {n kn : Nat} {L : List Nat} (h7 : n ≤ 7) : pD n kn L ≤ 35 := Nat.le_trans (ct_le _ _) (cmb_k h7).1
theorem comb_0 (b : Nat × Nat × Bool) : comb (0, 0, true) b = b := by
  unfold comb
  simp
theorem c_walks {d m n kn : Nat} {th : Int} {S : MS} {Q : Out → MS → Prop} {x1 : Int} (hd : 7 ≤ d) (hI : RI S m n) (e1 : x1 = (kn : Int)) (hk : kn < 3) (hth : -1 ≤ th ∧ th < (n : Int))
    (h : ∀ S', RQ m S S' → S'.I m 0 = S.I m 0 → Acc S' m (wkA n kn th (rowsL n (S.I (m+1)) 0)) → Q (.inl none) S') : Mw hX11_walks yX11_walks d [vA m, vI x1, vI th] S Q := by
  subst e1
  have hL := hI.1
  have hg := hI.2.1
  have h7 := hg.1.2.1
  obtain ⟨dd, rfl⟩ : ∃ e, d = e + 1 := ⟨d - 1, by omega⟩
  refine MX11_walks ?_
  have hl := hL
  unfold RLay at hl
  unfold VX11_walks_0
  simp only [hl, sI_K, sI_N, sI_R, sI_J, Option.some.injEq, exists_eq_left', true_and, and_true, Int.toNat_zero, Int.reduceToNat, Int.reduceLT, Int.reduceLE, Int.cast_ofNat_Int, forall_eq, ge_iff_le, Int.reduceNeg, Int.reduceAdd, Int.reduceSub, Int.reduceMul, Int.reduceEq, r32_0, r32_1, r32_m1, b01_0, b01_1, not_true_eq_false, not_false_eq_true, false_implies, true_implies, implies_true, forall_const]
  refine l_leaves (n := n) (by omega) hI (fun S1 q1 t1 d1 => oV_i ?_)
  have hl := d1.1
  unfold RLay at hl
  simp only [hl, sI_K, sI_N, sI_R, sI_J, Option.some.injEq, exists_eq_left', true_and, and_true, Int.toNat_zero, Int.reduceToNat, Int.reduceLT, Int.reduceLE, Int.cast_ofNat_Int, forall_eq, ge_iff_le, Int.reduceNeg, Int.reduceAdd, Int.reduceSub, Int.reduceMul, Int.reduceEq, r32_0, r32_1, r32_m1, b01_0, b01_1, not_true_eq_false, not_false_eq_true, false_implies, true_implies, implies_true, forall_const]
  have f2 : Fr m [] [33, 34, 35] S1 (((S1.setI m 33 0).setI m 34 0).setI m 35 1) := (Fr.sB (by decide)).tr ((Fr.sB (by decide)).tr (Fr.sB (by decide)))
  generalize hS2 : ((S1.setI m 33 0).setI m 34 0).setI m 35 1 = S2 at f2 ⊢
  have hA2 : Acc S2 m (0, 0, true) := by
    rw [← hS2]
    refine ⟨?_, ?_, ?_⟩
    · rw [sI_I, if_neg (by omega), sI_I, if_neg (by omega), sI_I, if_pos ⟨rfl, rfl⟩]; rfl
    · rw [sI_I, if_neg (by omega), sI_I, if_pos ⟨rfl, rfl⟩]; rfl
    · rw [sI_I, if_pos ⟨rfl, rfl⟩]; rfl
  have d2 := d1.fr f2 (by decide) (by decide) (by decide) (by decide) (by decide) (by decide)
  have pd := pD_35 (kn := kn) (L := rowsL n (S.I (m+1)) 0) h7
  refine c_arrives (n := n) (lev := 0) (kn := kn) (th := th) (L := rowsL n (S.I (m+1)) 0) (a := (0, 0, true)) (by omega) d2.1 (by rw [d2.2.1]; exact hg) d2.2.2.2.1 d2.lv hA2 (by decide) rfl rfl hk hth (fun S3 f3 o3 k1 k2 k3 => oV_i ?_)
  have d3 := d2.fr f3 (by decide) (by decide) (by decide) (by decide) (by decide) (by decide)
  have hf := f_walk (Q := Q) (d := dd) (m := m) (kn := kn) (w := S.I (m+1)) (th := th) (by omega) hg hk hth 35 (lev := 0) (L := rowsL n (S.I (m+1)) 0) (by omega) pd (by omega) d3.1 d3.2.1 d3.2.2.2.1 d3.lv k3 (Nat.max_le.mpr ⟨by decide, by rw [w1_le]; decide⟩) k1 k2 (fun S4 f4 o4 k4 => ⟨1, ?_⟩)
  · exact hf
  · rw [wkR_w, comb_0] at k4
    unfold VX11_walks_28
    refine ⟨r32_m1, fun _ => h S4 ?_ ?_ k4, fun c => by omega⟩
    · exact ((q1.fr f2 (by decide) (by decide) (by decide) (by decide) (by decide)).fr f3 (by decide) (by decide) (by decide) (by decide) (by decide)).fr f4 (by decide) (by decide) (by decide) (by decide) (by decide)
    · rw [f4.fld (by decide), f3.fld (by decide), f2.fld (by decide), t1]
noncomputable def A_byNext (n : Nat) (w : Nat → Int) (s : Int) : Int × Int := if 0 ≤ s ∧ s < (sN w : Int) then (0, ((wkA n (kd w s.toNat) (-1) (rowsL n w 0)).1 : Nat)) else (1, 0)
theorem c_byNext {d m n : Nat} {S : MS} {Q : Out → MS → Prop} {s : Int} (hd : 8 ≤ d) (hI : RI S m n) (hs : R32 s) (h : ∀ S', RQ m S S' → S'.I m 0 = (A_byNext n (S.I (m+1)) s).1 → Q (.inl (some (vI (A_byNext n (S.I (m+1)) s).2))) S') : Mw hX11_byNext yX11_byNext d [vA m, vI s] S Q := by
  have hL := hI.1
  have hg := hI.2.1
  have h3 := hg.1.1
  have e0 : (S.setI m 0 0).I (m+1) = S.I (m+1) := sI_Ia (by omega)
  obtain ⟨dd, rfl⟩ : ∃ e, d = e + 1 := ⟨d - 1, by omega⟩
  refine MX11_byNext ?_
  have hl := hL
  unfold RLay at hl
  unfold VX11_byNext_0
  simp only [hl, sI_K, sI_N, sI_R, sI_J, Option.some.injEq, exists_eq_left', true_and, and_true, Int.toNat_zero, Int.reduceToNat, Int.reduceLT, Int.reduceLE, Int.cast_ofNat_Int, forall_eq, ge_iff_le, Int.reduceNeg, Int.reduceAdd, Int.reduceSub, Int.reduceMul, Int.reduceEq, r32_0, r32_1, r32_m1, b01_0, b01_1, not_true_eq_false, not_false_eq_true, false_implies, true_implies, implies_true, forall_const]
  refine l_noS (n := n) (by omega) hI hs (fun r hr => oI_i ⟨hL.1, t_if (by omega) (by exact hL) hr (fun c => oI_i ?_) (fun c => oI_i ?_)⟩)
  · have c' : 0 ≤ s ∧ s < (sN (S.I (m+1)) : Int) := Classical.byContradiction c
    have g1 := hg.2.1
    have b := hg.sc (s := s.toNat) (by omega)
    simp only [hl, sI_K, sI_N, sI_R, sI_J, Option.some.injEq, exists_eq_left', true_and, and_true, Int.toNat_zero, Int.reduceToNat, Int.reduceLT, Int.reduceLE, Int.cast_ofNat_Int, forall_eq, ge_iff_le, Int.reduceNeg, Int.reduceAdd, Int.reduceSub, Int.reduceMul, Int.reduceEq, r32_0, r32_1, r32_m1, b01_0, b01_1, not_true_eq_false, not_false_eq_true, false_implies, true_implies, implies_true, forall_const]
    refine c_ofScale (i := s.toNat) (q := 0) (by omega) (by exact hL) (by omega) rfl (by omega) (by decide) (oI_i ⟨hL.1, ?_⟩)
    rw [e0]
    refine c_walks (n := n) (kn := kd (S.I (m+1)) s.toNat) (by omega) (hI.s0 0) b.1.1 b.1.2 (by omega) (fun S1 q1 t1 a1 => oV_i ⟨(q1.1.lay (by exact hL)).1, ?_⟩)
    rw [e0] at a1
    rw [a1.1]
    exact fin h (by unfold A_byNext; rw [if_pos c']) ((RQ.s0 hI.2.2).tr q1) (by rw [t1, sI_I, if_pos ⟨rfl, rfl⟩])
  · simp only [hl, sI_K, sI_N, sI_R, sI_J, Option.some.injEq, exists_eq_left', true_and, and_true, Int.toNat_zero, Int.reduceToNat, Int.reduceLT, Int.reduceLE, Int.cast_ofNat_Int, forall_eq, ge_iff_le, Int.reduceNeg, Int.reduceAdd, Int.reduceSub, Int.reduceMul, Int.reduceEq, r32_0, r32_1, r32_m1, b01_0, b01_1, not_true_eq_false, not_false_eq_true, false_implies, true_implies, implies_true, forall_const]
    exact fin h (by unfold A_byNext; rw [if_neg c]) (rq_x hI) rq_t
noncomputable def A_mean (n : Nat) (w : Nat → Int) (s : Int) : Int × Int := if 0 ≤ s ∧ s < (sN w : Int) then (0, ((wkA n (kd w s.toNat) (-1) (rowsL n w 0)).2.1 : Nat)) else (1, 0)
theorem c_mean {d m n : Nat} {S : MS} {Q : Out → MS → Prop} {s : Int} (hd : 8 ≤ d) (hI : RI S m n) (hs : R32 s) (h : ∀ S', RQ m S S' → S'.I m 0 = (A_mean n (S.I (m+1)) s).1 → Q (.inl (some (vI (A_mean n (S.I (m+1)) s).2))) S') : Mw hX11_mean yX11_mean d [vA m, vI s] S Q := by
  have hL := hI.1
  have hg := hI.2.1
  have h3 := hg.1.1
  have e0 : (S.setI m 0 0).I (m+1) = S.I (m+1) := sI_Ia (by omega)
  obtain ⟨dd, rfl⟩ : ∃ e, d = e + 1 := ⟨d - 1, by omega⟩
  refine MX11_mean ?_
  have hl := hL
  unfold RLay at hl
  unfold VX11_mean_0
  simp only [hl, sI_K, sI_N, sI_R, sI_J, Option.some.injEq, exists_eq_left', true_and, and_true, Int.toNat_zero, Int.reduceToNat, Int.reduceLT, Int.reduceLE, Int.cast_ofNat_Int, forall_eq, ge_iff_le, Int.reduceNeg, Int.reduceAdd, Int.reduceSub, Int.reduceMul, Int.reduceEq, r32_0, r32_1, r32_m1, b01_0, b01_1, not_true_eq_false, not_false_eq_true, false_implies, true_implies, implies_true, forall_const]
  refine l_noS (n := n) (by omega) hI hs (fun r hr => oI_i ⟨hL.1, t_if (by omega) (by exact hL) hr (fun c => oI_i ?_) (fun c => oI_i ?_)⟩)
  · have c' : 0 ≤ s ∧ s < (sN (S.I (m+1)) : Int) := Classical.byContradiction c
    have g1 := hg.2.1
    have b := hg.sc (s := s.toNat) (by omega)
    simp only [hl, sI_K, sI_N, sI_R, sI_J, Option.some.injEq, exists_eq_left', true_and, and_true, Int.toNat_zero, Int.reduceToNat, Int.reduceLT, Int.reduceLE, Int.cast_ofNat_Int, forall_eq, ge_iff_le, Int.reduceNeg, Int.reduceAdd, Int.reduceSub, Int.reduceMul, Int.reduceEq, r32_0, r32_1, r32_m1, b01_0, b01_1, not_true_eq_false, not_false_eq_true, false_implies, true_implies, implies_true, forall_const]
    refine c_ofScale (i := s.toNat) (q := 0) (by omega) (by exact hL) (by omega) rfl (by omega) (by decide) (oI_i ⟨hL.1, ?_⟩)
    rw [e0]
    refine c_walks (n := n) (kn := kd (S.I (m+1)) s.toNat) (by omega) (hI.s0 0) b.1.1 b.1.2 (by omega) (fun S1 q1 t1 a1 => oV_i ⟨(q1.1.lay (by exact hL)).1, ?_⟩)
    rw [e0] at a1
    rw [a1.2.1]
    exact fin h (by unfold A_mean; rw [if_pos c']) ((RQ.s0 hI.2.2).tr q1) (by rw [t1, sI_I, if_pos ⟨rfl, rfl⟩])
  · simp only [hl, sI_K, sI_N, sI_R, sI_J, Option.some.injEq, exists_eq_left', true_and, and_true, Int.toNat_zero, Int.reduceToNat, Int.reduceLT, Int.reduceLE, Int.cast_ofNat_Int, forall_eq, ge_iff_le, Int.reduceNeg, Int.reduceAdd, Int.reduceSub, Int.reduceMul, Int.reduceEq, r32_0, r32_1, r32_m1, b01_0, b01_1, not_true_eq_false, not_false_eq_true, false_implies, true_implies, implies_true, forall_const]
    exact fin h (by unfold A_mean; rw [if_neg c]) (rq_x hI) rq_t
