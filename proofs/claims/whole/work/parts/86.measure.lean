theorem sh_ct {n : Nat} {p q : Nat → Bool} (hp : PS n p) : cntB (fun r => p r && inR n q r) 5056 = ct q (lsR p 5056) := by
  unfold ct lsR
  rw [List.filter_filter, len_cnt]
  refine cntB_cong (fun r _ => ?_)
  unfold inR
  rcases Nat.lt_or_ge r (fct n) with c | c
  · rw [decide_eq_true c, Bool.true_and, Bool.and_comm]
  · rw [hp r c, Bool.false_and, Bool.and_false]
theorem ls_len {n : Nat} {p : Nat → Bool} (h3 : 3 ≤ n) (h7 : n ≤ 7) (hp : PS n p) : (lsR p 5056).length ≤ 5040 := by
  have hf := fct_le h3 h7
  obtain ⟨j, hj⟩ : ∃ j, 5056 = fct n + j := ⟨5056 - fct n, by omega⟩
  rw [hj, lsR_tail j (fun r h1 _ => hp r h1), lsR_len]
  have := cntB_le p (fct n)
  omega
/-- a level's rows and where they lie -/
def HR (S : MS) (a n lo : Nat) (p : Nat → Bool) : Prop := RS_ S a p ∧ PS n p ∧ a + 3 ≤ lo
theorem kf_measure {d y n k lo hi li a i : Nat} {p : Nat → Bool} {Q : Out → MS → Prop} (hd : 2 ≤ d) (h3 : 3 ≤ n) (h7 : n ≤ 7) (hk : k < 3) (hi' : i < (cmb n n (pansK k)).length) (hp : PS n p) (halo : a + 3 ≤ lo) : ∀ (q : Nat) {S : MS} {j : Nat}, j + q = pansK k → LY S y n k lo hi li → S.K li = 13 → RS_ S a p → S.I y 2 = (mxB (fun j => rc n k ((cmb n n (pansK k)).getD i 0) (lsR p 5056) (mbN ((cmb n n (pansK k)).getD i 0) j)) j : Nat) → S.I y 3 = (smB (fun j => sqs (rc n k ((cmb n n (pansK k)).getD i 0) (lsR p 5056)) (mbN ((cmb n n (pansK k)).getD i 0) j)) j : Nat) → (∀ S', Fi y (y+1) S S' → Fz lo hi li S S' → S'.I y 2 = (wst n k ((cmb n n (pansK k)).getD i 0) (lsR p 5056) : Nat) → S'.I y 3 = (spr n k ((cmb n n (pansK k)).getD i 0) (lsR p 5056) : Nat) → Q (.inl none) S') → VX2_measure_18 d Q (q + 1) y a (i : Nat) (((lsR p 5056).length : Int) - (smB (fun j => rc n k ((cmb n n (pansK k)).getD i 0) (lsR p 5056) (mbN ((cmb n n (pansK k)).getD i 0) j)) j : Nat)) (j : Nat) S := by
  have cx := (cmb_k (kn := k) h7).2 _ (getD_mem hi')
  generalize hxe : (cmb n n (pansK k)).getD i 0 = x at *
  have hm := hp.m
  have en := enum_all (n := n) (kn := k) (x := x) (L := lsR p 5056) h3 h7 hk cx.1 cx.2 (fun r hr => (hm r hr).1)
  have hW := Wn_le h3 h7
  have ha := hp.a h3 h7
  have pk : pansK k < 5 := by unfold pansK; split <;> (try split) <;> omega
  have ll := ls_len h3 h7 hp
  intro q
  induction q with
  | zero =>
    intro S j hj hY hK hR h2 hs3 h
    unfold VX2_measure_18
    rw [hY.1.2.2.1]
    rw [show j = pansK k by omega, ← en.1] at h2
    rw [show j = pansK k by omega, ← en.2.1] at hs3
    exact ⟨hY.1.1, ⟨(by unfold R32; omega), (by unfold R32; omega)⟩, fun _ => h S Fi.rf Fz.rf h2 hs3, fun c => by omega⟩
  | succ q ih =>
    intro S j hj hY hK hR h2 hs3 h
    have a1 := hY.1.1
    have yl := hY.1.2.1
    have rl := rc_le n k x (lsR p 5056) (mbN x j)
    have ml : mxB (fun j => rc n k x (lsR p 5056) (mbN x j)) j ≤ (lsR p 5056).length := mxB_le (fun k' _ => rc_le n k x (lsR p 5056) _)
    have es : smB (fun j => rc n k x (lsR p 5056) (mbN x j)) (j + 1) = smB (fun j => rc n k x (lsR p 5056) (mbN x j)) j + rc n k x (lsR p 5056) (mbN x j) := rfl
    have sm : smB (fun j => rc n k x (lsR p 5056) (mbN x j)) (j + 1) ≤ smB (fun j => rc n k x (lsR p 5056) (mbN x j)) (pansK k) := by
      have : ∀ u, smB (fun j => rc n k x (lsR p 5056) (mbN x j)) (j + 1) ≤ smB (fun j => rc n k x (lsR p 5056) (mbN x j)) (j + 1 + u) := by
        intro u
        induction u with
        | zero => exact Nat.le_refl _
        | succ u ihu => exact Nat.le_trans ihu (Nat.le_add_right _ _)
      have := this (pansK k - (j + 1))
      rw [show j + 1 + (pansK k - (j + 1)) = pansK k by omega] at this
      exact this
    have step : VX2_measure_53 d (VX2_measure_18 d Q (q + 1)) Q y a (i : Nat) (((lsR p 5056).length : Int) - (smB (fun j => rc n k x (lsR p 5056) (mbN x j)) j : Nat)) (j : Nat) (rc n k x (lsR p 5056) (mbN x j) : Nat) S := by
      unfold VX2_measure_53
      have F : Fi y (y+1) S ((S.setI y 2 (max (S.I y 2) (rc n k x (lsR p 5056) (mbN x j) : Nat))).setI y 3 ((S.setI y 2 (max (S.I y 2) (rc n k x (lsR p 5056) (mbN x j) : Nat))).I y 3 + (rc n k x (lsR p 5056) (mbN x j) : Nat) * (rc n k x (lsR p 5056) (mbN x j) : Nat))) := (Fi.sI (by omega)).tr (Fi.sI (by omega))
      have Z : Fz lo hi li S ((S.setI y 2 (max (S.I y 2) (rc n k x (lsR p 5056) (mbN x j) : Nat))).setI y 3 ((S.setI y 2 (max (S.I y 2) (rc n k x (lsR p 5056) (mbN x j) : Nat))).I y 3 + (rc n k x (lsR p 5056) (mbN x j) : Nat) * (rc n k x (lsR p 5056) (mbN x j) : Nat))) := (Fz.sy a1 (Or.inl rfl)).tr (Fz.sy (by exact a1) (Or.inr rfl))
      refine ⟨a1, ⟨by rw [h2]; exact (by unfold R32; omega), (by unfold R32; omega)⟩, a1, a1, a1, fun S1 e1 => ?_⟩
      rw [← e1] at F Z
      have := ih (S := S1) (j := j + 1) (by omega) (Z.ly hK hY) (by rw [F.1]; exact hK) (F.rs (by omega) hR) ?_ ?_ (fun S' f z => h S' (F.tr f) (Z.tr z))
      · rw [es] at this
        rw [show ((lsR p 5056).length : Int) - (smB (fun j => rc n k x (lsR p 5056) (mbN x j)) j : Nat) - (rc n k x (lsR p 5056) (mbN x j) : Nat) = ((lsR p 5056).length : Int) - ((smB (fun j => rc n k x (lsR p 5056) (mbN x j)) j + rc n k x (lsR p 5056) (mbN x j) : Nat) : Int) by omega]
        exact this
      · rw [e1, sI_I, if_neg (by omega), sI_I, if_pos ⟨rfl, rfl⟩, h2]
        show _ = ((max (mxB (fun j => rc n k x (lsR p 5056) (mbN x j)) j) (rc n k x (lsR p 5056) (mbN x j)) : Nat) : Int)
        omega
      · rw [e1, sI_I, if_pos ⟨rfl, rfl⟩, sI_I, if_neg (by omega), hs3]
        show _ = ((smB (fun j => sqs (rc n k x (lsR p 5056)) (mbN x j)) j + rc n k x (lsR p 5056) (mbN x j) * rc n k x (lsR p 5056) (mbN x j) : Nat) : Int)
        push_cast
        rfl
    unfold VX2_measure_18
    rw [hY.1.2.2.1]
    refine ⟨a1, ⟨(by unfold R32; omega), (by unfold R32; omega)⟩, fun c => by omega, fun _ => ⟨a1, ⟨(by unfold R32; omega), (by unfold R32; omega)⟩, fun c => ⟨a1, k_risingAt (by omega) h7 hY hi' (by omega) rfl rfl (fun e r1 r2 => oA_i ⟨hR.1.1, c_rShared hd hW.1 ha.2 hR r2 (oI_i ?_)⟩)⟩, fun c => ?_⟩⟩
    · rw [sh_ct hp, hxe]
      exact step
    · have : ((lsR p 5056).length : Int) - (smB (fun j => rc n k x (lsR p 5056) (mbN x j)) j : Nat) = (rc n k x (lsR p 5056) (mbN x j) : Nat) := by
        have e3 := en.2.2
        rw [show pansK k = j + 1 by omega, es] at e3
        omega
      rw [this] at step ⊢
      exact step
theorem k_measure {d y n k lo hi li a i : Nat} {p : Nat → Bool} {S : MS} {Q : Out → MS → Prop} {x : Int} (hd : 3 ≤ d) (h3 : 3 ≤ n) (h7 : n ≤ 7) (hk : k < 3) (hi' : i < (cmb n n (pansK k)).length) (hx : x = (i : Int)) (hY : LY S y n k lo hi li) (hK : S.K li = 13) (hR : HR S a n lo p) (h : ∀ S', Fi y (y+1) S S' → Fz lo hi li S S' → S'.I y 2 = (wst n k ((cmb n n (pansK k)).getD i 0) (lsR p 5056) : Nat) → S'.I y 3 = (spr n k ((cmb n n (pansK k)).getD i 0) (lsR p 5056) : Nat) → Q (.inl none) S') : Mw hX2_measure yX2_measure d [vA y, vA a, vI x] S Q := by
  subst hx
  obtain ⟨hR, hp, halo⟩ := hR
  have sz : S.I a 0 = ((lsR p 5056).length : Nat) := by rw [lsR_len]; exact hR.2.2.2.2
  have a1 := hY.1.1
  have yl := hY.1.2.1
  obtain ⟨dd, rfl⟩ : ∃ e, d = e + 1 := ⟨d - 1, by omega⟩
  refine MX2_measure ?_
  unfold VX2_measure_0
  rw [sz]
  have F : Fi y (y+1) S ((S.setI y 2 0).setI y 3 0) := (Fi.sI (by omega)).tr (Fi.sI (by omega))
  have Z : Fz lo hi li S ((S.setI y 2 0).setI y 3 0) := (Fz.sy a1 (Or.inl rfl)).tr (Fz.sy (by exact a1) (Or.inr rfl))
  have := kf_measure (d := dd) (Q := Q) (a := a) (by omega) h3 h7 hk hi' hp halo (pansK k) (j := 0) (by omega) (Z.ly hK hY) (by rw [F.1]; exact hK) (F.rs (by omega) hR) (by rw [sI_I, if_neg (by omega), sI_I, if_pos ⟨rfl, rfl⟩]; rfl) (by rw [sI_I, if_pos ⟨rfl, rfl⟩]; rfl) (fun S' f z => h S' (F.tr f) (Z.tr z))
  rw [show (((lsR p 5056).length : Nat) : Int) - (smB (fun j => rc n k ((cmb n n (pansK k)).getD i 0) (lsR p 5056) (mbN ((cmb n n (pansK k)).getD i 0) j)) 0 : Nat) = ((lsR p 5056).length : Nat) from Int.sub_zero _] at this
  exact ⟨hR.1.1, a1, a1, _, this⟩
theorem kf_parts0 {d y n k lo hi li a i : Nat} {p : Nat → Bool} {S : MS} {Q : Out → MS → Prop} (hd : 1 ≤ d) (h3 : 3 ≤ n) (h7 : n ≤ 7) (hk : k < 3) (hi' : i < (cmb n n (pansK k)).length) (hY : LY S y n k lo hi li) (hR : RS_ S a p) (hp : PS n p) (h : ∀ q, BI q (∃ j, j < pansK k ∧ rc n k ((cmb n n (pansK k)).getD i 0) (lsR p 5056) (mbN ((cmb n n (pansK k)).getD i 0) j) = (lsR p 5056).length) → Q (.inl (some (vI q))) S) : ∀ (q : Nat) {j : Nat} {v : Int}, j + q = pansK k → BI v (∃ u, u < j ∧ rc n k ((cmb n n (pansK k)).getD i 0) (lsR p 5056) (mbN ((cmb n n (pansK k)).getD i 0) u) = (lsR p 5056).length) → VX2_partsNothing_5 d Q (q + 1) y a (i : Nat) v (j : Nat) S := by
  have hW := Wn_le h3 h7
  have ha := hp.a h3 h7
  have hm := hp.m
  have pk : pansK k < 5 := by unfold pansK; split <;> (try split) <;> omega
  have a1 := hY.1.1
  intro q
  induction q with
  | zero =>
    intro j v hj hv
    unfold VX2_partsNothing_5 VX2_partsNothing_36
    rw [hY.1.2.2.1]
    rw [show j = pansK k by omega] at hv ⊢
    exact ⟨a1, ⟨(by unfold R32; omega), (by unfold R32; omega)⟩, fun _ => ⟨hv.b, h v hv⟩, fun c => by omega⟩
  | succ q ih =>
    intro j v hj hv
    unfold VX2_partsNothing_5 VX2_partsNothing_36
    rw [hY.1.2.2.1]
    refine ⟨a1, ⟨(by unfold R32; omega), (by unfold R32; omega)⟩, fun c => by omega, fun _ => ⟨hv.r, fun c => ⟨hv.b, ?_⟩, fun c => ⟨a1, k_risingAt hd h7 hY hi' (by omega) rfl rfl (fun e r1 r2 => oA_i ⟨hR.1.1, c_rWithin hd hW.1 ha.2 hR r2 (fun w hw => oI_i (ih (j := j + 1) (by omega) ?_))⟩)⟩⟩⟩
    · rcases hv with ⟨rfl, u, u1, u2⟩ | ⟨rfl, -⟩
      · exact h 1 (.y ⟨u, by omega, u2⟩)
      · exact absurd rfl c
    · have nv : ¬ ∃ u, u < j ∧ rc n k ((cmb n n (pansK k)).getD i 0) (lsR p 5056) (mbN ((cmb n n (pansK k)).getD i 0) u) = (lsR p 5056).length := by
        rcases hv with ⟨rfl, -⟩ | ⟨-, z⟩
        · exact absurd c (by decide)
        · exact z
      have i1 : (∀ r, p r = true → inR n (fun r => decide (rsN n k ((cmb n n (pansK k)).getD i 0) r = mbN ((cmb n n (pansK k)).getD i 0) j)) r = true) ↔ rc n k ((cmb n n (pansK k)).getD i 0) (lsR p 5056) (mbN ((cmb n n (pansK k)).getD i 0) j) = (lsR p 5056).length := by
        unfold rc
        rw [ct_all]
        constructor
        · intro z r hr
          have := z r (hm r hr).2
          unfold inR at this
          rw [Bool.and_eq_true] at this
          exact this.2
        · intro z r hr
          have hr' : r < fct n := by
            rcases Nat.lt_or_ge r (fct n) with g | g
            · exact g
            · rw [hp r g] at hr; exact absurd hr (by decide)
          have hf := fct_le h3 h7
          have := z r (by unfold lsR; rw [List.mem_filter, List.mem_range]; exact ⟨by omega, hr⟩)
          unfold inR
          rw [decide_eq_true hr', Bool.true_and]
          exact this
      rcases hw with ⟨rfl, z⟩ | ⟨rfl, z⟩
      · exact .y ⟨j, by omega, i1.mp z⟩
      · refine .n ?_
        rintro ⟨u, u1, u2⟩
        by_cases g : u = j
        · subst g; exact z (i1.mpr u2)
        · exact nv ⟨u, by omega, u2⟩
theorem mxB_at {g : Nat → Nat} : ∀ {t : Nat}, 0 < t → ∃ u, u < t ∧ g u = mxB g t
  | 1, _ => ⟨0, by omega, by show g 0 = max 0 (g 0); omega⟩
  | t + 2, _ => by
    obtain ⟨u, u1, u2⟩ := mxB_at (g := g) (t := t + 1) (by omega)
    rcases Nat.le_total (mxB g (t + 1)) (g (t + 1)) with c | c
    · exact ⟨t + 1, by omega, by show _ = max (mxB g (t + 1)) (g (t + 1)); omega⟩
    · exact ⟨u, by omega, by show _ = max (mxB g (t + 1)) (g (t + 1)); omega⟩
theorem k_partsNothing {d y n k lo hi li a i : Nat} {p : Nat → Bool} {S : MS} {Q : Out → MS → Prop} {x : Int} (hd : 2 ≤ d) (h3 : 3 ≤ n) (h7 : n ≤ 7) (hk : k < 3) (hi' : i < (cmb n n (pansK k)).length) (hx : x = (i : Int)) (hY : LY S y n k lo hi li) (hR : RS_ S a p) (hp : PS n p) (h : ∀ q, BI q (idl n k (lsR p 5056) ((cmb n n (pansK k)).getD i 0) = true) → Q (.inl (some (vI q))) S) : Mw hX2_partsNothing yX2_partsNothing d [vA y, vA a, vI x] S Q := by
  subst hx
  have hm := hp.m
  have cx := (cmb_k (kn := k) h7).2 _ (getD_mem hi')
  have en := enum_all (n := n) (kn := k) (x := (cmb n n (pansK k)).getD i 0) (L := lsR p 5056) h3 h7 hk cx.1 cx.2 (fun r hr => (hm r hr).1)
  have pk : 0 < pansK k := by unfold pansK; split <;> (try split) <;> omega
  have e : idl n k (lsR p 5056) ((cmb n n (pansK k)).getD i 0) = true ↔ ∃ j, j < pansK k ∧ rc n k ((cmb n n (pansK k)).getD i 0) (lsR p 5056) (mbN ((cmb n n (pansK k)).getD i 0) j) = (lsR p 5056).length := by
    unfold idl
    rw [decide_eq_true_iff, en.1]
    constructor
    · intro z
      obtain ⟨u, u1, u2⟩ := mxB_at (g := fun j => rc n k ((cmb n n (pansK k)).getD i 0) (lsR p 5056) (mbN ((cmb n n (pansK k)).getD i 0) j)) pk
      exact ⟨u, u1, by rw [← z]; exact u2⟩
    · rintro ⟨u, u1, u2⟩
      have a := mxB_ge (g := fun j => rc n k ((cmb n n (pansK k)).getD i 0) (lsR p 5056) (mbN ((cmb n n (pansK k)).getD i 0) j)) u1
      have b : mxB (fun j => rc n k ((cmb n n (pansK k)).getD i 0) (lsR p 5056) (mbN ((cmb n n (pansK k)).getD i 0) j)) (pansK k) ≤ (lsR p 5056).length := mxB_le (fun k' _ => rc_le n k _ (lsR p 5056) _)
      have a' : rc n k ((cmb n n (pansK k)).getD i 0) (lsR p 5056) (mbN ((cmb n n (pansK k)).getD i 0) u) ≤ _ := a
      omega
  rw [e] at h
  obtain ⟨dd, rfl⟩ : ∃ e, d = e + 1 := ⟨d - 1, by omega⟩
  refine MX2_partsNothing ?_
  unfold VX2_partsNothing_0
  exact ⟨_, kf_parts0 (by omega) h3 h7 hk hi' hY hR hp h (pansK k) (j := 0) (by omega) (.n (fun ⟨u, u1, _⟩ => absurd u1 (Nat.not_lt_zero u)))⟩
