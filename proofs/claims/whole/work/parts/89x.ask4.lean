/-! layings, walks, learning -/
theorem k_layingsOfW {d x n b s : Nat} {w : Nat → Int} {u : Int} {S : MS} {Q : Out → MS → Prop} (hd : 2 ≤ d) (hP : CP S x n w b) (eu : u = (s : Int)) (hs : s < sN w) (h : ∀ y, LY S y n (kd w s) b (yk n b 3) (b + 4) → Q (.inl (some (vA y))) S) : Mw hX10_layingsOf yX10_layingsOf d [vA x, vI u] S Q := by
  subst eu
  have hX := hP.1.1
  have i8 := hP.1.i8
  obtain ⟨k1, k2, k3, k4, k5⟩ := hP.1.kd_ hs
  obtain ⟨dd, rfl⟩ : ∃ e, d = e + 1 := ⟨d - 1, by omega⟩
  refine MX10_layingsOf ?_
  unfold VX10_layingsOf_0
  refine ⟨hX.1, k_allRowsW (by omega) hP (oA_i ⟨hX.1, x+12, hX.2.1.2.2.1, hP.1.2.1.1.1, _, k1, ⟨k2, by omega, by rw [k3]; omega⟩, hP.2.2.2.1.1, ?_⟩)⟩
  rw [Int.toNat_natCast]
  exact k_layings (by omega) hP.2.2.2 k4 k5 (fun y hy => oA_i (h y hy))
theorem k_layingsOf {d x n s : Nat} {w : Nat → Int} {u : Int} {S : MS} {Q : Out → MS → Prop} (hd : 8 ≤ d) (hC : CI S x n w) (eu : u = (s : Int)) (hs : s < sN w) (h : ∀ S' b y, CP S' x n w b → CR x S S' → LY S' y n (kd w s) b (yk n b 3) (b + 4) → Q (.inl (some (vA y))) S') : Mw hX10_layingsOf yX10_layingsOf d [vA x, vI u] S Q := by
  subst eu
  obtain ⟨dd, rfl⟩ : ∃ e, d = e + 1 := ⟨d - 1, by omega⟩
  refine MX10_layingsOf ?_
  unfold VX10_layingsOf_0
  refine ⟨hC.1.1, k_allRows (by omega) hC (fun S1 b C1 q1 W1 => oA_i ?_)⟩
  have hX := C1.1
  have i8 := C1.i8
  obtain ⟨k1, k2, k3, k4, k5⟩ := C1.kd_ hs
  refine ⟨hX.1, x+12, hX.2.1.2.2.1, C1.2.1.1.1, _, k1, ⟨k2, by omega, by rw [k3]; omega⟩, W1.2.2.1.1, ?_⟩
  rw [Int.toNat_natCast]
  exact k_layings (by omega) W1.2.2 k4 k5 (fun y hy => oA_i (h S1 b y ⟨C1, W1⟩ q1 hy))
theorem WS.eb {x n b b' : Nat} {w : Nat → Int} {p : Nat → Bool} {S S1 : MS} (h : CP S x n w b) (q : CR x S S1) (W : WS S1 x n w b' p) : b' = b := by
  have := q.1.2.2.2.2.2.2 _ _ h.2.1
  rw [W.1.2.1] at this
  exact Option.some.inj this
theorem LY.rg {S : MS} {y n k lo hi li : Nat} (h : LY S y n k lo hi li) : lo ≤ y ∧ y < hi := h.1.2.1
/-- a laying is measured: the world stays -/
theorem WS.ms {x n b y k : Nat} {w : Nat → Int} {p : Nat → Bool} {S S1 : MS} (h : WS S x n w b p) (hY : LY S y n k b (yk n b 3) (b + 4)) (f : Fi y (y+1) S S1) (z : Fz b (yk n b 3) (b + 4) S S1) : WS S1 x n w b p ∧ CQ x S S1 := by
  have rg := hY.rg
  have hb := h.1.2.2.1
  have Q2 : QF x b (yk n b 3) S S1 := f.qf (Or.inr (by omega))
  exact ⟨h.q Q2 (z.ar h.1.2.2.2) (lvl_sm (f.sm (by omega)) (f.sm (by omega)) h.1.1.2.2.1.2) (h.an.eq (by rw [f.I (by omega)])), Q2.cq hb⟩
theorem q_laying {d x n : Nat} {w : Nat → Int} {s u bl : Int} {S : MS} {Q : Out → MS → Prop} (hd : 9 ≤ d) (hC : CI S x n w) (hs : R32 s) (hu : R32 u) (hb : B01 bl) (h : ∀ S', CI S' x n w → CJ x S S' → Q (oR (A_laying n w s u bl) [iob, iae]) S') : Mw hX10_laying yX10_laying d [vA x, vI s, vI u, vI bl] S Q := by
  have g0 := hC.2.1.2.2.1
  unfold A_laying at h
  obtain ⟨dd, rfl⟩ : ∃ e, d = e + 1 := ⟨d - 1, by omega⟩
  refine MX10_laying ?_
  unfold VX10_laying_0
  refine ⟨hC.1.1, k_needScale (by omega) hC hs (fun c => xV_i ⟨hC.1.1, k_needLoad (s := s.toNat) (by omega) hC (by omega) (by omega) hu (fun cu => xV_i ⟨hC.1.1, ?_⟩) (fun cu => xV_x ?_)⟩) (fun c => xV_x ?_)⟩
  · rw [if_pos c, cD_y cu, oR_0] at h
    have cu3 := IsSet3 cu
    obtain ⟨i, i1, i2⟩ := cmb_ix (kn := kd w s.toNat) g0.2.1 (show u.toNat < 2 ^ n by omega) cu3.2.2
    refine k_layingsOf (s := s.toNat) (by omega) hC (by omega) (by omega) (fun S1 b y P1 q1 Y1 => oA_i ⟨P1.1.1.1, k_rowsLeft (by omega) P1.1 (fun S2 b' p W q2 => oA_i ?_)⟩)
    have eb := WS.eb P1 q2 W
    subst eb
    have Y2 := P1.mvR q2 Y1
    have k5 := (W.1.1.2.1.2.2.sc (show s.toNat < sN w by omega)).1.2
    refine ⟨Y2.1.1, k_indexOf (by omega) g0.2.1 Y2 i1 (by rw [i2]; omega) (oI_i ⟨Y2.1.1, k_measure (by omega) g0.1 g0.2.1 k5 i1 rfl Y2 W.1.2.2.2.2.2.2.1.2.2.1 ⟨W.2.2.1, W.2.2.2.1, by have := W.1.2.2.1; omega⟩ (fun S3 f3 z3 m2 m3 => oV_i ?_)⟩)⟩
    obtain ⟨W3, q3⟩ := W.ms Y2 f3 z3
    have fin := h S3 W3.1.1 ((q1.1.tr q2.1).tr q3).j
    have K3 : S3.K y = 2 := by rw [f3.1]; exact Y2.1.1
    rw [m2, m3, i2, W.2.2.2.2]
    refine ⟨b01_r hb, fun c2 => ⟨K3, ?_⟩, fun c2 => ⟨K3, ?_⟩⟩
    · rw [if_pos c2] at fin; exact fin
    · rw [if_neg c2] at fin; exact fin
  · rw [if_pos c, cD_n cu, oR_2] at h
    exact h _ hC.junk (CQ.rf.jk hC.2.2.2.1.1)
  · rw [if_neg c, oR_1] at h
    exact h _ hC.junk (CQ.rf.jk hC.2.2.2.1.1)
theorem q_next {d x n : Nat} {w : Nat → Int} {s : Int} {S : MS} {Q : Out → MS → Prop} (hd : 9 ≤ d) (hC : CI S x n w) (hs : R32 s) (h : ∀ S', CI S' x n w → CJ x S S' → Q (oR (A_next n w s) [iob]) S') : Mw hX10_next yX10_next d [vA x, vI s] S Q := by
  have g0 := hC.2.1.2.2.1
  unfold A_next at h
  obtain ⟨dd, rfl⟩ : ∃ e, d = e + 1 := ⟨d - 1, by omega⟩
  refine MX10_next ?_
  unfold VX10_next_0
  refine ⟨hC.1.1, k_needScale (by omega) hC hs (fun c => xV_i ⟨hC.1.1, ?_⟩) (fun c => xV_x ?_)⟩
  · rw [if_pos c, oR_0] at h
    refine k_layingsOf (s := s.toNat) (by omega) hC (by omega) (by omega) (fun S1 b y P1 q1 Y1 => oA_i ⟨P1.1.1.1, k_rowsLeft (by omega) P1.1 (fun S2 b' p W q2 => oA_i ?_)⟩)
    have eb := WS.eb P1 q2 W
    subst eb
    have Y2 := P1.mvR q2 Y1
    have k5 := (W.1.1.2.1.2.2.sc (show s.toNat < sN w by omega)).1.2
    have c35 := (cmb_k (kn := kd w s.toNat) g0.2.1).1
    refine ⟨Y2.1.1, k_best (by omega) g0.1 g0.2.1 k5 Y2 W.1.2.2.2.2.2.2.1.2.2.1 ⟨W.2.2.1, W.2.2.2.1, by have := W.1.2.2.1; omega⟩ (fun S3 v f3 z3 bs m2 m3 => oI_i ?_)⟩
    obtain ⟨W3, q3⟩ := W.ms Y2 f3 z3
    have Y3 := z3.ly W.1.2.2.2.2.2.2.1.2.2.1 Y2
    have fin := h S3 W3.1.1 ((q1.1.tr q2.1).tr q3).j
    rw [W.2.2.2.2] at bs
    rcases bs with ⟨b1, b2, b3⟩ | ⟨f, b1, b2, b3⟩
    · rw [b3] at fin
      refine ⟨Y3.1.1, k_setAt (by omega) g0.2.1 Y3 (by rw [b1]; exact (by unfold R32; omega)) (oI_i ?_)⟩
      rw [if_neg (by omega)]
      exact fin
    · rw [b3] at fin
      refine ⟨Y3.1.1, k_setAt (by omega) g0.2.1 Y3 (by rw [b2]; exact (by unfold R32; omega)) (oI_i ?_)⟩
      rw [if_pos (by omega), b2, Int.toNat_natCast]
      exact fin
  · rw [if_neg c, oR_1] at h
    exact h _ hC.junk (CQ.rf.jk hC.2.2.2.1.1)
theorem q_bound {d x n : Nat} {w : Nat → Int} {s : Int} {S : MS} {Q : Out → MS → Prop} (hd : 9 ≤ d) (hC : CI S x n w) (hs : R32 s) (h : ∀ S', CI S' x n w → CJ x S S' → Q (oR (A_bound n w s) [iob]) S') : Mw hX10_bound yX10_bound d [vA x, vI s] S Q := by
  have g0 := hC.2.1.2.2.1
  have hf := fct_le g0.1 g0.2.1
  have rl := rows_le (w := w) (mask := 0) g0.1 g0.2.1
  unfold A_bound at h
  obtain ⟨dd, rfl⟩ : ∃ e, d = e + 1 := ⟨d - 1, by omega⟩
  refine MX10_bound ?_
  unfold VX10_bound_0
  refine ⟨hC.1.1, k_needScale (by omega) hC hs (fun c => xV_i ⟨hC.1.1, ?_⟩) (fun c => xV_x ?_)⟩
  · rw [if_pos c, oR_0] at h
    refine k_rowsLeft (by omega) hC (fun S2 b p W q2 => oA_i ⟨W.2.2.1.1.1, ?_⟩)
    have fin := h S2 W.1.1 q2.1.j
    have i8 := W.1.1.i8
    obtain ⟨k1, k2, k3, k4, k5⟩ := W.1.1.kd_ (show s.toNat < sN w by omega)
    have p4 : 2 ≤ pansK (kd w s.toNat) ∧ pansK (kd w s.toNat) ≤ 4 := by unfold pansK; split <;> (try split) <;> omega
    rw [W.sz]
    refine ⟨(by unfold R32; omega), fun c2 => ?_, fun c2 => ⟨W.1.1.1.1, k_allRowsW (by omega) W.1 (oA_i ⟨W.1.2.2.2.1.1, k_areKnown (by omega) g0.1 g0.2.1 W.1.2.2.2 W.2.2.1 W.2.2.2.1 (fun v hv => oI_i ⟨hv.r, fun c3 => ⟨W.2.2.1.1.1, W.1.1.1.1, x+12, W.1.1.1.2.1.2.2.1, W.1.1.2.1.1.1, _, k1, ⟨k2, by omega, by rw [k3]; omega⟩, ?_⟩, fun c3 => ?_⟩)⟩)⟩⟩
    · rw [cD_y (show Dn n (rowsL n w 0) from Or.inl (by omega))] at fin; exact fin
    · rw [W.2.2.2.2] at hv
      rw [cD_n (fun z => by rcases z with z | z; omega; rcases hv with ⟨rfl, -⟩ | ⟨-, k⟩; omega; exact k z)] at fin
      rw [W.sz]
      exact c_kPans (by omega) k4 k5 (oI_i (k_leastBound (by omega) rfl rfl p4.1 p4.2 (by omega) (oI_i fin)))
    · rw [W.2.2.2.2] at hv
      rw [cD_y (show Dn n (rowsL n w 0) from Or.inr (by rcases hv with ⟨-, k⟩ | ⟨rfl, -⟩; exact k; omega))] at fin
      exact fin
  · rw [if_neg c, oR_1] at h
    exact h _ hC.junk (CQ.rf.jk hC.2.2.2.1.1)
/-! kept answers -/
theorem fwF_r {n k : Nat} {L : List Nat} : ∀ (j a st : Nat), -2 ≤ fwF n k L j a st ∧ fwF n k L j a st ≤ (a : Int) + (j : Int)
  | 0, a, st => by unfold fwF; omega
  | j + 1, a, st => by
    unfold fwF
    split
    · omega
    · omega
    · rename_i st' _
      have := fwF_r (n := n) (k := k) (L := L) j (a + 1) st'
      omega
theorem k_start {d a : Nat} {S : MS} {Q : Out → MS → Prop} (hd : 1 ≤ d) (hK : S.K a = 9) (h : ∀ S', Fi a (a+1) S S' → WA S' a (0, 0, true) → Q (.inl none) S') : Mw hX9_start yX9_start d [vA a] S Q := by
  obtain ⟨dd, rfl⟩ : ∃ e, d = e + 1 := ⟨d - 1, by omega⟩
  refine MX9_start ?_
  unfold VX9_start_0
  refine ⟨hK, hK, ⟨hK, b01_1⟩, h _ ((Fi.sI (by omega)).tr ((Fi.sI (by omega)).tr (Fi.sI (by omega)))) ⟨?_, ?_, ?_⟩⟩
  · rw [sI_I, if_neg (by omega), sI_I, if_neg (by omega), sI_I, if_pos ⟨rfl, rfl⟩]; rfl
  · rw [sI_I, if_neg (by omega), sI_I, if_pos ⟨rfl, rfl⟩]; rfl
  · rw [sI_I, if_pos ⟨rfl, rfl⟩]; rfl
/-- only cells of the levels, or the walk's, change -/
theorem WS.lo {x n b l h_ : Nat} {w : Nat → Int} {p : Nat → Bool} {S S1 : MS} (h : WS S x n w b p) (f : Fi l h_ S S1) (h1 : x + 50 ≤ l) (h2 : h_ ≤ x + 176) (hV : LVL S1 (x+50) (x+56)) (hN : AN S1 x n (rowsL n w 0)) : WS S1 x n w b p ∧ CQ x S S1 := by
  have hb := h.1.2.2.1
  have Q2 : QF x b (yk n b 3) S S1 := f.qf (Or.inl ⟨h1, h2⟩)
  exact ⟨h.q Q2 ((f.fz (by omega)).ar h.1.2.2.2) hV hN, Q2.cq hb⟩
theorem cls_0 {n k : Nat} {th : Int} {L : List Nat} : comb (0, 0, true) (cls n k th 36 0 L) = wkA n k th L := by
  rw [comb_0]
  unfold cls wkA
  rw [Nat.zero_mul, Nat.zero_add]
/-- a walk from the rows left -/
theorem WS.go {d x n b y k : Nat} {w : Nat → Int} {p : Nat → Bool} {th : Int} {S : MS} {Q : Out → MS → Prop} (hd : 41 ≤ d) (hk : k < 3) (hth : -1 ≤ th ∧ th < (n : Int)) (W : WS S x n w b p) (hY : LY S y n k b (yk n b 3) (b + 4)) (hL : RS_ S (x+56) p) (hA : WA S (x+51) (0, 0, true)) (h : ∀ S', WS S' x n w b p → CQ x S S' → WA S' (x+51) (wkA n k th (rowsL n w 0)) → Q (.inl none) S') : Mw hX9_go yX9_go d [vA (x+51), vA b, vA y, vA (x+50), vI 0, vI th] S Q := by
  have g0 := W.g
  have hb := W.1.2.2.1
  have rg := hY.rg
  refine k_go (b := b) (lev := 0) (p := p) (A := (0, 0, true)) g0.1 g0.2.1 hk hth (show x + 51 < x + 56 by omega) (by omega) 36 (Nat.lt_of_le_of_lt (pD_35 g0.2.1) (by decide)) (by omega) (by omega) rfl ⟨W.1.1.1.2.2.2.2.2.2.2.2.1.1, W.1.2.2.2, hY, W.1.1.2.2.1.2, hL, W.2.2.2.1, by omega⟩ hA (by decide) (fun S1 f1 z1 v1 a1 => ?_)
  rw [cls_0, W.2.2.2.2] at a1
  have Q1 : QF x b (yk n b 3) S S1 := f1.qf (by omega) (Or.inl rg)
  exact h S1 (W.q Q1 (z1.ar W.1.2.2.2) v1 (W.an.eq ((f1.2.2.2.2.2.2 (x+55) (by omega) (by omega) (by omega)).1))) (Q1.cq hb) a1
def wvA (q : Nat) (A : Nat × Nat × Bool) : Int := if q = 0 then (A.1 : Int) else if q = 3 then (A.2.1 : Int) else (if A.2.2 then 1 else 0)
theorem AN.wk {x n k : Nat} {L : List Nat} {S S1 : MS} (h : AN S x n L) (hk : k < 3) (e : ∀ u, u ≠ k → u ≠ 3 + k → u ≠ 6 + k → S1.I (x+55) u = S.I (x+55) u) (e0 : S1.I (x+55) k = ((wkA n k (-1) L).1 : Nat)) (e3 : S1.I (x+55) (3 + k) = ((wkA n k (-1) L).2.1 : Nat)) (e6 : S1.I (x+55) (6 + k) = (if (wkA n k (-1) L).2.2 then 1 else 0 : Int)) : AN S1 x n L := by
  refine ⟨fun j hj => ?_, fun j hj => ?_, fun j hj t ht => ?_⟩
  · by_cases c : j = k
    · subst c
      exact Or.inr ⟨e0, e3, e6⟩
    · rw [e j (by omega) (by omega) (by omega), e (3 + j) (by omega) (by omega) (by omega), e (6 + j) (by omega) (by omega) (by omega)]
      exact h.1 j hj
  · rw [e _ (by omega) (by omega) (by omega)]
    exact h.2.1 j hj
  · rw [e _ (by omega) (by omega) (by omega)]
    exact h.2.2 j hj t ht
theorem k_walked {d x n k q : Nat} {w : Nat → Int} {u v : Int} {S : MS} {Q : Out → MS → Prop} (hd : 42 ≤ d) (hC : CI S x n w) (eu : u = (q : Int)) (ev : v = (k : Int)) (hq : q = 0 ∨ q = 3 ∨ q = 6) (hk : k < 3) (h : ∀ S', CI S' x n w → CQ x S S' → Q (.inl (some (vI (wvA q (wkA n k (-1) (rowsL n w 0)))))) S') : Mw hX10_walked yX10_walked d [vA x, vI u, vI v] S Q := by
  subst eu ev
  have g0 := hC.2.1.2.2.1
  have le36 := wkA_le (n := n) (kn := k) (th := -1) (L := rowsL n w 0)
  obtain ⟨dd, rfl⟩ : ∃ e, d = e + 1 := ⟨d - 1, by omega⟩
  refine MX10_walked ?_
  unfold VX10_walked_0
  have fin : ∀ {S1 : MS} {b p}, WS S1 x n w b p → CQ x S S1 → S1.I (x+55) k ≠ -3 → VX10_walked_114 dd Q x (q : Int) (k : Int) S1 := by
    intro S1 b p W q1 nz
    unfold VX10_walked_114
    rw [show ((q : Int) + (k : Int)).toNat = q + k by omega]
    refine ⟨W.1.1.1.1, x+55, W.1.1.1.2.1.2.2.2.2.2.2.2.2.2.2.2, ⟨W.1.1.1.2.2.2.2.2.2.2.2.2.2.1, by omega, by rw [W.1.1.1.2.2.2.2.2.2.2.2.2.2.2]; omega⟩, ?_⟩
    have f := h S1 W.1.1 q1
    rcases W.an.1 k hk with c | ⟨c0, c3, c6⟩
    · exact absurd c nz
    · unfold wvA at f
      rcases hq with rfl | rfl | rfl
      · rw [if_pos rfl] at f
        rw [Nat.zero_add, c0]
        exact f
      · rw [if_neg (by decide), if_pos rfl] at f
        rw [c3]
        exact f
      · rw [if_neg (by decide), if_neg (by decide)] at f
        rw [c6]
        exact f
  refine ⟨hC.1.1, k_rowsLeft (by omega) hC (fun S1 b p W q1 => oA_i ?_)⟩
  have hX := W.1.1.1
  have hb := W.1.2.2.1
  have ra : R32 (S1.I (x+55) k) := by
    rcases W.an.1 k hk with c | ⟨c, -, -⟩
    · rw [c]; exact (by unfold R32; omega)
    · rw [c]; exact (by unfold R32; omega)
  rw [show ((0 : Int) + (k : Int)).toNat = k by omega]
  refine ⟨hX.1, x+55, hX.2.1.2.2.2.2.2.2.2.2.2.2.2, ⟨hX.2.2.2.2.2.2.2.2.2.2.1, by omega, by rw [hX.2.2.2.2.2.2.2.2.2.2.2]; omega⟩, ⟨ra, (by unfold R32; omega)⟩, fun c => fin W q1.1 c, fun c => ⟨hX.1, x+51, hX.2.1.2.2.2.2.2.2.2.2.1, hX.2.2.2.2.2.2.2.2.1.1, k_start (by omega) hX.2.2.2.2.2.2.2.2.1.1 (fun S4 f4 a4 => oV_i ?_)⟩⟩
  obtain ⟨W4, q4⟩ := W.lo f4 (by omega) (by omega) (lvl_sm (f4.sm (by omega)) (f4.sm (by omega)) W.1.1.2.2.1.2) (W.an.eq (by rw [f4.I (by omega)]))
  have V4 := W4.1.1.2.2.1.2
  obtain ⟨p0, hp0⟩ := (V4.2.2 0 (by omega)).2
  refine ⟨W4.1.1.1.1, x+50, W4.1.1.1.2.1.2.2.2.2.2.2.2.1, ⟨V4.1, by omega, by omega, by rw [V4.2.1]; omega⟩, x+56, (V4.2.2 0 (by omega)).1, hp0.1.1, c_rCopy (a := x+56) (by omega) (by omega) (W4.2.2.2.1.a g0.1 g0.2.1).1 W4.2.2.1 hp0 (fun S7 f7 r7 => oV_i ?_)⟩
  obtain ⟨W7, q7⟩ := W4.lo f7 (by omega) (by omega) (LVL.fl (j := 0) V4 f7 r7) (W4.an.eq (by rw [f7.I (by omega)]))
  have a7 : WA S7 (x+51) (0, 0, true) := by unfold WA; rw [f7.I (by omega)]; exact a4
  refine ⟨W7.1.1.1.1, x+51, W7.1.1.1.2.1.2.2.2.2.2.2.2.2.1, W7.1.1.1.1, k_allRowsW (by omega) W7.1 (oA_i ⟨W7.1.1.1.1, k_allRowsW (by omega) W7.1 (oA_i ⟨W7.1.2.2.2.1.1, k_layings (by omega) W7.1.2.2.2 rfl hk (fun y hy => oA_i ⟨W7.1.1.1.1, x+50, W7.1.1.1.2.1.2.2.2.2.2.2.2.1, W7.1.1.1.2.2.2.2.2.2.2.2.1.1, ?_⟩)⟩)⟩)⟩
  refine W7.go (by omega) hk (by omega) hy r7 a7 (fun S13 W13 q13 a13 => oV_i ?_)
  have hX13 := W13.1.1.1
  have k55 := hX13.2.2.2.2.2.2.2.2.2.2.1
  have n55 := hX13.2.2.2.2.2.2.2.2.2.2.2
  rw [show ((3 : Int) + (k : Int)).toNat = 3 + k by omega]
  refine ⟨hX13.1, x+55, hX13.2.1.2.2.2.2.2.2.2.2.2.2.2, hX13.1, x+51, hX13.2.1.2.2.2.2.2.2.2.2.1, hX13.2.2.2.2.2.2.2.2.1.1, ⟨k55, by omega, by rw [n55]; omega⟩, hX13.1, x+55, hX13.2.1.2.2.2.2.2.2.2.2.2.2.2, hX13.1, x+51, hX13.2.1.2.2.2.2.2.2.2.2.1, hX13.2.2.2.2.2.2.2.2.1.1, ⟨k55, by omega, by show (3 : Int) + (k : Int) < S13.N (x+55); rw [n55]; omega⟩, fun S18 e18 => ?_⟩
  have f18 : Fi (x+55) (x+56) S13 S18 := by rw [e18]; exact (Fi.sI (by omega)).tr (Fi.sI (by omega))
  have i51 : S18.I (x+51) = S13.I (x+51) := f18.I (by omega)
  have i2 : S18.I (x+51) 2 = (if (wkA n k (-1) (rowsL n w 0)).2.2 then 1 else 0 : Int) := by rw [i51]; exact a13.2.2
  have last : ∀ z : Int, z = (if (wkA n k (-1) (rowsL n w 0)).2.2 then 1 else 0 : Int) → VX10_walked_113 dd Q x (q : Int) (k : Int) z (6 + (k : Int)) (x+55) S18 := by
    intro z hz
    unfold VX10_walked_113
    rw [show ((6 : Int) + (k : Int)).toNat = 6 + k by omega]
    refine ⟨⟨by rw [f18.1]; exact k55, by omega, by rw [f18.2.1, n55]; omega⟩, ?_⟩
    have fz : Fi (x+55) (x+56) S13 (S18.setI (x+55) (6 + k) z) := f18.tr (Fi.sI (by omega))
    have c0 : (S18.setI (x+55) (6 + k) z).I (x+55) k = ((wkA n k (-1) (rowsL n w 0)).1 : Nat) := by
      rw [sI_I, if_neg (by omega), e18, sI_I, if_neg (by omega), sI_I, if_pos ⟨rfl, rfl⟩]
      exact a13.1
    have c3 : (S18.setI (x+55) (6 + k) z).I (x+55) (3 + k) = ((wkA n k (-1) (rowsL n w 0)).2.1 : Nat) := by
      rw [sI_I, if_neg (by omega), e18, sI_I, if_pos ⟨rfl, rfl⟩, sI_Ia (by omega)]
      exact a13.2.1
    have c6 : (S18.setI (x+55) (6 + k) z).I (x+55) (6 + k) = (if (wkA n k (-1) (rowsL n w 0)).2.2 then 1 else 0 : Int) := by
      rw [sI_I, if_pos ⟨rfl, rfl⟩]; exact hz
    have an : AN (S18.setI (x+55) (6 + k) z) x n (rowsL n w 0) := W13.an.wk hk (fun u h1 h2 h4 => by rw [sI_I, if_neg (by omega), e18, sI_I, if_neg (by omega), sI_I, if_neg (by omega)]) c0 c3 c6
    obtain ⟨Wz, qz⟩ := W13.lo fz (by omega) (by omega) (lvl_sm (fz.sm (by omega)) (fz.sm (by omega)) W13.1.1.2.2.1.2) an
    exact fin Wz ((((q1.1.tr q4).tr q7).tr q13).tr qz) (by rw [c0]; omega)
  have hX18 : CX S18 x := hX13.mv (fun a _ _ => ⟨by rw [f18.1], by rw [f18.2.1]⟩) (fun a _ _ _ _ => by rw [f18.2.2.1])
  refine ⟨hX18.1, x+55, hX18.2.1.2.2.2.2.2.2.2.2.2.2.2, hX18.1, x+51, hX18.2.1.2.2.2.2.2.2.2.2.1, hX18.2.2.2.2.2.2.2.2.1.1, ?_⟩
  rw [i2]
  cases e : (wkA n k (-1) (rowsL n w 0)).2.2
  · exact ⟨r32_0, fun _ => last 0 (by rw [e]; rfl), fun c => absurd rfl c⟩
  · exact ⟨r32_1, fun c => absurd c (by decide), fun _ => last 1 (by rw [e]; rfl)⟩
theorem q_byNext {d x n : Nat} {w : Nat → Int} {s : Int} {S : MS} {Q : Out → MS → Prop} (hd : 43 ≤ d) (hC : CI S x n w) (hs : R32 s) (h : ∀ S', CI S' x n w → CJ x S S' → Q (oR (A_byNext n w s) [iob]) S') : Mw hX10_byNext yX10_byNext d [vA x, vI s] S Q := by
  unfold A_byNext at h
  have hX := hC.1
  have i8 := hC.i8
  obtain ⟨dd, rfl⟩ : ∃ e, d = e + 1 := ⟨d - 1, by omega⟩
  refine MX10_byNext ?_
  unfold VX10_byNext_0
  refine ⟨hC.1.1, k_needScale (by omega) hC hs (fun c => xV_i ?_) (fun c => xV_x ?_)⟩
  · rw [if_pos c, oR_0] at h
    obtain ⟨k1, k2, k3, k4, k5⟩ := hC.kd_ (show s.toNat < sN w by omega)
    exact ⟨hX.1, x+12, hX.2.1.2.2.1, hC.2.1.1.1, _, k1, ⟨k2, by omega, by rw [k3]; omega⟩, hX.1, k_walked (q := 0) (by omega) hC rfl k4 (Or.inl rfl) k5 (fun S' C' q' => oI_i (h S' C' q'.j))⟩
  · rw [if_neg c, oR_1] at h
    exact h _ hC.junk (CQ.rf.jk hC.2.2.2.1.1)
theorem q_mean {d x n : Nat} {w : Nat → Int} {s : Int} {S : MS} {Q : Out → MS → Prop} (hd : 43 ≤ d) (hC : CI S x n w) (hs : R32 s) (h : ∀ S', CI S' x n w → CJ x S S' → Q (oR (A_mean n w s) [iob]) S') : Mw hX10_mean yX10_mean d [vA x, vI s] S Q := by
  unfold A_mean at h
  have hX := hC.1
  have i8 := hC.i8
  obtain ⟨dd, rfl⟩ : ∃ e, d = e + 1 := ⟨d - 1, by omega⟩
  refine MX10_mean ?_
  unfold VX10_mean_0
  refine ⟨hC.1.1, k_needScale (by omega) hC hs (fun c => xV_i ?_) (fun c => xV_x ?_)⟩
  · rw [if_pos c, oR_0] at h
    obtain ⟨k1, k2, k3, k4, k5⟩ := hC.kd_ (show s.toNat < sN w by omega)
    exact ⟨hX.1, x+12, hX.2.1.2.2.1, hC.2.1.1.1, _, k1, ⟨k2, by omega, by rw [k3]; omega⟩, hX.1, k_walked (q := 3) (by omega) hC rfl k4 (Or.inr (Or.inl rfl)) k5 (fun S' C' q' => oI_i (h S' C' q'.j))⟩
  · rw [if_neg c, oR_1] at h
    exact h _ hC.junk (CQ.rf.jk hC.2.2.2.1.1)
theorem kf_cheapest {d x n : Nat} {w : Nat → Int} {bl : Int} {Q : Out → MS → Prop} (hd : 42 ≤ d) (hb : B01 bl) : ∀ (j : Nat) {S : MS} {s : Nat}, s + j = sN w → CI S x n w → (∀ S', CI S' x n w → CQ x S S' → Q (.inl (some (vI (A_cheapest n w bl)))) S') → VX10_cheapest_7 d Q (j + 1) x bl (chF n w s).1 (if (chF n w s).1 < 0 then -1 else ((chF n w s).2 : Int)) (s : Nat) S := by
  intro j
  induction j with
  | zero =>
    intro S s hs hC h
    have hX := hC.1
    have i8 := hC.i8
    have cr := chF_r hC.2.1.2.2 (s := s) (by omega)
    have fin := h S hC CQ.rf
    unfold A_cheapest at fin
    rw [show sN w = s by omega] at fin
    unfold VX10_cheapest_7
    refine ⟨hX.1, x+12, hX.2.1.2.2.1, hC.2.1.1.1, ?_⟩
    rw [i8.1]
    refine ⟨⟨(by unfold R32; omega), (by unfold R32; omega)⟩, fun _ => ⟨b01_r hb, fun c => ?_, fun c => ?_⟩, fun c => by omega⟩
    · by_cases z : (chF n w s).1 < 0
      · rw [if_pos z] at fin
        rw [show (chF n w s).1 = -1 by omega]
        exact fin
      · rw [if_neg z, if_pos c] at fin
        exact fin
    · by_cases z : (chF n w s).1 < 0
      · rw [if_pos z] at fin ⊢
        exact fin
      · rw [if_neg z, if_neg c] at fin
        rw [if_neg z]
        exact fin
  | succ j ih =>
    intro S s hs hC h
    have hX := hC.1
    have i8 := hC.i8
    have hs' : s < sN w := by omega
    have cr := chF_r hC.2.1.2.2 (s := s) (by omega)
    obtain ⟨k1, k2, k3, k4, k5⟩ := hC.kd_ hs'
    have hl := hC.2.1.1
    unfold SY at hl
    have sc := hC.2.1.2.2.sc hs'
    have pr : S.I (x+12+3) s = (prc w s : Int) := by rw [(hC.2.1.2.1.2.2.1 s hs').2.1, sc.2.1.1]
    have le36 := wkA_le (n := n) (kn := kd w s) (th := -1) (L := rowsL n w 0)
    have mb : prc w s * (wkA n (kd w s) (-1) (rowsL n w 0)).1 ≤ 99 * 36 := Nat.mul_le_mul sc.2.1.2 le36
    have ech : chF n w (s + 1) = if (wkA n (kd w s) (-1) (rowsL n w 0)).2.2 = false ∨ (0 ≤ (chF n w s).1 ∧ (chF n w s).2 ≤ prc w s * (wkA n (kd w s) (-1) (rowsL n w 0)).1) then chF n w s else ((s : Int), prc w s * (wkA n (kd w s) (-1) (rowsL n w 0)).1) := rfl
    unfold VX10_cheapest_7 VX10_cheapest_84 VX10_cheapest_78
    refine ⟨hX.1, x+12, hX.2.1.2.2.1, hC.2.1.1.1, ?_⟩
    rw [i8.1]
    refine ⟨⟨(by unfold R32; omega), (by unfold R32; omega)⟩, fun c => by omega, fun _ => ⟨hX.1, x+12, hX.2.1.2.2.1, hl.1, x+12+3, hl.2.1.2.2.1, ⟨hl.2.2.1.2.2.1, by omega, by rw [hl.2.2.2.2.2.1]; omega⟩, hX.1, x+12, hX.2.1.2.2.1, hl.1, _, k1, ⟨k2, by omega, by rw [k3]; omega⟩, hX.1, ?_⟩⟩
    rw [Int.toNat_natCast, pr]
    refine k_walked (q := 0) hd hC rfl k4 (Or.inl rfl) k5 (fun S6 C6 q6 => oI_i ?_)
    obtain ⟨k1', k2', k3', k4', k5'⟩ := C6.kd_ hs'
    refine ⟨C6.1.1, x+12, C6.1.2.1.2.2.1, C6.2.1.1.1, _, k1', ⟨k2', by omega, by rw [k3']; omega⟩, C6.1.1, k_walked (q := 6) hd C6 rfl k4' (Or.inr (Or.inr rfl)) k5' (fun S9 C9 q9 => oI_i ?_)⟩
    have e0 : wvA 0 (wkA n (kd w s) (-1) (rowsL n w 0)) = ((wkA n (kd w s) (-1) (rowsL n w 0)).1 : Nat) := rfl
    have em : ((prc w s : Nat) : Int) * ((wkA n (kd w s) (-1) (rowsL n w 0)).1 : Nat) = ((prc w s * (wkA n (kd w s) (-1) (rowsL n w 0)).1 : Nat) : Int) := by push_cast; rfl
    rw [e0, em]
    have ih' := ih (s := s + 1) (by omega) C9 (fun S' C' q' => h S' C' ((q6.tr q9).tr q'))
    rw [ech] at ih'
    have e6 : wvA 6 (wkA n (kd w s) (-1) (rowsL n w 0)) = (if (wkA n (kd w s) (-1) (rowsL n w 0)).2.2 then 1 else 0 : Int) := rfl
    rw [e6]
    cases su : (wkA n (kd w s) (-1) (rowsL n w 0)).2.2
    · rw [if_pos (Or.inl su)] at ih'
      exact ⟨⟨r32_0, r32_1⟩, fun _ => ih', fun c => absurd c (by decide)⟩
    · refine ⟨⟨r32_1, r32_1⟩, fun c => absurd rfl c, fun _ => ⟨⟨(by unfold R32; omega), (by unfold R32; omega)⟩, fun c => ?_, fun c => ?_⟩⟩
      · rw [if_neg (fun z => by rcases z with z | z; rw [su] at z; cases z; omega)] at ih'
        rw [if_neg (by omega)] at ih'
        exact ih'
      · rw [if_neg (by omega)]
        refine ⟨⟨(by unfold R32; omega), (by unfold R32; omega)⟩, fun c2 => ?_, fun c2 => ?_⟩
        · rw [if_pos (Or.inr ⟨by omega, by omega⟩), if_neg (by omega)] at ih'
          exact ih'
        · rw [if_neg (fun z => by rcases z with z | z; rw [su] at z; cases z; omega)] at ih'
          rw [if_neg (by omega)] at ih'
          exact ih'
theorem q_cheapest {d x n : Nat} {w : Nat → Int} {bl : Int} {S : MS} {Q : Out → MS → Prop} (hd : 43 ≤ d) (hC : CI S x n w) (hb : B01 bl) (h : ∀ S', CI S' x n w → CQ x S S' → Q (.inl (some (vI (A_cheapest n w bl)))) S') : Mw hX10_cheapest yX10_cheapest d [vA x, vI bl] S Q := by
  obtain ⟨dd, rfl⟩ : ∃ e, d = e + 1 := ⟨d - 1, by omega⟩
  refine MX10_cheapest ?_
  unfold VX10_cheapest_0
  exact ⟨_, kf_cheapest (by omega) hb (sN w) (s := 0) (by omega) hC h⟩
