/-! where one belongs, the fewest layings -/
theorem AN.one {x n i : Nat} {L : List Nat} {v : Int} {S S1 : MS} (h : AN S x n L) (e : ∀ u, u ≠ i → S1.I (x+55) u = S.I (x+55) u) (ei : S1.I (x+55) i = v) (hi : 9 ≤ i) (h9 : ∀ k, k < 3 → i = 9 + k → v = fwF n k L 9 0 0) (h12 : ∀ k, k < 3 → ∀ t, t < n → i = 12 + 7 * k + t → v = ((wkA n k (t : Int) L).1 : Nat)) : AN S1 x n L := by
  refine ⟨fun j hj => ?_, fun j hj => ?_, fun j hj t ht => ?_⟩
  · rw [e j (by omega), e (3 + j) (by omega), e (6 + j) (by omega)]
    exact h.1 j hj
  · by_cases c : 9 + j = i
    · rw [c, ei, h9 j hj c.symm]
      exact Or.inr rfl
    · rw [e _ c]
      exact h.2.1 j hj
  · by_cases c : 12 + 7 * j + t = i
    · rw [c, ei, h12 j hj t ht c.symm]
      exact Or.inr rfl
    · rw [e _ c]
      exact h.2.2 j hj t ht
theorem q_where {d x n : Nat} {w : Nat → Int} {t s : Int} {S : MS} {Q : Out → MS → Prop} (hd : 43 ≤ d) (hC : CI S x n w) (ht : R32 t) (hs : R32 s) (h : ∀ S', CI S' x n w → CJ x S S' → Q (oR (A_where n w t s) [iob]) S') : Mw hX10_where yX10_where d [vA x, vI t, vI s] S Q := by
  have g0 := hC.2.1.2.2.1
  unfold A_where at h
  obtain ⟨dd, rfl⟩ : ∃ e, d = e + 1 := ⟨d - 1, by omega⟩
  refine MX10_where ?_
  unfold VX10_where_0
  refine ⟨hC.1.1, k_needThing (by omega) hC ht (fun ct_ => xV_i ⟨hC.1.1, k_needScale (by omega) hC hs (fun c => xV_i ⟨hC.1.1, ?_⟩) (fun c => xV_x ?_)⟩) (fun ct_ => xV_x ?_)⟩
  · rw [if_pos ⟨ct_, c⟩, oR_0] at h
    have le36 := wkA_le (n := n) (kn := kd w s.toNat) (th := t) (L := rowsL n w 0)
    refine k_rowsLeft (by omega) hC (fun S1 b p W q1 => oA_i ?_)
    have hX := W.1.1.1
    have hb := W.1.2.2.1
    have i8 := W.1.1.i8
    obtain ⟨k1, k2, k3, k4, k5⟩ := W.1.1.kd_ (show s.toNat < sN w by omega)
    have et : ((t.toNat : Nat) : Int) = t := by omega
    have slot := W.an.2.2 (kd w s.toNat) k5 t.toNat (by omega)
    rw [et] at slot
    have es : ((12 : Int) + ((kd w s.toNat : Nat) : Int) * 7 + t).toNat = 12 + 7 * kd w s.toNat + t.toNat := by omega
    have fin : ∀ {S2 : MS}, WS S2 x n w b p → CQ x S S2 → S2.I (x+55) (12 + 7 * kd w s.toNat + t.toNat) ≠ -3 → VX10_where_99 dd Q x ((12 : Int) + ((kd w s.toNat : Nat) : Int) * 7 + t) S2 := by
      intro S2 W2 q2 nz
      unfold VX10_where_99
      rw [es]
      refine ⟨W2.1.1.1.1, x+55, W2.1.1.1.2.1.2.2.2.2.2.2.2.2.2.2.2, ⟨W2.1.1.1.2.2.2.2.2.2.2.2.2.2.1, by omega, by rw [W2.1.1.1.2.2.2.2.2.2.2.2.2.2.2]; omega⟩, ?_⟩
      have sl := W2.an.2.2 (kd w s.toNat) k5 t.toNat (by omega)
      rw [et] at sl
      rcases sl with z | z
      · exact absurd z nz
      · rw [z]
        exact h S2 W2.1.1 q2.j
    refine ⟨hX.1, x+12, hX.2.1.2.2.1, W.1.1.2.1.1.1, _, k1, ⟨k2, by omega, by rw [k3]; omega⟩, hX.1, x+55, hX.2.1.2.2.2.2.2.2.2.2.2.2.2, ?_⟩
    rw [k4, es]
    refine ⟨⟨hX.2.2.2.2.2.2.2.2.2.2.1, by omega, by rw [hX.2.2.2.2.2.2.2.2.2.2.2]; omega⟩, ⟨by rcases slot with z | z <;> (rw [z]; exact (by unfold R32; omega)), (by unfold R32; omega)⟩, fun nz => fin W q1.1 nz, fun z => ⟨hX.1, x+51, hX.2.1.2.2.2.2.2.2.2.2.1, hX.2.2.2.2.2.2.2.2.1.1, k_start (by omega) hX.2.2.2.2.2.2.2.2.1.1 (fun S4 f4 a4 => oV_i ?_)⟩⟩
    obtain ⟨W4, q4⟩ := W.lo f4 (by omega) (by omega) (lvl_sm (f4.sm (by omega)) (f4.sm (by omega)) W.1.1.2.2.1.2) (W.an.eq (by rw [f4.I (by omega)]))
    have V4 := W4.1.1.2.2.1.2
    obtain ⟨p0, hp0⟩ := (V4.2.2 0 (by omega)).2
    refine ⟨W4.1.1.1.1, x+50, W4.1.1.1.2.1.2.2.2.2.2.2.2.1, ⟨V4.1, by omega, by omega, by rw [V4.2.1]; omega⟩, x+56, (V4.2.2 0 (by omega)).1, hp0.1.1, c_rCopy (a := x+56) (by omega) (by omega) (W4.2.2.2.1.a g0.1 g0.2.1).1 W4.2.2.1 hp0 (fun S7 f7 r7 => oV_i ?_)⟩
    obtain ⟨W7, q7⟩ := W4.lo f7 (by omega) (by omega) (LVL.fl (j := 0) V4 f7 r7) (W4.an.eq (by rw [f7.I (by omega)]))
    have a7 : WA S7 (x+51) (0, 0, true) := by unfold WA; rw [f7.I (by omega)]; exact a4
    refine ⟨W7.1.1.1.1, x+51, W7.1.1.1.2.1.2.2.2.2.2.2.2.2.1, W7.1.1.1.1, k_allRowsW (by omega) W7.1 (oA_i ⟨W7.1.1.1.1, k_layingsOfW (s := s.toNat) (by omega) W7.1 (by omega) (by omega) (fun y hy => oA_i ⟨W7.1.1.1.1, x+50, W7.1.1.1.2.1.2.2.2.2.2.2.2.1, W7.1.1.1.2.2.2.2.2.2.2.2.1.1, ?_⟩)⟩)⟩
    refine W7.go (by omega) k5 (by omega) hy r7 a7 (fun S13 W13 q13 a13 => oV_i ?_)
    have hX13 := W13.1.1.1
    have k55 := hX13.2.2.2.2.2.2.2.2.2.2.1
    have n55 := hX13.2.2.2.2.2.2.2.2.2.2.2
    refine ⟨hX13.1, x+55, hX13.2.1.2.2.2.2.2.2.2.2.2.2.2, hX13.1, x+51, hX13.2.1.2.2.2.2.2.2.2.2.1, hX13.2.2.2.2.2.2.2.2.1.1, ⟨k55, by omega, by rw [n55]; omega⟩, ?_⟩
    rw [a13.1]
    have f14 : ∀ {v : Int}, Fi (x+55) (x+56) S13 (S13.setI (x+55) (12 + 7 * kd w s.toNat + t.toNat) v) := Fi.sI (by omega)
    have an := W13.an.one (S1 := S13.setI (x+55) (12 + 7 * kd w s.toNat + t.toNat) ((wkA n (kd w s.toNat) t (rowsL n w 0)).1 : Nat)) (i := 12 + 7 * kd w s.toNat + t.toNat) (fun u hu => by rw [sI_I, if_neg (fun z => hu z.2)]) (by rw [sI_I, if_pos ⟨rfl, rfl⟩]) (by omega) (fun k hk e => by omega) (fun k hk t' ht' e => by
      have e1 : k = kd w s.toNat := by omega
      have e2 : (t' : Int) = t := by omega
      rw [e1, e2])
    obtain ⟨W14, q14⟩ := W13.lo f14 (by omega) (by omega) (lvl_sm (f14.sm (by omega)) (f14.sm (by omega)) W13.1.1.2.2.1.2) an
    exact fin W14 ((((q1.1.tr q4).tr q7).tr q13).tr q14) (by rw [sI_I, if_pos ⟨rfl, rfl⟩]; omega)
  · rw [if_neg (fun z => c z.2), oR_1] at h
    exact h _ hC.junk (CQ.rf.jk hC.2.2.2.1.1)
  · rw [if_neg (fun z => ct_ z.1), oR_1] at h
    exact h _ hC.junk (CQ.rf.jk hC.2.2.2.1.1)
theorem q_fewest {d x n : Nat} {w : Nat → Int} {s : Int} {S : MS} {Q : Out → MS → Prop} (hd : 24 ≤ d) (hC : CI S x n w) (hs : R32 s) (h : ∀ S', CI S' x n w → CJ x S S' → Q (oR (A_fewest n w s) [iob]) S') : Mw hX10_fewest yX10_fewest d [vA x, vI s] S Q := by
  have g0 := hC.2.1.2.2.1
  unfold A_fewest at h
  obtain ⟨dd, rfl⟩ : ∃ e, d = e + 1 := ⟨d - 1, by omega⟩
  refine MX10_fewest ?_
  unfold VX10_fewest_0
  refine ⟨hC.1.1, k_needScale (by omega) hC hs (fun c => xV_i ⟨hC.1.1, ?_⟩) (fun c => xV_x ?_)⟩
  · rw [if_pos c, oR_0] at h
    have fr := fwF_r (n := n) (k := kd w s.toNat) (L := rowsL n w 0) 9 0 0
    refine k_rowsLeft (by omega) hC (fun S1 b p W q1 => oA_i ?_)
    have hX := W.1.1.1
    have hb := W.1.2.2.1
    have i8 := W.1.1.i8
    obtain ⟨k1, k2, k3, k4, k5⟩ := W.1.1.kd_ (show s.toNat < sN w by omega)
    have slot := W.an.2.1 (kd w s.toNat) k5
    have es : ((9 : Int) + ((kd w s.toNat : Nat) : Int)).toNat = 9 + kd w s.toNat := by omega
    have fin : ∀ {S2 : MS}, WS S2 x n w b p → CQ x S S2 → S2.I (x+55) (9 + kd w s.toNat) ≠ -3 → VX10_fewest_61 dd Q x ((9 : Int) + ((kd w s.toNat : Nat) : Int)) S2 := by
      intro S2 W2 q2 nz
      unfold VX10_fewest_61
      rw [es]
      refine ⟨W2.1.1.1.1, x+55, W2.1.1.1.2.1.2.2.2.2.2.2.2.2.2.2.2, ⟨W2.1.1.1.2.2.2.2.2.2.2.2.2.2.1, by omega, by rw [W2.1.1.1.2.2.2.2.2.2.2.2.2.2.2]; omega⟩, ?_⟩
      rcases W2.an.2.1 (kd w s.toNat) k5 with z | z
      · exact absurd z nz
      · rw [z]
        exact h S2 W2.1.1 q2.j
    refine ⟨hX.1, x+12, hX.2.1.2.2.1, W.1.1.2.1.1.1, _, k1, ⟨k2, by omega, by rw [k3]; omega⟩, hX.1, x+55, hX.2.1.2.2.2.2.2.2.2.2.2.2.2, ?_⟩
    rw [k4, es]
    refine ⟨⟨hX.2.2.2.2.2.2.2.2.2.2.1, by omega, by rw [hX.2.2.2.2.2.2.2.2.2.2.2]; omega⟩, ⟨by rcases slot with z | z <;> (rw [z]; exact (by unfold R32; omega)), (by unfold R32; omega)⟩, fun nz => fin W q1.1 nz, fun z => ⟨hX.1, x+55, hX.2.1.2.2.2.2.2.2.2.2.2.2.2, hX.1, x+52, hX.2.1.2.2.2.2.2.2.2.2.2.1, hX.1, k_allRowsW (by omega) W.1 (oA_i ⟨hX.1, k_layingsOfW (s := s.toNat) (by omega) W.1 (by omega) (by omega) (fun y hy => oA_i ⟨hX.1, x+50, hX.2.1.2.2.2.2.2.2.2.1, hX.2.2.2.2.2.2.2.2.1.2, k_leastLayings g0.1 g0.2.1 k5 (show x + 52 < x + 56 by omega) (by omega) (by omega) (by omega) hX.2.2.2.2.2.2.2.2.1.2 W.1.2.2.2 hy W.1.1.2.2.1.2 W.2.2.1 W.2.2.2.1 (fun S2 f2 V2 => oI_i ?_)⟩)⟩)⟩⟩
    have Q2 : QF x b (yk n b 3) S1 S2 := f2.qf (by omega) (Or.inr (by omega))
    have z2 : Fz b (yk n b 3) (b + 4) S1 S2 := ⟨f2.1, f2.2.1, f2.2.2.1, fun a h1 h2 => ⟨fun _ => (f2.2.2.2.2.2.2 a (by omega) (by omega) (by omega)).2, fun _ k _ => by rw [(f2.2.2.2.2.2.2 a (by omega) (by omega) (by omega)).1]⟩⟩
    have W2 : WS S2 x n w b p := W.q Q2 (z2.ar W.1.2.2.2) V2 (W.an.eq ((f2.2.2.2.2.2.2 (x+55) (by omega) (by omega) (by omega)).1))
    have hX2 := W2.1.1.1
    rw [W.2.2.2.2]
    refine ⟨⟨hX2.2.2.2.2.2.2.2.2.2.2.1, by omega, by rw [hX2.2.2.2.2.2.2.2.2.2.2.2]; omega⟩, ?_⟩
    have f3 : ∀ {v : Int}, Fi (x+55) (x+56) S2 (S2.setI (x+55) (9 + kd w s.toNat) v) := Fi.sI (by omega)
    have an := W2.an.one (S1 := S2.setI (x+55) (9 + kd w s.toNat) (fwF n (kd w s.toNat) (rowsL n w 0) 9 0 0)) (i := 9 + kd w s.toNat) (fun u hu => by rw [sI_I, if_neg (fun z => hu z.2)]) (by rw [sI_I, if_pos ⟨rfl, rfl⟩]) (by omega) (fun k hk e => by rw [show k = kd w s.toNat by omega]) (fun k hk t' ht' e => by omega)
    obtain ⟨W3, q3⟩ := W2.lo f3 (by omega) (by omega) (lvl_sm (f3.sm (by omega)) (f3.sm (by omega)) W2.1.1.2.2.1.2) an
    exact fin W3 ((q1.1.tr (Q2.cq hb)).tr q3) (by rw [sI_I, if_pos ⟨rfl, rfl⟩]; omega)
  · rw [if_neg c, oR_1] at h
    exact h _ hC.junk (CQ.rf.jk hC.2.2.2.1.1)
