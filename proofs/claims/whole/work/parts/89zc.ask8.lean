/-! a tree of weighings; plays -/
theorem Lf.set {n k : Nat} {L : List Nat} {v : Int} (h7 : n ≤ 7) (h : Lf n k L v) : R32 v ∧ (if 0 ≤ v ∧ v < ((cmb n n (pansK k)).length : Int) then ((cmb n n (pansK k)).getD v.toNat 0 : Int) else -1) = lf n k L := by
  have c35 := (cmb_k (kn := k) h7).1
  rcases h with ⟨rfl, e⟩ | ⟨f, f1, rfl, e⟩
  · exact ⟨(by unfold R32; omega), by rw [if_neg (by omega), e]⟩
  · exact ⟨(by unfold R32; omega), by rw [if_pos (by omega), Int.toNat_natCast, e]⟩
theorem CP.ms {x n b y k : Nat} {w : Nat → Int} {S S1 : MS} (h : CP S x n w b) (hY : LY S y n k b (yk n b 3) (b + 4)) (f : Fi y (y+1) S S1) (z : Fz b (yk n b 3) (b + 4) S S1) : CP S1 x n w b ∧ CQ x S S1 := by
  have rg := hY.rg
  have hb := h.2.2.1
  have Q2 : QF x b (yk n b 3) S S1 := f.qf (Or.inr (by omega))
  exact ⟨h.q Q2 (z.ar h.2.2.2) (lvl_sm (f.sm (by omega)) (f.sm (by omega)) h.1.2.2.1.2) (fun hf => ((h.1.2.2.2.2.2 hf).2.2).eq (by rw [f.I (by omega)])), Q2.cq hb⟩
/-- parting the rows of the first level -/
theorem k_part {d x n b y k : Nat} {w : Nat → Int} {p : Nat → Bool} {S : MS} {P : Int → MS → Prop} (hd : 5 ≤ d) (hk : k < 3) (hP : CP S x n w b) (hY : LY S y n k b (yk n b 3) (b + 4)) (hR : RS_ S (x+56) p) (hp : PS n p) (h : ∀ S', CP S' x n w b → CQ x S S' → LY S' y n k b (yk n b 3) (b + 4) → RS_ S' (x+56) p → P (lf n k (lsR p 5056)) S') : Mw hX2_parting yX2_parting d [vA y, vA b, vA (x+56)] S (oI (fun r1 S1 => S1.K y = 2 ∧ Mw hX2_setAt yX2_setAt d [vA y, vI r1] S1 (oI P))) := by
  have g0 := hP.1.2.1.2.2.1
  have hb := hP.2.2.1
  have rg := hY.rg
  refine k_parting hd g0.1 g0.2.1 hk hP.2.2.2 hY ⟨hR, hp, by omega⟩ (fun S1 v f1 z1 l1 => oI_i ?_)
  obtain ⟨P1, q1⟩ := hP.ms hY f1 z1
  have Y1 := z1.ly hP.2.2.2.2.2.2.1.2.2.1 hY
  obtain ⟨l2, l3⟩ := l1.set g0.2.1
  refine ⟨Y1.1.1, k_setAt (by omega) g0.2.1 Y1 l2 (oI_i ?_)⟩
  rw [l3]
  exact h S1 P1 q1 Y1 (f1.rs (by omega) hR)
theorem sB_tk {v n : Nat} (hv : v < 256) (hn : n ≤ 7) : ((0 ≤ sB v - 48 ∧ sB v - 48 < (n : Int)) ↔ (0 ≤ (v : Int) - 48 ∧ (v : Int) - 48 < (n : Int))) ∧ ((0 ≤ (v : Int) - 48 ∧ (v : Int) - 48 < (n : Int)) → sB v = (v : Int)) := by
  unfold sB
  split <;> omega
theorem kf_tree46 {d x n b y k len : Nat} {w : Nat → Int} {tb : Nat → Nat} {bl : Int} {Q : Out → MS → Prop} (hd : 5 ≤ d) (hk : k < 3) (hbl : B01 bl) (hlen : len ≤ 400) : ∀ (j : Nat) {S : MS} {i : Nat} {p : Nat → Bool}, i + j = len → CP S x n w b → LY S y n k b (yk n b 3) (b + 4) → RS_ S (x+56) p → PS n p → TBy S (x+2) tb len → (∀ S' L, treF n k tb j i (lsR p 5056) = some L → CI S' x n w → CQ x S S' → Q (.inl (some (vI (if bl = 0 then (L.length : Int) else lf n k L)))) S') → (treF n k tb j i (lsR p 5056) = none → ∀ S', CI S' x n w → CQ x S S' → Q (.inr iae) (S'.junk 6)) → VX10_tree_46 d Q (j + 1) x bl (len : Nat) b y (x+56) (i : Nat) S := by
  intro j
  induction j with
  | zero =>
    intro S i p hi hP hY hR hp hB h1 h2
    have g0 := hP.1.2.1.2.2.1
    unfold VX10_tree_46
    refine ⟨⟨(by unfold R32; omega), (by unfold R32; omega)⟩, fun _ => ⟨b01_r hbl, fun c => ⟨hR.1.1, ?_⟩, fun c => ⟨hY.1.1, k_part hd hk hP hY hR hp (fun S1 P1 q1 Y1 R1 => ?_)⟩⟩, fun c => by omega⟩
    · have := h1 S _ rfl hP.1 CQ.rf
      rw [if_pos c, lsR_len] at this
      rw [hR.2.2.2.2]
      exact this
    · have := h1 S1 _ rfl P1.1 q1
      rw [if_neg c] at this
      exact this
  | succ j ih =>
    intro S i p hi hP hY hR hp hB h1 h2
    have g0 := hP.1.2.1.2.2.1
    have p7 := p2_7 g0.2.1
    have hW := Wn_le g0.1 g0.2.1
    have hb := hP.2.2.1
    have t1 := (hB.2 i (by omega)).1
    have s48 := sB_tk (n := n) t1 g0.2.1
    unfold VX10_tree_46 VX10_tree_110
    refine ⟨⟨(by unfold R32; omega), (by unfold R32; omega)⟩, fun c => by omega, fun _ => ⟨hY.1.1, k_part hd hk hP hY hR hp (fun S1 P1 q1 Y1 R1 => ?_)⟩⟩
    have hX1 := P1.1.1
    have B1 : TBy S1 (x+2) tb len := by unfold TBy; rw [q1.2.1 (x+2+1) (by omega) (by omega)]; exact hB
    have ln := lf_n (n := n) (kn := k) (L := lsR p 5056) g0.2.1 (ls_len g0.1 g0.2.1 hp)
    have no : ¬ (0 ≤ lf n k (lsR p 5056) ∧ (0 ≤ sB (tb i) - 48 ∧ sB (tb i) - 48 < (n : Int)) ∧ (lf n k (lsR p 5056)).toNat.testBit (sB (tb i) - 48).toNat = true) → Q (.inr iae) (S1.junk 6) := fun z => h2 (by unfold treF; rw [cD_n z]) S1 P1.1 q1
    refine ⟨hX1.1, x+2, hX1.2.1.2.1, hX1.2.2.2.2.1.1, k_tAt (by omega) hX1.2.2.2.2.1 B1 rfl (by omega) (oI_i ⟨⟨(by unfold R32; omega), (by unfold R32; omega)⟩, fun c => ⟨by omega, no (by omega)⟩, fun c => ⟨hX1.1, x+12, hX1.2.1.2.2.1, P1.1.2.1.1.1, c_isThing (by omega) P1.1.2.1 (by unfold R32; omega) (fun q hq => oI_i ⟨hq.r, fun c2 => ⟨by omega, no ?_⟩, fun c2 => ?_⟩)⟩⟩)⟩
    · intro z
      have := s48.1.mp z.2.1
      rcases hq with ⟨rfl, -⟩ | ⟨-, k⟩
      · omega
      · exact k this
    · have tk : 0 ≤ ((tb i : Nat) : Int) - 48 ∧ ((tb i : Nat) : Int) - 48 < (n : Int) := by
        rcases hq with ⟨-, k⟩ | ⟨rfl, -⟩
        · exact k
        · omega
      have es := s48.2 tk
      obtain ⟨l1, l2, l3, l4⟩ := lf_ok (kn := k) g0.2.1 (show 0 ≤ lf n k (lsR p 5056) by omega)
      have cm := (cmb_k (kn := k) g0.2.1).2 _ l3
      refine c_holds (x := (lf n k (lsR p 5056)).toNat) (t := tb i - 48) (by omega) l2 (by omega) (by omega) (by omega) (fun q2 hq2 => oI_i ⟨hq2.r, fun c3 => ⟨Y1.1.1, ?_⟩, fun c3 => ⟨by omega, no ?_⟩⟩)
      · have yb : (lf n k (lsR p 5056)).toNat.testBit (tb i - 48) = true := by
          rcases hq2 with ⟨-, k⟩ | ⟨rfl, -⟩
          · exact k
          · omega
        refine k_rising (x := (lf n k (lsR p 5056)).toNat) (t := tb i - 48) (by omega) g0.2.1 Y1 cm.1 cm.2 (by omega) yb l2 (by omega) (fun e e1 e2 => oA_i ⟨R1.1.1, c_rNarrow (by omega) (by omega) hW.1 (hp.a g0.1 g0.2.1).2 R1 e2 (fun S2 f2 R2 => oV_i ?_)⟩)
        have V2 := LVL.fl (j := 0) P1.1.2.2.1.2 f2 R2
        obtain ⟨P2, q2'⟩ := P1.lo f2 (by omega) (by omega) V2
        have rg := Y1.rg
        have Y2 := (f2.fz (lo := b) (hi := yk n b 3) (li := b + 4) (by omega)).ly P1.2.2.2.2.2.2.1.2.2.1 Y1
        have et : (sB (tb i) - 48).toNat = tb i - 48 := by omega
        have step : treF n k tb (j + 1) i (lsR p 5056) = treF n k tb j (i + 1) (lsR (fun r => p r && inR n (fun r => decide (rsN n k (lf n k (lsR p 5056)).toNat r = tb i - 48)) r) 5056) := by
          show cD _ _ _ = _
          rw [cD_y ⟨by omega, s48.1.mpr tk, by rw [et]; exact yb⟩, et, lsR_and hp]
          rfl
        rw [step] at h1 h2
        exact ih (i := i + 1) (by omega) P2 Y2 R2 (fun r hr => by show (p r && _) = false; rw [hp r hr, Bool.false_and]) (by unfold TBy; rw [q2'.2.1 (x+2+1) (by omega) (by omega)]; exact B1) (fun S' L e C' q' => h1 S' L e C' (q1.tr (q2'.tr q'))) (fun e S' C' q' => h2 e S' C' (q1.tr (q2'.tr q')))
      · intro z
        rw [es] at z
        have z2 := z.2.2
        rw [show (((tb i : Nat) : Int) - 48).toNat = tb i - 48 by omega] at z2
        rcases hq2 with ⟨rfl, -⟩ | ⟨-, k⟩
        · omega
        · exact k z2
theorem q_tree {d x n len : Nat} {w : Nat → Int} {tb : Nat → Nat} {s bl : Int} {S : MS} {Q : Out → MS → Prop} (hd : 9 ≤ d) (hC : CI S x n w) (hT : TW S (x+2) tb len) (hs : R32 s) (hbl : B01 bl) (h : ∀ S', CI S' x n w → CJt x S S' → Q (oR (A_tree n w tb len s bl) [iob, iae]) S') : Mw hX10_tree yX10_tree d [vA x, vI s, vI bl] S Q := by
  have hX := hC.1
  have g0 := hC.2.1.2.2.1
  have hlen := hT.2.1
  unfold A_tree at h
  obtain ⟨dd, rfl⟩ : ∃ e, d = e + 1 := ⟨d - 1, by omega⟩
  refine MX10_tree ?_
  unfold VX10_tree_0
  refine ⟨hX.1, x+2, hX.2.1.2.1, hX.2.2.2.2.1.1, k_useUp (by omega) hX.2.2.2.2.1 hT (fun S1 f1 b1 z1 => oI_i ?_)⟩
  have C1 := hC.low f1 (by omega) (by omega)
  refine ⟨C1.1.1, k_needScale (by omega) C1 hs (fun c => xV_i ⟨C1.1.1, ?_⟩) (fun c => xV_x ?_)⟩
  · rw [if_pos c] at h
    refine k_allRows (by omega) C1 (fun S2 b C2 q2 W2 => oA_i ⟨C2.1.1, k_layingsOfW (s := s.toNat) (by omega) ⟨C2, W2⟩ (by omega) (by omega) (fun y hy => oA_i ?_)⟩)
    have k5 := (C2.2.1.2.2.sc (show s.toNat < sN w by omega)).1.2
    have V2 := C2.2.2.1.2
    refine ⟨C2.1.1, x+50, C2.1.2.1.2.2.2.2.2.2.2.1, ⟨V2.1, by omega, by omega, by rw [V2.2.1]; omega⟩, x+56, (V2.2.2 0 (by omega)).1, C2.1.1, k_rowsLeft (by omega) C2 (fun S3 b' p W q3 => oA_i ?_)⟩
    have P2 : CP S2 x n w b := ⟨C2, W2⟩
    have eb := WS.eb P2 q3 W
    subst eb
    have Y3 := P2.mvR q3 hy
    have V3 := W.1.1.2.2.1.2
    obtain ⟨p0, hp0⟩ := (V3.2.2 0 (by omega)).2
    refine ⟨hp0.1.1, c_rCopy (a := x+56) (by omega) (by omega) (W.2.2.2.1.a g0.1 g0.2.1).1 W.2.2.1 hp0 (fun S4 f4 r4 => oV_i ⟨len + 1, ?_⟩)⟩
    obtain ⟨P4, q4⟩ := W.1.lo f4 (by omega) (by omega) (LVL.fl (j := 0) V3 f4 r4)
    have hb := P4.2.2.1
    have rg := Y3.rg
    have Y4 := (f4.fz (lo := b') (hi := yk n b' 3) (li := b' + 4) (by omega)).ly W.1.2.2.2.2.2.2.1.2.2.1 Y3
    have Q14 : CQ x S1 S4 := (q2.1.tr q3.1).tr q4
    have B4 : TBy S4 (x+2) tb len := by unfold TBy; rw [Q14.2.1 (x+2+1) (by omega) (by omega)]; exact b1
    refine kf_tree46 (tb := tb) (by omega) k5 hbl hlen len (i := 0) (by omega) P4 Y4 r4 W.2.2.2.1 B4 (fun S' L e C' q' => ?_) (fun e S' C' q' => ?_)
    · have := h S' C' ((Q14.tr q').j.t f1 z1)
      rw [W.2.2.2.2] at e
      rw [e, oR_0] at this
      exact this
    · have := h (S'.junk 6) C'.junk (((Q14.tr q').jk C'.2.2.2.1.1).t f1 z1)
      rw [W.2.2.2.2] at e
      rw [e, oR_2] at this
      exact this
  · rw [if_neg c, oR_1] at h
    exact h _ C1.junk ((CQ.rf.jk C1.2.2.2.1.1).t f1 z1)
/-! plays -/
theorem drw_u (s : Int) : iRem (iAnd (iUshr s 16) 32767) 100 = drw s := by
  unfold drw
  congr 1
  unfold iAnd iUshr iShr
  rw [Int32.ofInt_toInt, Int32.ofInt_toInt]
  congr 1
  apply Int32.toBitVec_inj.mp
  apply BitVec.eq_of_getLsbD_eq
  intro i hi
  have c1 : ((Int32.ofInt 32767).toBitVec).getLsbD i = decide (i < 15) := by
    have : (Int32.ofInt 32767).toBitVec = BitVec.ofNat 32 (2 ^ 15 - 1) := by decide
    rw [this, BitVec.getLsbD_ofNat, Nat.testBit_two_pow_sub_one]
    simp [hi]
  rw [Int32.toBitVec_and, Int32.toBitVec_and, BitVec.getLsbD_and, BitVec.getLsbD_and, c1]
  by_cases c : i < 15
  · rw [decide_eq_true c, Bool.and_true, Bool.and_true]
    have a1 : ((Int32.ofInt s).toUInt32 >>> ((Int32.ofInt 16).toUInt32 &&& Int32.toUInt32 31)).toInt32.toBitVec = (Int32.ofInt s).toBitVec >>> 16 := by
      show ((Int32.ofInt s).toUInt32 >>> ((Int32.ofInt 16).toUInt32 &&& Int32.toUInt32 31)).toBitVec = _
      rw [UInt32.toBitVec_shiftRight]
      rfl
    have a2 : (Int32.ofInt s >>> (Int32.ofInt 16 &&& 31)).toBitVec = (Int32.ofInt s).toBitVec.sshiftRight 16 := by
      rw [Int32.toBitVec_shiftRight]
      rfl
    rw [a1, a2, BitVec.getLsbD_ushiftRight, BitVec.getLsbD_sshiftRight, if_pos (show 16 + i < 32 by omega), decide_eq_false (show ¬ 32 ≤ i by omega)]
    rfl
  · rw [decide_eq_false c, Bool.and_false, Bool.and_false]
theorem bh_st : ∀ x, x < 128 → ∀ t, t < 7 → ∀ s, s < 7 → (!(x.testBit t) || (Nat.blt s 1 || (!((List.range s).all (fun i => Nat.blt i 1 || !(x.testBit ((t + i) % 7)))) || (!(x.testBit ((t + s) % 7)) || Nat.beq (bhN x t) ((t + s) % 7))))) = true := by decide +kernel
theorem bh_no : ∀ x, x < 128 → ∀ t, t < 7 → (!(x.testBit t) || (!((List.range 7).all (fun i => Nat.blt i 1 || !(x.testBit ((t + i) % 7)))) || Nat.beq (bhN x t) t)) = true := by decide +kernel
theorem kf_behind {d x t : Nat} {S : MS} {Q : Out → MS → Prop} (hd : 1 ≤ d) (hx : x < 128) (ht : t < 7) (hb : x.testBit t = true) (h : Q (.inl (some (vI (bhN x t : Nat)))) S) : ∀ (j : Nat) {s : Nat}, s + j = 7 → 1 ≤ s → (∀ i, 1 ≤ i → i < s → x.testBit ((t + i) % 7) = false) → VX10_behind_2 d Q (j + 1) (x : Nat) (t : Nat) (s : Nat) S := by
  have all : ∀ s, (∀ i, 1 ≤ i → i < s → x.testBit ((t + i) % 7) = false) → (List.range s).all (fun i => Nat.blt i 1 || !(x.testBit ((t + i) % 7))) = true := fun s hz => by
    rw [List.all_eq_true]
    intro i hi
    have hi' := List.mem_range.mp hi
    by_cases c : i = 0
    · subst c; rfl
    · rw [hz i (by omega) hi']; simp
  intro j
  induction j with
  | zero =>
    intro s hs h1 hz
    have : s = 7 := by omega
    subst this
    have k := bh_no x hx t ht
    rw [hb, all 7 hz] at k
    have e : bhN x t = t := Nat.eq_of_beq_eq_true (by simpa using k)
    rw [e] at h
    unfold VX10_behind_2
    exact ⟨⟨(by unfold R32; omega), (by unfold R32; omega)⟩, fun _ => h, fun c => by omega⟩
  | succ j ih =>
    intro s hs h1 hz
    have e7 : iRem ((t : Int) + (s : Int)) 7 = (((t + s) % 7 : Nat) : Int) := by
      rw [show (t : Int) + (s : Int) = ((t + s : Nat) : Int) by omega]
      exact iRem_n (a := t + s) (b := 7) (by omega) (by omega)
    unfold VX10_behind_2
    rw [e7]
    refine ⟨⟨(by unfold R32; omega), (by unfold R32; omega)⟩, fun c => by omega, fun _ => ⟨⟨(by unfold R32; omega), by decide⟩, c_holds hd rfl rfl (by omega) (by omega) (fun q hq => oI_i ⟨hq.r, fun c => ih (s := s + 1) (by omega) (by omega) (fun i h2 h3 => ?_), fun c => ?_⟩)⟩⟩
    · by_cases g : i = s
      · rw [g]
        rcases hq with ⟨rfl, -⟩ | ⟨-, k⟩
        · omega
        · simpa using k
      · exact hz i h2 (by omega)
    · have yb : x.testBit ((t + s) % 7) = true := by
        rcases hq with ⟨-, k⟩ | ⟨rfl, -⟩
        · exact k
        · omega
      have k := bh_st x hx t ht s (by omega)
      rw [hb, all s hz, yb, show Nat.blt s 1 = false by cases e : Nat.blt s 1; rfl; have := Nat.le_of_ble_eq_true e; omega] at k
      have e : bhN x t = (t + s) % 7 := Nat.eq_of_beq_eq_true (by simpa using k)
      rw [e] at h
      exact h
theorem k_behind {d x t : Nat} {S : MS} {Q : Out → MS → Prop} {u v : Int} (hd : 2 ≤ d) (eu : u = (x : Int)) (ev : v = (t : Int)) (hx : x < 128) (ht : t < 7) (hb : x.testBit t = true) (h : Q (.inl (some (vI (bhN x t : Nat)))) S) : Mw hX10_behind yX10_behind d [vI u, vI v] S Q := by
  subst eu ev
  obtain ⟨dd, rfl⟩ : ∃ e, d = e + 1 := ⟨d - 1, by omega⟩
  refine MX10_behind ?_
  unfold VX10_behind_0
  exact ⟨_, kf_behind (by omega) hx ht hb h 6 (s := 1) (by omega) (by omega) (fun i h1 h2 => by omega)⟩
theorem kf_play {d x n b y k : Nat} {w : Nat → Int} {wr : Int} {Q : Out → MS → Prop} (hd : 5 ≤ d) (hk : k < 3) (hwr : R32 wr) : ∀ (f : Nat) {S : MS} {c t : Nat} {p : Nat → Bool} {s : Int}, pD n k (lsR p 5056) < f → t + f ≤ 40 → c ≤ t → CP S x n w b → LY S y n k b (yk n b 3) (b + 4) → RS_ S (x+56) p → PS n p → (∀ S' p', CP S' x n w b → CQ x S S' → RS_ S' (x+56) p' → PS n p' → lsR p' 5056 = (plF w n k wr f (lsR p 5056) s c).1 → Q (.inl (some (vI ((plF w n k wr f (lsR p 5056) s c).2 : Nat)))) S') → VX10_play_20 d Q (f + 1) x (x+56) (k : Nat) wr y s (c : Nat) (t : Nat) S := by
  intro f
  induction f with
  | zero => intro S c t p s hf; omega
  | succ f ih =>
    intro S c t p s hf ht hct hP hY hR hp h
    have g0 := hP.1.2.1.2.2.1
    have p7 := p2_7 g0.2.1
    have hW := Wn_le g0.1 g0.2.1
    have hb := hP.2.2.1
    unfold VX10_play_20 VX10_play_124 VX10_play_102
    refine ⟨⟨(by unfold R32; omega), (by unfold R32; omega)⟩, fun c => by omega, fun _ => ⟨hP.1.1.1, k_allRowsW (by omega) hP (oA_i ⟨hY.1.1, k_part hd hk hP hY hR hp (fun S1 P1 q1 Y1 R1 => ?_)⟩)⟩⟩
    have hX1 := P1.1.1
    have ln := lf_n (n := n) (kn := k) (L := lsR p 5056) g0.2.1 (ls_len g0.1 g0.2.1 hp)
    refine ⟨⟨(by unfold R32; omega), (by unfold R32; omega)⟩, fun cc => ?_, fun cc => ?_⟩
    · have l0 : 0 ≤ lf n k (lsR p 5056) := by omega
      obtain ⟨l1, l2, l3, l4⟩ := lf_ok (kn := k) g0.2.1 l0
      have cm := (cmb_k (kn := k) g0.2.1).2 _ l3
      have rr := trF_rs (w := w) g0.1 g0.2.1 hk cm.1 cm.2
      have step : plF w n k wr (f + 1) (lsR p 5056) s c = plF w n k wr f (prt n k (lf n k (lsR p 5056)).toNat (plT w n k (lf n k (lsR p 5056)).toNat wr (sd1 s)) (lsR p 5056)) (sd1 s) (c + 1) := by
        show (if _ then _ else _) = _
        rw [if_neg (by omega)]
      rw [step] at h
      have go : ∀ (to : Nat) (v : Int), v = (to : Int) → to = plT w n k (lf n k (lsR p 5056)).toNat wr (sd1 s) → to < n → (lf n k (lsR p 5056)).toNat.testBit to = true → S1.K y = 2 ∧ Mw hX2_rising yX2_rising d [vA y, vI (lf n k (lsR p 5056)), vI v] S1 (oA (fun r1 S2 => S2.K (x+56) = 5 ∧ Mw hX5_narrow yX5_narrow d [vA (x+56), vA r1] S2 (oV (fun S3 => VX10_play_20 d Q (f + 1) x (x+56) (k : Nat) wr y (1103515245 * s + 12345) ((c : Int) + 1) ((t : Int) + 1) S3)))) := by
        intro to v ev eto hto yb
        refine ⟨Y1.1.1, k_rising (x := (lf n k (lsR p 5056)).toNat) (t := to) (by omega) g0.2.1 Y1 cm.1 cm.2 hto yb l2 ev (fun e e1 e2 => oA_i ⟨R1.1.1, c_rNarrow (by omega) (by omega) hW.1 (hp.a g0.1 g0.2.1).2 R1 e2 (fun S2 f2 R2 => oV_i ?_)⟩)⟩
        have V2 := LVL.fl (j := 0) P1.1.2.2.1.2 f2 R2
        obtain ⟨P2, q2'⟩ := P1.lo f2 (by omega) (by omega) V2
        have rg := Y1.rg
        have Y2 := (f2.fz (lo := b) (hi := yk n b 3) (li := b + 4) (by omega)).ly P1.2.2.2.2.2.2.1.2.2.1 Y1
        have el : lsR (fun r => p r && inR n (fun r => decide (rsN n k (lf n k (lsR p 5056)).toNat r = to)) r) 5056 = prt n k (lf n k (lsR p 5056)).toNat (plT w n k (lf n k (lsR p 5056)).toNat wr (sd1 s)) (lsR p 5056) := by
          rw [lsR_and hp, ← eto]
          rfl
        have dl := pD_lt g0.1 g0.2.1 (fun r hr => (hp.m r hr).1) hk l3 l4 (show to < 7 by omega)
        rw [← el] at h
        exact ih (c := c + 1) (t := t + 1) (s := sd1 s) (by rw [el, ← eto]; omega) (by omega) (by omega) P2 Y2 R2 (fun r hr => by show (p r && _) = false; rw [hp r hr, Bool.false_and]) (fun S' p' P' q' R' pp' e' => h S' p' P' (q1.tr (q2'.tr q')) R' pp' e')
      refine ⟨hX1.1, x+12, hX1.2.1.2.2.1, P1.1.2.1.1.1, k_riser (x := (lf n k (lsR p 5056)).toNat) (by omega) P1.1.2.1 rfl l2 hk cm.1 cm.2 (oI_i ?_)⟩
      have ed : iRem (iAnd (iUshr (1103515245 * s + 12345) 16) 32767) 100 = drw (sd1 s) := drw_u (sd1 s)
      rw [ed]
      refine ⟨⟨(by unfold R32; omega), by decide⟩, ⟨iRem_R _ _, hwr⟩, fun c2 => go _ _ rfl ?_ rr.2.1 rr.2.2, fun c2 => k_behind (x := (lf n k (lsR p 5056)).toNat) (t := rsN n k (lf n k (lsR p 5056)).toNat (rW w n)) (by omega) l2 rfl (by omega) (by omega) rr.2.2 (oI_i ?_)⟩
      · unfold plT
        rw [if_neg (by omega)]
      · have bb := (bh_all (lf n k (lsR p 5056)).toNat (by omega) (rsN n k (lf n k (lsR p 5056)).toNat (rW w n)) (by omega)).2.2 rr.2.2
        have bn : bhN (lf n k (lsR p 5056)).toNat (rsN n k (lf n k (lsR p 5056)).toNat (rW w n)) < n := by
          rcases Nat.lt_or_ge (bhN (lf n k (lsR p 5056)).toNat (rsN n k (lf n k (lsR p 5056)).toNat (rW w n))) n with g | g
          · exact g
          · have := bb.2.2
            rw [Nat.testBit_lt_two_pow (Nat.lt_of_lt_of_le cm.1 (Nat.pow_le_pow_right (by decide) g))] at this
            exact absurd this (by decide)
        refine go _ _ rfl ?_ bn bb.2.2
        unfold plT
        rw [if_pos (by omega)]
    · have step : plF w n k wr (f + 1) (lsR p 5056) s c = (lsR p 5056, c) := by
        show (if _ then _ else _) = _
        rw [if_pos (by omega)]
      rw [step] at h
      dsimp only at h
      exact h S1 p P1 q1 R1 hp rfl
theorem k_play {d x n k b : Nat} {w : Nat → Int} {wr sd v : Int} {p : Nat → Bool} {S : MS} {Q : Out → MS → Prop} (hd : 6 ≤ d) (hk : k < 3) (hwr : R32 wr) (hP : CP S x n w b) (ev : v = (k : Int)) (hR : RS_ S (x+56) p) (hp : PS n p) (h : ∀ S' p', CP S' x n w b → CQ x S S' → RS_ S' (x+56) p' → PS n p' → lsR p' 5056 = (plF w n k wr 36 (lsR p 5056) sd 0).1 → Q (.inl (some (vI ((plF w n k wr 36 (lsR p 5056) sd 0).2 : Nat)))) S') : Mw hX10_play yX10_play d [vA x, vA (x+56), vI v, vI wr, vI sd] S Q := by
  subst ev
  have g0 := hP.1.2.1.2.2.1
  obtain ⟨dd, rfl⟩ : ∃ e, d = e + 1 := ⟨d - 1, by omega⟩
  refine MX10_play ?_
  unfold VX10_play_0
  refine ⟨hP.1.1.1, k_allRowsW (by omega) hP (oA_i ⟨hP.2.2.2.1.1, k_layings (by omega) hP.2.2.2 rfl hk (fun y hy => oA_i ⟨37, ?_⟩)⟩)⟩
  exact kf_play (by omega) hk hwr 36 (c := 0) (t := 0) (Nat.lt_of_le_of_lt (pD_35 g0.2.1) (by decide)) (by omega) (by omega) hP hy hR hp h
theorem q_played {d x n : Nat} {w : Nat → Int} {s wr sd wh : Int} {S : MS} {Q : Out → MS → Prop} (hd : 9 ≤ d) (hC : CI S x n w) (hs : R32 s) (hwr : R32 wr) (hwh : R32 wh) (h : ∀ S', CI S' x n w → CJ x S S' → Q (oR (A_played n w s wr sd wh) [iob, iae, nse]) S') : Mw hX10_played yX10_played d [vA x, vI s, vI wr, vI sd, vI wh] S Q := by
  have g0 := hC.2.1.2.2.1
  have hf := fct_le g0.1 g0.2.1
  unfold A_played at h
  obtain ⟨dd, rfl⟩ : ∃ e, d = e + 1 := ⟨d - 1, by omega⟩
  refine MX10_played ?_
  unfold VX10_played_0
  refine ⟨hC.1.1, k_needScale (by omega) hC hs (fun c => xV_i ?_) (fun c => xV_x ?_)⟩
  · rw [if_pos c] at h
    refine c_within (by omega) hwr (by unfold R32; omega) (fun q hq => oI_i ⟨hq.r, fun c2 => ?_, fun c2 => ⟨by omega, ?_⟩⟩)
    · have w1 : 0 ≤ wr ∧ wr ≤ 99 := by
        rcases hq with ⟨-, k⟩ | ⟨rfl, -⟩
        · exact k
        · omega
      rw [if_pos w1] at h
      refine c_within (by omega) hwh (by unfold R32; omega) (fun q' hq' => oI_i ⟨hq'.r, fun c3 => ?_, fun c3 => ⟨by omega, ?_⟩⟩)
      · have w2 : 0 ≤ wh ∧ wh ≤ 2 := by
          rcases hq' with ⟨-, k⟩ | ⟨rfl, -⟩
          · exact k
          · omega
        rw [if_pos w2, oR_0] at h
        have V0 := hC.2.2.1.2
        refine ⟨hC.1.1, x+50, hC.1.2.1.2.2.2.2.2.2.2.1, ⟨V0.1, by omega, by omega, by rw [V0.2.1]; omega⟩, x+56, (V0.2.2 0 (by omega)).1, hC.1.1, k_rowsLeft (by omega) hC (fun S1 b p W q1 => oA_i ?_)⟩
        have V1 := W.1.1.2.2.1.2
        obtain ⟨p0, hp0⟩ := (V1.2.2 0 (by omega)).2
        refine ⟨hp0.1.1, c_rCopy (a := x+56) (by omega) (by omega) (W.2.2.2.1.a g0.1 g0.2.1).1 W.2.2.1 hp0 (fun S2 f2 r2 => oV_i ?_)⟩
        obtain ⟨P2, q2⟩ := W.1.lo f2 (by omega) (by omega) (LVL.fl (j := 0) V1 f2 r2)
        have i8 := P2.1.i8
        obtain ⟨k1, k2, k3, k4, k5⟩ := P2.1.kd_ (show s.toNat < sN w by omega)
        refine ⟨P2.1.1.1, x+12, P2.1.1.2.1.2.2.1, P2.1.2.1.1.1, _, k1, ⟨k2, by omega, by rw [k3]; omega⟩, P2.1.1.1, k_play (by omega) k5 hwr P2 k4 r2 W.2.2.2.1 (fun S3 p' P3 q3 R3 pp' e' => oI_i ?_)⟩
        rw [W.2.2.2.2] at e'
        rw [W.2.2.2.2]
        have fin := h S3 P3.1 ((q1.1.tr q2).tr q3).j
        unfold plA at fin
        rw [← e'] at fin
        refine ⟨hwh, fun c4 => ⟨⟨hwh, (by unfold R32; omega)⟩, fun c5 => ⟨P3.1.1.1, k_allRowsW (by omega) P3 (oA_i ⟨P3.1.1.1, x+12, P3.1.1.2.1.2.2.1, P3.1.2.1.1.1, k_trueRow (by omega) P3.1.2.1 (oI_i ⟨P3.2.2.2.1.1, k_numberOf (by omega) g0.1 g0.2.1 P3.2.2.2 rfl (rW_lt g0.1 g0.2.1) (oI_i ⟨R3.1.1, c_rHas (by omega) R3 rfl (by have := rW_lt (w := w) g0.1 g0.2.1; omega) (fun v hv => oI_i ?_)⟩)⟩)⟩)⟩, fun c5 => ⟨R3.1.1, ?_⟩⟩, fun c4 => ?_⟩
        · rw [if_neg c4, if_neg c5] at fin
          have m : p' (rW w n) = true ↔ rW w n ∈ lsR p' 5056 := by
            have := rW_lt (w := w) g0.1 g0.2.1
            unfold lsR
            rw [List.mem_filter, List.mem_range]
            exact ⟨fun k => ⟨by omega, k⟩, fun k => k.2⟩
          rw [m] at hv
          refine ⟨hv.r, fun c6 => ?_, fun c6 => ?_⟩
          · rw [pI_n (by rcases hv with ⟨rfl, -⟩ | ⟨-, k⟩; omega; exact k)] at fin
            exact fin
          · rw [pI_y (by rcases hv with ⟨-, k⟩ | ⟨rfl, -⟩; exact k; omega)] at fin
            exact fin
        · rw [if_neg c4, if_pos c5, lsR_len] at fin
          rw [R3.2.2.2.2]
          exact fin
        · rw [if_pos c4] at fin
          exact fin
      · have w2 : ¬ (0 ≤ wh ∧ wh ≤ 2) := by
          rcases hq' with ⟨rfl, -⟩ | ⟨-, k⟩
          · omega
          · exact k
        rw [if_neg w2, oR_3] at h
        exact h _ hC.junk (CQ.rf.jk hC.2.2.2.1.1)
    · have w1 : ¬ (0 ≤ wr ∧ wr ≤ 99) := by
        rcases hq with ⟨rfl, -⟩ | ⟨-, k⟩
        · omega
        · exact k
      rw [if_neg w1, oR_2] at h
      exact h _ hC.junk (CQ.rf.jk hC.2.2.2.1.1)
  · rw [if_neg c, oR_1] at h
    exact h _ hC.junk (CQ.rf.jk hC.2.2.2.1.1)
theorem kf_sures {d x n b y : Nat} {w : Nat → Int} {bl : Int} {Q : Out → MS → Prop} (hd : 9 ≤ d) (hbl : B01 bl) : ∀ (j : Nat) {S : MS} {i : Nat}, i + j = (cmb n n 3).length → CP S x n w b → LY S y n 0 b (yk n b 3) (b + 4) → (∀ S', CI S' x n w → CQ x S S' → Q (.inl (some (vI (A_sures n w bl : Nat)))) S') → VX10_sures_14 d Q (j + 1) x bl y (ct (suB n w (rowsL n w 0) bl) ((cmb n n 3).take i) : Nat) (i : Nat) S := by
  intro j
  induction j with
  | zero =>
    intro S i hi hP hY h
    have g0 := hP.1.2.1.2.2.1
    have c35 := (cmb_k (n := n) (kn := 0) g0.2.1).1
    have c35' : (cmb n n 3).length ≤ 35 := c35
    obtain ⟨c, b1, b2, b3, b4, b5, b6⟩ := hY.2.1
    have b5' : S.N c = (cmb n n 3).length := b5
    have := h S hP.1 CQ.rf
    unfold A_sures at this
    unfold VX10_sures_14
    rw [show (cmb n n 3).take i = cmb n n 3 by rw [show i = (cmb n n 3).length by omega]; exact List.take_length]
    refine ⟨hY.1.1, c, b1, by rw [b4]; omega, by rw [b5']; exact ⟨(by unfold R32; omega), (by unfold R32; omega)⟩, fun _ => this, fun z => absurd z (by rw [b5']; omega)⟩
  | succ j ih =>
    intro S i hi hP hY h
    have g0 := hP.1.2.1.2.2.1
    have p7 := p2_7 g0.2.1
    have c35 := (cmb_k (n := n) (kn := 0) g0.2.1).1
    have c35' : (cmb n n 3).length ≤ 35 := c35
    have hil : i < (cmb n n 3).length := by omega
    have cm := (cmb_k (n := n) (kn := 0) g0.2.1).2 _ (getD_mem (L := cmb n n 3) (k := i) hil)
    have cm2 : pc ((cmb n n 3).getD i 0) = 3 := cm.2
    obtain ⟨c, b1, b2, b3, b4, b5, b6⟩ := hY.2.1
    have b5' : S.N c = (cmb n n 3).length := b5
    have b6' : S.I c i = ((cmb n n 3).getD i 0 : Nat) := b6 i hil
    unfold VX10_sures_14 VX10_sures_62 VX10_sures_65
    refine ⟨hY.1.1, c, b1, by rw [b4]; omega, by rw [b5']; exact ⟨(by unfold R32; omega), (by unfold R32; omega)⟩, fun z => absurd z (by rw [b5']; omega), fun _ => ⟨hY.1.1, c, b1, ⟨b4, by omega, by rw [b5']; omega⟩, hP.1.1.1, ?_⟩⟩
    rw [Int.toNat_natCast, b6']
    refine k_mayRise hd hP.1 rfl cm.1 cm2 (fun S1 C1 q1 => oI_i (c_bitCount (by omega) rfl (mskL_lt _ _) (oI_i ?_)))
    have hb1 : S1.R (x+28) (n - 3) = some b := q1.1.2.2.2.2.2.2 _ _ hP.2.1
    have P1 : CP S1 x n w b := ⟨C1, hb1, hP.2.2.1, ar_sm (q1.2.1.wk hP.2.2.1 hP.hi) hP.2.2.2⟩
    have Y1 := hP.mvR q1 hY
    have pc7 : pc (mskL (rsN n 0 ((cmb n n 3).getD i 0)) (rowsL n w 0)) ≤ 7 := by unfold pc; exact cntB_le _ _
    have ih' := fun (S2 : MS) (P2 : CP S2 x n w b) (Y2 : LY S2 y n 0 b (yk n b 3) (b + 4)) (q2 : CQ x S1 S2) => ih (S := S2) (i := i + 1) (by omega) P2 Y2 (fun S' C' q' => h S' C' (q1.1.tr (q2.tr q')))
    rw [ct_s hil] at ih'
    refine ⟨⟨(by unfold R32; omega), (by unfold R32; omega)⟩, fun c1 => ?_, fun c1 => ⟨b01_r hbl, fun c2 => ?_, fun c2 => ⟨C1.1.1, x+12, C1.1.2.1.2.2.1, C1.2.1.1.1, k_isNoted (by omega) C1.2.1 rfl (by omega) (fun q hq => oI_i ⟨hq.r, fun c3 => ?_, fun c3 => ?_⟩)⟩⟩⟩
    · have := ih' S1 P1 Y1 CQ.rf
      rw [if_neg (by unfold suB; rw [decide_eq_false (by omega), Bool.false_and]; decide)] at this
      exact this
    · have := ih' S1 P1 Y1 CQ.rf
      rw [if_pos (by unfold suB; rw [decide_eq_true (by omega), decide_eq_true c2]; rfl)] at this
      exact this
    · have := ih' S1 P1 Y1 CQ.rf
      rw [if_neg (by unfold suB; rw [decide_eq_true (by omega), decide_eq_false c2, Bool.true_and, Bool.false_or]; rcases hq with ⟨-, k⟩ | ⟨rfl, -⟩; rw [k]; decide; omega)] at this
      exact this
    · have := ih' S1 P1 Y1 CQ.rf
      rw [if_pos (by unfold suB; rw [decide_eq_true (by omega), decide_eq_false c2, Bool.true_and, Bool.false_or]; rcases hq with ⟨rfl, -⟩ | ⟨-, k⟩; omega; simpa using k)] at this
      exact this
theorem q_sures {d x n : Nat} {w : Nat → Int} {bl : Int} {S : MS} {Q : Out → MS → Prop} (hd : 10 ≤ d) (hC : CI S x n w) (hbl : B01 bl) (h : ∀ S', CI S' x n w → CQ x S S' → Q (.inl (some (vI (A_sures n w bl : Nat)))) S') : Mw hX10_sures yX10_sures d [vA x, vI bl] S Q := by
  obtain ⟨dd, rfl⟩ : ∃ e, d = e + 1 := ⟨d - 1, by omega⟩
  refine MX10_sures ?_
  unfold VX10_sures_0
  refine ⟨hC.1.1, k_allRows (by omega) hC (fun S1 b C1 q1 W1 => oA_i ⟨W1.2.2.1.1, k_layings (k := 0) (by omega) W1.2.2 rfl (by decide) (fun y hy => oA_i ⟨(cmb n n 3).length + 1, ?_⟩)⟩)⟩
  exact kf_sures (by omega) hbl (cmb n n 3).length (i := 0) (by omega) ⟨C1, W1⟩ hy (fun S' C' q' => h S' C' (q1.1.tr q'))
