/-! layings are filled -/
theorem kf_afill {d c m : Nat} {v : Int} {Q : Out → MS → Prop} (hm : m < 1000000) : ∀ (j : Nat) {S : MS} {i : Nat}, i + j = m → S.K c = 13 → S.N c = m → (∀ u, u < i → S.I c u = v) → (∀ S', Fi c (c+1) S S' → (∀ u, u < m → S'.I c u = v) → Q (.inl none) S') → VJ7_fill_53178_5 d Q (j + 1) c v (i : Nat) (m : Nat) S := by
  intro j
  induction j with
  | zero =>
    intro S i hi hK hN hz h
    unfold VJ7_fill_53178_5
    exact ⟨⟨(by unfold R32; omega), (by unfold R32; omega)⟩, fun _ => h S Fi.rf (fun u hu => hz u (by omega)), fun c => by omega⟩
  | succ j ih =>
    intro S i hi hK hN hz h
    have f1 : Fi c (c+1) S (S.setI c i v) := Fi.sI (by omega)
    unfold VJ7_fill_53178_5
    rw [Int.toNat_natCast]
    refine ⟨⟨(by unfold R32; omega), (by unfold R32; omega)⟩, fun c => by omega, fun _ => ⟨⟨hK, by omega, by omega⟩, ih (i := i + 1) (by omega) hK hN (fun u hu => ?_) (fun S' f2 => h S' (f1.tr f2))⟩⟩
    rw [sI_I]
    by_cases g : u = i
    · rw [if_pos ⟨rfl, g⟩]
    · rw [if_neg (fun z => g z.2)]
      exact hz u (by omega)
theorem k_afill {d c m : Nat} {v : Int} {S : MS} {Q : Out → MS → Prop} (hd : 1 ≤ d) (hm : m < 1000000) (hK : S.K c = 13) (hN : S.N c = m) (h : ∀ S', Fi c (c+1) S S' → (∀ u, u < m → S'.I c u = v) → Q (.inl none) S') : Mw hJ7_fill_53178 yJ7_fill_53178 d [vA c, vI v] S Q := by
  obtain ⟨dd, rfl⟩ : ∃ e, d = e + 1 := ⟨d - 1, by omega⟩
  refine MJ7_fill_53178 ?_
  unfold VJ7_fill_53178_0
  rw [hN]
  exact ⟨by omega, _, kf_afill hm m (i := 0) (by omega) hK hN (fun u hu => absurd hu (Nat.not_lt_zero u)) h⟩
/-! sets in order: codes falling, turned -/
def trd (n c : Nat) : Nat := mskN (fun u => c.testBit (n - 1 - u)) n
def fsL (n P : Nat) : Nat → List Nat
  | 0 => []
  | c + 1 => if pc c = P then trd n c :: fsL n P c else fsL n P c
theorem fsL_all : ∀ n, n < 8 → ∀ k, k < 3 → (Nat.blt n 3 || (fsL n (pansK k) (2 ^ n) == cmb n n (pansK k))) = true := by decide +kernel
theorem fsL_cmb {n k : Nat} (h3 : 3 ≤ n) (h7 : n ≤ 7) (hk : k < 3) : fsL n (pansK k) (2 ^ n) = cmb n n (pansK k) := by
  have := fsL_all n (by omega) k hk
  rw [show Nat.blt n 3 = false by cases e : Nat.blt n 3; rfl; have := Nat.le_of_ble_eq_true e; omega, Bool.false_or] at this
  exact eq_of_beq this
theorem cmb_dif_ : ∀ n, n < 8 → ∀ k, k < 3 → ((List.range (cmb n n (pansK k)).length).all fun i => (List.range (cmb n n (pansK k)).length).all fun j => Nat.beq i j || !(Nat.beq ((cmb n n (pansK k)).getD i 0) ((cmb n n (pansK k)).getD j 0))) = true := by decide +kernel
theorem cmb_dif {n k i j : Nat} (h7 : n ≤ 7) (hk : k < 3) (hi : i < cl n k) (hj : j < cl n k) (hn : i ≠ j) : (cmb n n (pansK k)).getD i 0 ≠ (cmb n n (pansK k)).getD j 0 := by
  have := cmb_dif_ n (by omega) k hk
  rw [List.all_eq_true] at this
  have := this i (List.mem_range.mpr hi)
  rw [List.all_eq_true] at this
  have := this j (List.mem_range.mpr hj)
  intro e
  rw [e, Bool.or_eq_true] at this
  rcases this with g | g
  · exact hn (Nat.eq_of_beq_eq_true g)
  · have b1 : Nat.beq ((cmb n n (pansK k)).getD j 0) ((cmb n n (pansK k)).getD j 0) = true := Nat.beq_refl _
    rw [b1] at g
    exact absurd g (by decide)
theorem kf_turned {d y n c : Nat} {S : MS} {Q : Out → MS → Prop} (hd : 1 ≤ d) (h3 : 3 ≤ n) (h7 : n ≤ 7) (hK : S.K y = 2) (h5 : S.I y 5 = (n : Int)) (hc : c < 2 ^ n) (h : Q (.inl (some (vI (trd n c : Nat)))) S) : ∀ (j : Nat) {t : Nat}, t + j = n → VX2_turned_4 d Q (j + 1) y (c : Nat) (mskN (fun u => decide (n ≤ u + t) && c.testBit (n - 1 - u)) n : Nat) (t : Nat) S := by
  have p7 := p2_7 h7
  intro j
  induction j with
  | zero =>
    intro t ht
    unfold VX2_turned_4
    rw [h5]
    refine ⟨hK, ⟨(by unfold R32; omega), (by unfold R32; omega)⟩, fun _ => ?_, fun c => by omega⟩
    rw [mskN_cong (q := fun u => c.testBit (n - 1 - u)) (fun u hu => by rw [decide_eq_true (show n ≤ u + t by omega), Bool.true_and])]
    exact h
  | succ j ih =>
    intro t ht
    have ml := mskN_lt (fun u => decide (n ≤ u + t) && c.testBit (n - 1 - u)) n
    have ih' := ih (t := t + 1) (by omega)
    unfold VX2_turned_4
    rw [h5]
    refine ⟨hK, ⟨(by unfold R32; omega), (by unfold R32; omega)⟩, fun c => by omega, fun _ => ⟨hK, ?_⟩⟩
    rw [iBit_n (by omega) (by omega), show (n : Int) - 1 - (t : Int) = ((n - 1 - t : Nat) : Int) by omega]
    by_cases hb : c.testBit t = true
    · have q1 : 2 ^ (n - 1 - t) < 2 ^ n := Nat.pow_lt_pow_right (by decide) (by omega)
      rw [if_pos hb, i1_shl (by omega), iOr_n (by omega) (by omega), mskN_or _ (by omega)]
      rw [mskN_cong (q := fun u => (decide (n ≤ u + t) && c.testBit (n - 1 - u)) || decide (u = n - 1 - t)) (fun u hu => ?_)] at ih'
      · exact ih'
      · by_cases g : u = n - 1 - t
        · have yb : c.testBit (n - 1 - u) = true := by
            rw [show n - 1 - u = t by omega]
            exact hb
          rw [decide_eq_true g, yb, decide_eq_true (show n ≤ u + (t + 1) by omega)]
          simp
        · rw [decide_eq_false g, Bool.or_false]
          congr 1
          exact decide_eq_decide.mpr (by omega)
    · rw [if_neg hb, show iShl 0 ((n - 1 - t : Nat) : Int) = 0 by have := iShl_n (a := 0) (k := n - 1 - t) (by omega) (by omega); rw [Nat.zero_mul] at this; exact this, iOr_m1 (by omega)]
      rw [mskN_cong (q := fun u => decide (n ≤ u + t) && c.testBit (n - 1 - u)) (fun u hu => ?_)] at ih'
      · exact ih'
      · by_cases g : n ≤ u + t
        · rw [decide_eq_true g, decide_eq_true (show n ≤ u + (t + 1) by omega)]
        · by_cases g2 : n ≤ u + (t + 1)
          · have nb : c.testBit (n - 1 - u) = false := by
              rw [show n - 1 - u = t by omega]
              simpa using hb
            rw [nb, Bool.and_false, Bool.and_false]
          · rw [decide_eq_false g, decide_eq_false g2]
theorem k_turned {d y n c : Nat} {S : MS} {Q : Out → MS → Prop} {x : Int} (hd : 2 ≤ d) (h3 : 3 ≤ n) (h7 : n ≤ 7) (hK : S.K y = 2) (h5 : S.I y 5 = (n : Int)) (ex : x = (c : Int)) (hc : c < 2 ^ n) (h : Q (.inl (some (vI (trd n c : Nat)))) S) : Mw hX2_turned yX2_turned d [vA y, vI x] S Q := by
  subst ex
  obtain ⟨dd, rfl⟩ : ∃ e, d = e + 1 := ⟨d - 1, by omega⟩
  refine MX2_turned ?_
  unfold VX2_turned_0
  have := kf_turned (d := dd) (by omega) h3 h7 hK h5 hc h n (t := 0) (by omega)
  rw [mskN_cong (q := fun _ => false) (fun u hu => by rw [decide_eq_false (by omega), Bool.false_and]), mskN_no] at this
  exact ⟨_, this⟩
/-- the first m sets stand there -/
def SE (S : MS) (y n k m : Nat) : Prop := (∀ i, i < m → S.I (y+1) i = ((cmb n n (pansK k)).getD i 0 : Nat)) ∧ ∀ i, i < m → S.I (y+2) ((cmb n n (pansK k)).getD i 0) = (i : Int)
theorem kf_fs19 {d y n k : Nat} {Q : Out → MS → Prop} (hd : 2 ≤ d) (h3 : 3 ≤ n) (h7 : n ≤ 7) (hk : k < 3) : ∀ (j : Nat) {S : MS} {m : Nat} {x : Int}, x = (j : Int) - 1 → j ≤ 2 ^ n → LYL S y n k → LYI S y n k → m ≤ cl n k → fsL n (pansK k) j = (cmb n n (pansK k)).drop m → SE S y n k m → (∀ S', Fi (y+1) (y+3) S S' → SE S' y n k (cl n k) → Q (.inl none) S') → VX2_fillSets_19 d Q (j + 1) y (m : Nat) x S := by
  have p7 := p2_7 h7
  have c35 : cl n k ≤ 35 := (cmb_k (kn := k) h7).1
  intro j
  induction j with
  | zero =>
    intro S m x ex hj hL hI hm hf hE h
    unfold VX2_fillSets_19
    refine ⟨(by unfold R32; omega), fun _ => h S Fi.rf ?_, fun c => by omega⟩
    have : (cmb n n (pansK k)).length ≤ m := List.drop_eq_nil_iff.mp hf.symm
    rw [show cl n k = m by unfold cl at hm ⊢; omega]
    exact hE
  | succ j ih =>
    intro S m x ex hj hL hI hm hf hE h
    have hx : x = (j : Int) := by omega
    subst hx
    have hL' := hL
    have hI' := hI
    obtain ⟨l1, l2, l3, l4⟩ := hL
    obtain ⟨i0, i4, i5⟩ := hI
    have p4 : pansK k ≤ 4 := by unfold pansK; split <;> (try split) <;> omega
    have pc7 : pc j ≤ 7 := by unfold pc; exact cntB_le _ _
    unfold VX2_fillSets_19 VX2_fillSets_66
    rw [show (j : Int) + -1 = (j : Int) - 1 by omega]
    refine ⟨(by unfold R32; omega), fun c => by omega, fun _ => ⟨l1, y+1, l2.1, by rw [l2.2.1]; omega, ⟨(by unfold R32; omega), by rw [l2.2.2]; exact (by unfold R32; omega)⟩, fun c => h S Fi.rf ?_, fun c => c_bitCount (by omega) rfl (by omega) (oI_i ⟨l1, by rw [i0]; exact ⟨(by unfold R32; omega), (by unfold R32; omega)⟩, fun z => ?_, fun z => ⟨l1, k_turned hd h3 h7 l1 i5 rfl (by omega) (oI_i ?_)⟩⟩)⟩⟩
    · rw [l2.2.2] at c
      rw [show cl n k = m by omega]
      exact hE
    · rw [i0] at z
      refine ih (x := (j : Int) - 1) rfl (by omega) hL' hI' hm ?_ hE h
      rw [← hf]
      show _ = if pc j = pansK k then _ else _
      rw [if_neg (by omega)]
    · rw [i0] at z
      rw [l2.2.2] at c
      have ef : trd n j :: fsL n (pansK k) j = (cmb n n (pansK k)).drop m := by
        rw [← hf]
        show _ = if pc j = pansK k then _ else _
        rw [if_pos (by omega)]
      have hml : m < (cmb n n (pansK k)).length := by unfold cl at c; omega
      rw [List.drop_eq_getElem_cons hml] at ef
      obtain ⟨e1, e2⟩ := List.cons.inj ef
      have e3 : (cmb n n (pansK k)).getD m 0 = trd n j := by rw [List.getD_eq_getElem?_getD, List.getElem?_eq_getElem hml]; exact e1.symm
      have tl : trd n j < 2 ^ n := mskN_lt _ n
      have f1 : Fi (y+1) (y+3) S ((S.setI (y+1) m (trd n j : Nat)).setI (y+2) (trd n j) (m : Int)) := (Fi.sI (by omega)).tr (Fi.sI (by omega))
      refine ⟨l1, y+1, l2.1, ⟨l2.2.1, by omega, by rw [l2.2.2]; omega⟩, l1, y+2, l3.1, ⟨l3.2.1, by omega, ?_⟩, ?_⟩
      · show ((trd n j : Nat) : Int) < ((S.N (y+2) : Nat) : Int)
        rw [l3.2.2]
        omega
      rw [Int.toNat_natCast, Int.toNat_natCast]
      refine ih (x := (j : Int) - 1) (m := m + 1) rfl (by omega) (by unfold LYL; rw [f1.1, f1.2.1, f1.2.2.1]; exact hL') (by unfold LYI; rw [f1.I (by omega)]; exact hI') (by omega) e2 ⟨fun i hi => ?_, fun i hi => ?_⟩ (fun S' f2 => h S' (f1.tr f2))
      · rw [sI_Ia (by omega), sI_I]
        by_cases g : i = m
        · rw [if_pos ⟨rfl, g⟩, g, e3]
        · rw [if_neg (fun z => g z.2)]
          exact hE.1 i (by omega)
      · rw [sI_I]
        by_cases g : i = m
        · rw [if_pos ⟨rfl, by rw [g, e3]⟩, g]
        · have ne := cmb_dif (k := k) h7 hk (show i < cl n k by omega) (show m < cl n k by omega) g
          rw [if_neg (fun z => ne (by rw [z.2, e3])), sI_Ia (by omega)]
          exact hE.2 i (by omega)
theorem k_fillSets {d y n k : Nat} {S : MS} {Q : Out → MS → Prop} (hd : 3 ≤ d) (h3 : 3 ≤ n) (h7 : n ≤ 7) (hk : k < 3) (hL : LYL S y n k) (hI : LYI S y n k) (h : ∀ S', Fi (y+1) (y+3) S S' → SE S' y n k (cl n k) → Q (.inl none) S') : Mw hX2_fillSets yX2_fillSets d [vA y] S Q := by
  have p7 := p2_7 h7
  have p0 := Nat.two_pow_pos n
  obtain ⟨dd, rfl⟩ : ∃ e, d = e + 1 := ⟨d - 1, by omega⟩
  refine MX2_fillSets ?_
  unfold VX2_fillSets_0
  refine ⟨hL.1, y+2, hL.2.2.1.1, k_afill (by omega) (by omega) hL.2.2.1.2.1 hL.2.2.1.2.2 (fun S1 f1 _ => oV_i ⟨by rw [f1.1]; exact hL.1, 2 ^ n + 1, ?_⟩)⟩
  have F1 : Fi (y+1) (y+3) S S1 := f1.wk (by omega) (by omega)
  rw [F1.I (by omega), hI.2.2, i1_shl (by omega)]
  exact kf_fs19 (by omega) h3 h7 hk (2 ^ n) (m := 0) rfl (Nat.le_refl _) (by unfold LYL; rw [F1.1, F1.2.1, F1.2.2.1]; exact hL) (by unfold LYI; rw [F1.I (by omega)]; exact hI) (Nat.zero_le _) (fsL_cmb h3 h7 hk) ⟨fun i hi => absurd hi (Nat.not_lt_zero i), fun i hi => absurd hi (Nat.not_lt_zero i)⟩ (fun S' f2 => h S' (F1.tr f2))
/-! by which rows one of a set rises -/
def HVd (S : MS) (b n : Nat) : Prop := ∀ s, s < n → ∀ t, t < n → LA S (b+7+n*n+(s*n+t)) (Wn n) (inR n (hv n s t))
theorem k_heavier0 {d b n s t : Nat} {S : MS} {Q : Out → MS → Prop} {x y : Int} (hd : 1 ≤ d) (hA : ALL S b n) (hI : ALI S b n) (hs : s < n) (ht : t < n) (ex : x = (s : Int)) (ey : y = (t : Int)) (h : Q (.inl (some (vA (b+7+n*n+(s*n+t))))) S) : Mw hX0_heavierThan yX0_heavierThan d [vA b, vI x, vI y] S Q := by
  subst ex ey
  have mst := mul_lt ht hs
  obtain ⟨k1, k2, k3⟩ := hA.2.2.2.2.2.2.2.1 _ mst
  obtain ⟨a7, a72, a73⟩ := hA.2.2.2.2.2.2.1
  obtain ⟨dd, rfl⟩ : ∃ e, d = e + 1 := ⟨d - 1, by omega⟩
  refine MX0_heavierThan ?_
  unfold VX0_heavierThan_0
  rw [hI.1.1, show ((s : Nat) : Int) * (n : Int) + (t : Int) = ((s * n + t : Nat) : Int) by push_cast; rfl, Int.toNat_natCast]
  exact ⟨hA.1, b+6+n*n, a7, hA.1, ⟨a72, by omega, by omega, by rw [a73]; omega⟩, _, k1, h⟩
/-- how many of a set are above one in a row -/
def avB (n x t r : Nat) : Nat → Bool := fun s => decide (s ≠ t) && (x.testBit s && hv n s t r)
def av (n x t u r : Nat) : Nat := cntB (avB n x t r) u
theorem av_sum {n x t r : Nat} (h3 : 3 ≤ n) (h7 : n ≤ 7) (hr : r < fct n) (hx : x < 2 ^ n) (ht : t < n) (hb : x.testBit t = true) : av n x t n r + bfr n r x t + 1 = pc x := by
  rw [pc_n h7 hx, bfr_u h3 h7 hr ht]
  have e1 : cntB (fun u => x.testBit u) n = cntB (fun u => (avB n x t r u || (decide (plc n r u < plc n r t) && x.testBit u)) || decide (u = t)) n := by
    refine cntB_cong (fun u hu => ?_)
    unfold avB hv
    by_cases c : u = t
    · rw [c, hb]; simp
    · have ne : plc n r u ≠ plc n r t := fun e => c (plc_inj h3 h7 hr hu ht e)
      cases x.testBit u
      · rw [decide_eq_false c]; simp
      · rw [decide_eq_true c, decide_eq_false c]
        rcases Nat.lt_or_gt_of_ne ne with g | g
        · rw [decide_eq_true g]; simp
        · rw [decide_eq_true (show plc n r t < plc n r u from g)]; simp
  have e2 : cntB (fun u => avB n x t r u || (decide (plc n r u < plc n r t) && x.testBit u)) n = av n x t n r + cntB (fun u => decide (plc n r u < plc n r t) && x.testBit u) n := by
    refine cnt_dis (fun u hu => ⟨rfl, ?_⟩)
    unfold avB hv
    by_cases g : plc n r u < plc n r t
    · rw [decide_eq_false (show ¬ plc n r t < plc n r u by omega)]; simp
    · rw [decide_eq_false g]; simp
  rw [e1, cntB_upd _ ht, e2, if_neg]
  unfold avB
  simp
theorem av_rs {n k x t r : Nat} (h3 : 3 ≤ n) (h7 : n ≤ 7) (hk : k < 3) (hr : r < fct n) (hx : x < 2 ^ n) (hp : pc x = pansK k) (ht : t < n) (hb : x.testBit t = true) : av n x t n r = aboK k ↔ rsN n k x r = t := by
  have a := av_sum h3 h7 hr hx ht hb
  have b := abo_bel hk
  rw [rs_iff (kn := k) h3 h7 hr hx (by rw [hp]; exact belK_pans hk) ht hb]
  omega
def avW (n x t u m : Nat) : Nat → Bool := inR n fun r => decide (m ≤ av n x t u r)
theorem avW_no {n x t u m v : Nat} (h : u = t ∨ x.testBit u = false) : wdv (avW n x t (u + 1) m) v = wdv (avW n x t u m) v := by
  refine wdv_eq (fun b _ => ?_)
  unfold avW inR
  dsimp only
  rw [show av n x t (u + 1) (64 * v + b) = av n x t u (64 * v + b) from by
    show _ + _ = _
    rw [if_neg, Nat.add_zero]
    · rfl
    · unfold avB
      rcases h with h | h
      · rw [decide_eq_false (show ¬ u ≠ t from fun k => k h)]; simp
      · rw [h]; simp]
theorem avW_yes {n x t u m v : Nat} (h1 : u ≠ t) (h2 : x.testBit u = true) : wdv (avW n x t u (m + 1)) v ||| (wdv (avW n x t u m) v &&& wdv (inR n (hv n u t)) v) = wdv (avW n x t (u + 1) (m + 1)) v := by
  rw [wdv_and, wdv_or]
  refine wdv_eq (fun b _ => ?_)
  unfold avW inR
  dsimp only
  have e : av n x t (u + 1) (64 * v + b) = av n x t u (64 * v + b) + (if hv n u t (64 * v + b) then 1 else 0) := by
    show _ + _ = _
    unfold avB
    rw [decide_eq_true h1, h2, Bool.true_and, Bool.true_and]
    rfl
  rw [e]
  cases hv n u t (64 * v + b)
  · by_cases g : 64 * v + b < fct n
    · rw [decide_eq_true g]; simp
    · rw [decide_eq_false g]; simp
  · by_cases g : 64 * v + b < fct n
    · rw [decide_eq_true g, Bool.eq_iff_iff]; simp; omega
    · rw [decide_eq_false g]; simp
theorem avW_one {n x t u v : Nat} (h1 : u ≠ t) (h2 : x.testBit u = true) : wdv (avW n x t u 1) v ||| wdv (inR n (hv n u t)) v = wdv (avW n x t (u + 1) 1) v := by
  have := avW_yes (m := 0) (v := v) (n := n) h1 h2
  rw [wdv_and] at this
  rw [wdv_eq (p := fun r => avW n x t u 0 r && inR n (hv n u t) r) (q := inR n (hv n u t)) (w := v) (fun b _ => ?_)] at this
  · exact this
  · unfold avW inR
    simp
theorem kf_fr20 {d y b e n k x t v : Nat} {S : MS} {Q : Out → MS → Prop} {c3 : Nat → Nat → Int → Int → Nat → Int → MS → Prop} (hd : 1 ≤ d) (h3 : 3 ≤ n) (h7 : n ≤ 7) (hk : k < 3) (hx : x < 2 ^ n) (hp : pc x = pansK k) (ht : t < n) (hb : x.testBit t = true) (hv' : v < Wn n) (hA : ALL S b n) (hI : ALI S b n) (hT : CT S b n (fct n)) (hH : HVd S b n) (hK : S.K y = 2) (hY : LYI S y n k) (eK : S.K e = 14) (eN : S.N e = Wn n) (h : c3 y b (x : Nat) (t : Nat) e ((v : Int) + 1) (S.setJ e v (wdv (inR n fun r => decide (rsN n k x r = t)) v))) : ∀ (j : Nat) {u : Nat}, u + j = n → VX2_fillRising_20 d c3 Q (j + 1) y b (x : Nat) (t : Nat) e (v : Nat) (wdv (avW n x t u 1) v) (wdv (avW n x t u 2) v) (u : Nat) S := by
  have p7 := p2_7 h7
  have hW := Wn_le h3 h7
  intro j
  induction j with
  | zero =>
    intro u hu
    have un : u = n := by omega
    subst un
    unfold VX2_fillRising_20 VX2_fillRising_119
    rw [hY.2.2, hY.2.1]
    refine ⟨hK, ⟨(by unfold R32; omega), (by unfold R32; omega)⟩, fun _ => ⟨hK, c_aboveRiser hd rfl hk (oI_i ⟨?_, fun c => ⟨⟨eK, by omega, by rw [eN]; omega⟩, ?_⟩, fun c => ⟨hA.1, b+2, hA.2.1.1, ⟨hA.2.1.2.1, by omega, by rw [hA.2.1.2.2]; omega⟩, ⟨eK, by omega, by rw [eN]; omega⟩, ?_⟩⟩)⟩, fun c => by omega⟩
    · have : aboK k ≤ 1 := by unfold aboK; split <;> omega
      exact (by unfold R32; omega)
    · have a1 : aboK k = 1 := by unfold aboK at c ⊢; split <;> simp_all
      rw [Int.toNat_natCast, wdv_not, wdv_and]
      rw [wdv_eq (p := fun r => avW u x t u 1 r && !avW u x t u 2 r) (q := inR u fun r => decide (rsN u k x r = t)) (w := v) (fun b _ => ?_)]
      · exact h
      · unfold avW inR
        dsimp only
        by_cases g : 64 * v + b < fct u
        · have i := av_rs (n := u) (k := k) h3 h7 hk g hx hp ht hb
          rw [decide_eq_true g, Bool.eq_iff_iff]
          simp
          omega
        · rw [decide_eq_false g]; simp
    · have a0 : aboK k = 0 := by omega
      rw [Int.toNat_natCast, wdv_not, hT.2.2.2.2 v hv', wdv_and]
      rw [wdv_eq (p := fun r => decide (r < fct u) && !avW u x t u 1 r) (q := inR u fun r => decide (rsN u k x r = t)) (w := v) (fun b _ => ?_)]
      · exact h
      · unfold avW inR
        dsimp only
        by_cases g : 64 * v + b < fct u
        · have i := av_rs (n := u) (k := k) h3 h7 hk g hx hp ht hb
          rw [decide_eq_true g, Bool.eq_iff_iff]
          simp
          omega
        · rw [decide_eq_false g]; simp
  | succ j ih =>
    intro u hu
    have ih' := ih (u := u + 1) (by omega)
    have no : (u = t ∨ x.testBit u = false) → VX2_fillRising_20 d c3 Q (j + 1) y b (x : Nat) (t : Nat) e (v : Nat) (wdv (avW n x t u 1) v) (wdv (avW n x t u 2) v) ((u : Int) + 1) S := by
      intro z
      rw [avW_no z, avW_no z] at ih'
      exact ih'
    unfold VX2_fillRising_20 VX2_fillRising_73
    rw [hY.2.2]
    refine ⟨hK, ⟨(by unfold R32; omega), (by unfold R32; omega)⟩, fun c => by omega, fun _ => ⟨⟨(by unfold R32; omega), (by unfold R32; omega)⟩, fun c => no (Or.inl (by omega)), fun c => c_holds hd rfl rfl (by omega) (by omega) (fun q hq => oI_i ⟨hq.r, fun z => no (Or.inr ?_), fun z => ⟨hA.1, k_heavier0 hd hA hI (by omega) ht rfl rfl (oA_i ?_)⟩⟩)⟩⟩
    · rcases hq with ⟨rfl, -⟩ | ⟨-, g⟩
      · omega
      · simpa using g
    · have yb : x.testBit u = true := by
        rcases hq with ⟨-, g⟩ | ⟨rfl, -⟩
        · exact g
        · omega
      have L := hH u (by omega) t ht
      rw [Int.toNat_natCast, L.2.2 v hv', avW_one (by omega) yb, avW_yes (by omega) yb]
      exact ⟨⟨L.1, by omega, by rw [L.2.1]; omega⟩, ih'⟩
theorem kf_fr3 {d y b e n k x t : Nat} {Q : Out → MS → Prop} (hd : 1 ≤ d) (h3 : 3 ≤ n) (h7 : n ≤ 7) (hk : k < 3) (hx : x < 2 ^ n) (hp : pc x = pansK k) (ht : t < n) (hb : x.testBit t = true) (he : b + 7 + 2 * (n * n) ≤ e) : ∀ (j : Nat) {S : MS} {v : Nat}, v + j = Wn n → ALL S b n → ALI S b n → CT S b n (fct n) → HVd S b n → S.K y = 2 → LYI S y n k → S.K e = 14 → S.N e = Wn n → (∀ u, u < v → S.J e u = wdv (inR n fun r => decide (rsN n k x r = t)) u) → (∀ S', Fi e (e+1) S S' → S'.I = S.I → LA S' e (Wn n) (inR n fun r => decide (rsN n k x r = t)) → Q (.inl none) S') → VX2_fillRising_3 d Q (j + 1) y b (x : Nat) (t : Nat) e (v : Nat) S := by
  have hW := Wn_le h3 h7
  intro j
  induction j with
  | zero =>
    intro S v hv hA hI hT hH hK hY eK eN hz h
    unfold VX2_fillRising_3
    rw [eK, eN]
    exact ⟨by omega, ⟨(by unfold R32; omega), (by unfold R32; omega)⟩, fun _ => h S Fi.rf rfl ⟨eK, eN, fun u hu => hz u (by omega)⟩, fun c => by omega⟩
  | succ j ih =>
    intro S v hv hA hI hT hH hK hY eK eN hz h
    have f1 : Fi e (e+1) S (S.setJ e v (wdv (inR n fun r => decide (rsN n k x r = t)) v)) := Fi.sJ (by omega)
    have A1 : ALI (S.setJ e v (wdv (inR n fun r => decide (rsN n k x r = t)) v)) b n := hI
    have := kf_fr20 (d := d) (Q := Q) (c3 := VX2_fillRising_3 d Q (j + 1)) hd h3 h7 hk hx hp ht hb (show v < Wn n by omega) hA hI hT hH hK hY eK eN (ih (v := v + 1) (by omega) (f1.all hA) A1 ⟨fun t' ht' q hq => by have := mul_lt hq ht'; exact f1.la (by omega) (hT.1 t' ht' q hq), hT.2.1, f1.la (by omega) hT.2.2⟩ (fun s hs t' ht' => by have := mul_lt ht' hs; exact f1.la (by omega) (hH s hs t' ht')) hK hY eK eN (fun u hu => by
        rw [sJ_J]
        by_cases g : u = v
        · rw [if_pos ⟨rfl, g⟩, g]
        · rw [if_neg (fun z => g z.2)]
          exact hz u (by omega)) (fun S' f2 i2 => h S' (f1.tr f2) i2)) n (u := 0) (by omega)
    unfold VX2_fillRising_3
    rw [eK, eN]
    refine ⟨by omega, ⟨(by unfold R32; omega), (by unfold R32; omega)⟩, fun c => by omega, fun _ => ⟨n + 1, ?_⟩⟩
    have z : ∀ m, wdv (avW n x t 0 (m + 1)) v = 0#64 := fun m => by
      rw [← wdv_no v]
      refine wdv_eq (fun b _ => ?_)
      unfold avW inR
      dsimp only
      rw [decide_eq_false (p := m + 1 ≤ av n x t 0 (64 * v + b)) (by show ¬ m + 1 ≤ 0; omega), Bool.and_false]
    rw [z 0, z 1] at this
    exact this
theorem k_fillRising {d y b e n k x t : Nat} {S : MS} {Q : Out → MS → Prop} {x1 x2 : Int} (hd : 2 ≤ d) (h3 : 3 ≤ n) (h7 : n ≤ 7) (hk : k < 3) (hx : x < 2 ^ n) (hp : pc x = pansK k) (ht : t < n) (hb : x.testBit t = true) (he : b + 7 + 2 * (n * n) ≤ e) (e1 : x1 = (x : Int)) (e2 : x2 = (t : Int)) (hA : ALL S b n) (hI : ALI S b n) (hT : CT S b n (fct n)) (hH : HVd S b n) (hK : S.K y = 2) (hY : LYI S y n k) (eK : S.K e = 14) (eN : S.N e = Wn n) (h : ∀ S', Fi e (e+1) S S' → S'.I = S.I → LA S' e (Wn n) (inR n fun r => decide (rsN n k x r = t)) → Q (.inl none) S') : Mw hX2_fillRising yX2_fillRising d [vA y, vA b, vI x1, vI x2, vA e] S Q := by
  subst e1 e2
  obtain ⟨dd, rfl⟩ : ∃ e, d = e + 1 := ⟨d - 1, by omega⟩
  refine MX2_fillRising ?_
  unfold VX2_fillRising_0
  exact ⟨_, kf_fr3 (by omega) h3 h7 hk hx hp ht hb he (Wn n) (v := 0) (by omega) hA hI hT hH hK hY eK eN (fun u hu => absurd hu (Nat.not_lt_zero u)) h⟩
/-! all of a laying -/
/-- the first m rising words of a laying -/
def RSd (S : MS) (y n k m : Nat) : Prop := ∀ i, i < cl n k → ∀ j, j < pansK k → i * pansK k + j < m → LA S (y+4+(i * pansK k + j)) (Wn n) (inR n fun r => decide (rsN n k ((cmb n n (pansK k)).getD i 0) r = mbN ((cmb n n (pansK k)).getD i 0) j))
theorem kf_lf20 {d y b n k i : Nat} {Q : Out → MS → Prop} {c8 : Nat → Nat → Int → Int → MS → Prop} (hd : 2 ≤ d) (h3 : 3 ≤ n) (h7 : n ≤ 7) (hk : k < 3) (hi : i < cl n k) (hy : b + 7 + 2 * (n * n) ≤ y) : ∀ (j : Nat) {S : MS} {t : Nat}, t + j = n → ALL S b n → ALI S b n → CT S b n (fct n) → HVd S b n → LYL S y n k → LYI S y n k → SE S y n k (cl n k) → RSd S y n k (i * pansK k + cntB (fun u => ((cmb n n (pansK k)).getD i 0).testBit u) t) → (∀ S', Fi (y+4) (y+4+cl n k * pansK k) S S' → S'.I = S.I → RSd S' y n k ((i + 1) * pansK k) → c8 y b (((i + 1) * pansK k : Nat) : Int) ((i : Int) + 1) S') → VX2_fillRisings_16 d c8 Q (j + 1) y b ((i * pansK k + cntB (fun u => ((cmb n n (pansK k)).getD i 0).testBit u) t : Nat) : Int) (i : Nat) (t : Nat) S := by
  have p7 := p2_7 h7
  have cm := cmb_k (kn := k) h7
  have c35 : cl n k ≤ 35 := cm.1
  have xm := cm.2 _ (getD_mem (L := cmb n n (pansK k)) (k := i) hi)
  have p4 : pansK k ≤ 4 := by unfold pansK; split <;> (try split) <;> omega
  have cp : cl n k * pansK k ≤ 140 := Nat.mul_le_mul c35 p4
  have pcn := pc_n h7 xm.1
  rw [xm.2] at pcn
  have ip : (i + 1) * pansK k ≤ cl n k * pansK k := Nat.mul_le_mul_right _ hi
  have ip1 : (i + 1) * pansK k = i * pansK k + pansK k := by rw [Nat.add_mul, Nat.one_mul]
  intro j
  induction j with
  | zero =>
    intro S t ht hA hI hT hH hL hY hE hR h
    have tn : t = n := by omega
    subst tn
    rw [← pcn, ← ip1] at hR ⊢
    unfold VX2_fillRisings_16 VX2_fillRisings_76
    rw [hY.2.2]
    exact ⟨hL.1, ⟨(by unfold R32; omega), (by unfold R32; omega)⟩, fun _ => h S Fi.rf rfl hR, fun c => by omega⟩
  | succ j ih =>
    intro S t ht hA hI hT hH hL hY hE hR h
    have cle : cntB (fun u => ((cmb n n (pansK k)).getD i 0).testBit u) t ≤ pansK k := Nat.le_trans (cntB_mono _ (show t ≤ n by omega)) (Nat.le_of_eq pcn.symm)
    have cs : cntB (fun u => ((cmb n n (pansK k)).getD i 0).testBit u) (t + 1) = cntB (fun u => ((cmb n n (pansK k)).getD i 0).testBit u) t + (if ((cmb n n (pansK k)).getD i 0).testBit t then 1 else 0) := rfl
    have csl : cntB (fun u => ((cmb n n (pansK k)).getD i 0).testBit u) (t + 1) ≤ pansK k := Nat.le_trans (cntB_mono _ (show t + 1 ≤ n by omega)) (Nat.le_of_eq pcn.symm)
    obtain ⟨l1, l2, l3, l4, l5, l6⟩ := hL
    unfold VX2_fillRisings_16 VX2_fillRisings_70 VX2_fillRisings_76
    rw [hY.2.2]
    refine ⟨l1, ⟨(by unfold R32; omega), (by unfold R32; omega)⟩, fun c => by omega, fun _ => ⟨l1, y+3, l4.1, by rw [l4.2.1]; omega, by rw [l4.2.2]; exact ⟨(by unfold R32; omega), (by unfold R32; omega)⟩, fun c => ?_, fun c => ⟨l1, y+1, l2.1, ⟨l2.2.1, by omega, by rw [l2.2.2]; omega⟩, ?_⟩⟩⟩
    · rw [l4.2.2] at c
      have eq : i * pansK k + cntB (fun u => ((cmb n n (pansK k)).getD i 0).testBit u) t = (i + 1) * pansK k := by omega
      rw [eq] at hR ⊢
      exact h S Fi.rf rfl hR
    · rw [Int.toNat_natCast, hE.1 i hi]
      refine c_holds (by omega) rfl rfl (by omega) (by omega) (fun q hq => oI_i ⟨hq.r, fun z => ?_, fun z => ?_⟩)
      · have nb : ¬ ((cmb n n (pansK k)).getD i 0).testBit t = true := by
          rcases hq with ⟨rfl, -⟩ | ⟨-, g⟩
          · omega
          · exact g
        have := ih (S := S) (t := t + 1) (by omega) hA hI hT hH ⟨l1, l2, l3, l4, l5, l6⟩ hY hE (by rw [cs, if_neg nb]; exact hR) h
        rw [cs, if_neg nb] at this
        exact this
      · have yb : ((cmb n n (pansK k)).getD i 0).testBit t = true := by
          rcases hq with ⟨-, g⟩ | ⟨rfl, -⟩
          · exact g
          · omega
        rw [cs, if_pos yb] at csl
        have lt : i * pansK k + cntB (fun u => ((cmb n n (pansK k)).getD i 0).testBit u) t < cl n k * pansK k := by omega
        obtain ⟨r1, r2, r3⟩ := l5 _ lt
        refine ⟨l1, y+1, l2.1, ⟨l2.2.1, by omega, by rw [l2.2.2]; omega⟩, l1, y+3, l4.1, ⟨l4.2.1, by omega, by omega, by rw [l4.2.2]; omega⟩, _, by rw [Int.toNat_natCast]; exact r1, l1, ?_⟩
        rw [hE.1 i hi]
        refine k_fillRising hd h3 h7 hk xm.1 xm.2 (show t < n by omega) yb (by omega) rfl rfl hA hI hT hH l1 hY r2 r3 (fun S1 f1 i1 L1 => oV_i ?_)
        have F1 : Fi (y+4) (y+4+cl n k * pansK k) S S1 := f1.wk (by omega) (by omega)
        have R1 : RSd S1 y n k (i * pansK k + cntB (fun u => ((cmb n n (pansK k)).getD i 0).testBit u) t + 1) := by
          intro i' hi' j' hj' hlt
          by_cases g : i' * pansK k + j' = i * pansK k + cntB (fun u => ((cmb n n (pansK k)).getD i 0).testBit u) t
          · obtain ⟨g1, g2⟩ := mul_inj hj' (by omega) g
            subst g1
            rw [g2, mbN_at (by omega) yb]
            exact L1
          · exact f1.la (by omega) (hR i' hi' j' hj' (by omega))
        have := ih (S := S1) (t := t + 1) (by omega) (f1.all hA) (by unfold ALI LYI; rw [i1]; exact hI) ⟨fun t' ht' q hq => by have := mul_lt hq ht'; exact f1.la (by omega) (hT.1 t' ht' q hq), by rw [i1]; exact hT.2.1, f1.la (by omega) hT.2.2⟩ (fun s hs t' ht' => by have := mul_lt ht' hs; exact f1.la (by omega) (hH s hs t' ht')) (by unfold LYL; rw [f1.1, f1.2.1, f1.2.2.1]; exact ⟨l1, l2, l3, l4, l5, l6⟩) (by unfold LYI; rw [i1]; exact hY) (by unfold SE; rw [i1]; exact hE) (by rw [cs, if_pos yb]; exact R1) (fun S' f2 i2 => h S' (F1.tr f2) (i2.trans i1))
        rw [cs, if_pos yb] at this
        exact this
theorem kf_lf8 {d y b n k : Nat} {Q : Out → MS → Prop} (hd : 2 ≤ d) (h3 : 3 ≤ n) (h7 : n ≤ 7) (hk : k < 3) (hy : b + 7 + 2 * (n * n) ≤ y) : ∀ (j : Nat) {S : MS} {i : Nat}, i + j = cl n k → ALL S b n → ALI S b n → CT S b n (fct n) → HVd S b n → LYL S y n k → LYI S y n k → SE S y n k (cl n k) → RSd S y n k (i * pansK k) → (∀ S', Fi (y+4) (y+4+cl n k * pansK k) S S' → S'.I = S.I → RSd S' y n k (cl n k * pansK k) → Q (.inl none) S') → VX2_fillRisings_4 d Q (j + 1) y b ((i * pansK k : Nat) : Int) (i : Nat) S := by
  have c35 : cl n k ≤ 35 := (cmb_k (kn := k) h7).1
  intro j
  induction j with
  | zero =>
    intro S i hi hA hI hT hH hL hY hE hR h
    unfold VX2_fillRisings_4
    rw [show i = cl n k by omega] at hR
    refine ⟨hL.1, y+1, hL.2.1.1, by rw [hL.2.1.2.1]; omega, by rw [hL.2.1.2.2]; exact ⟨(by unfold R32; omega), (by unfold R32; omega)⟩, fun _ => h S Fi.rf rfl hR, fun c => absurd c (by rw [hL.2.1.2.2]; omega)⟩
  | succ j ih =>
    intro S i hi hA hI hT hH hL hY hE hR h
    unfold VX2_fillRisings_4
    refine ⟨hL.1, y+1, hL.2.1.1, by rw [hL.2.1.2.1]; omega, by rw [hL.2.1.2.2]; exact ⟨(by unfold R32; omega), (by unfold R32; omega)⟩, fun c => absurd c (by rw [hL.2.1.2.2]; omega), fun _ => ⟨n + 1, ?_⟩⟩
    exact kf_lf20 (t := 0) hd h3 h7 hk (show i < cl n k by omega) hy n (by omega) hA hI hT hH hL hY hE hR (fun S1 f1 i1 R1 => ih (i := i + 1) (by omega) (f1.all hA) (by unfold ALI LYI; rw [i1]; exact hI) ⟨fun t' ht' q hq => by have := mul_lt hq ht'; exact f1.la (by omega) (hT.1 t' ht' q hq), by rw [i1]; exact hT.2.1, f1.la (by omega) hT.2.2⟩ (fun s hs t' ht' => by have := mul_lt ht' hs; exact f1.la (by omega) (hH s hs t' ht')) (by unfold LYL; rw [f1.1, f1.2.1, f1.2.2.1]; exact hL) (by unfold LYI; rw [i1]; exact hY) (by unfold SE; rw [i1]; exact hE) R1 (fun S' f2 i2 => h S' (f1.tr f2) (i2.trans i1)))
theorem k_fillRs {d y b n k : Nat} {S : MS} {Q : Out → MS → Prop} (hd : 3 ≤ d) (h3 : 3 ≤ n) (h7 : n ≤ 7) (hk : k < 3) (hy : b + 7 + 2 * (n * n) ≤ y) (hA : ALL S b n) (hI : ALI S b n) (hT : CT S b n (fct n)) (hH : HVd S b n) (hL : LYL S y n k) (hY : LYI S y n k) (hE : SE S y n k (cl n k)) (h : ∀ S', Fi (y+4) (y+4+cl n k * pansK k) S S' → S'.I = S.I → RSd S' y n k (cl n k * pansK k) → Q (.inl none) S') : Mw hX2_fillRisings yX2_fillRisings d [vA y, vA b] S Q := by
  obtain ⟨dd, rfl⟩ : ∃ e, d = e + 1 := ⟨d - 1, by omega⟩
  refine MX2_fillRisings ?_
  unfold VX2_fillRisings_0
  refine ⟨cl n k + 1, ?_⟩
  have := kf_lf8 (d := dd) (Q := Q) (by omega) h3 h7 hk hy (cl n k) (i := 0) (by omega) hA hI hT hH hL hY hE (fun i hi j hj hlt => by omega) h
  rw [Nat.zero_mul] at this
  exact this
