/-! a row from behind -/
theorem cntB_rev (p : Nat → Bool) : ∀ k, cntB (fun i => p (k - 1 - i)) k = cntB p k
  | 0 => rfl
  | k + 1 => by
    have e := cntB_split (fun i => p (k + 1 - 1 - i)) 1 k
    rw [Nat.add_comm 1 k] at e
    rw [e]
    have e1 : cntB (fun i => p (k + 1 - 1 - i)) 1 = if p k then 1 else 0 := by
      show 0 + _ = _
      simp
    have e2 : cntB (fun i => p (k + 1 - 1 - (1 + i))) k = cntB (fun i => p (k - 1 - i)) k := cntB_cong (fun i hi => by rw [show k + 1 - 1 - (1 + i) = k - 1 - i by omega])
    rw [e1, e2, cntB_rev p k]
    show _ = cntB p k + _
    omega
theorem lsr_cnt (f : Nat → Nat) (v a : Nat) : ∀ k, lsr f v a k = cntB (fun i => decide (f (a + i) < v)) k
  | 0 => rfl
  | k + 1 => by
    unfold lsr cntB
    rw [lsr_cnt f v a k]
    simp only [decide_eq_true_eq]
def mrF (n r : Nat) : Nat → Nat := fun p => rat n r (n - 1 - p)
def mir (n r : Nat) : Nat := rnk n (mrF n r) n
theorem mr_prm {n r : Nat} (h3 : 3 ≤ n) (h7 : n ≤ 7) (hr : r < fct n) : Prm n (mrF n r) := by
  refine ⟨fun p hp => rat_lt h3 h7 hr (by omega), fun p q hp hq e => ?_⟩
  have := rat_inj h3 h7 hr (show n - 1 - p < n by omega) (show n - 1 - q < n by omega) e
  omega
theorem mir_ok {n r : Nat} (h3 : 3 ≤ n) (h7 : n ≤ 7) (hr : r < fct n) : mir n r < fct n ∧ ∀ p, p < n → rat n (mir n r) p = rat n r (n - 1 - p) := row_of h3 h7 (mr_prm h3 h7 hr)
theorem mr_less {n r k : Nat} (hk : k < n) : lsr (mrF n r) (mrF n r (n - 1 - k)) (n - 1 - k + 1) (n - 1 - (n - 1 - k)) = cntB (fun x => decide (rat n r x < rat n r k)) k := by
  rw [lsr_cnt, show n - 1 - (n - 1 - k) = k by omega, ← cntB_rev (fun x => decide (rat n r x < rat n r k)) k]
  refine cntB_cong (fun i hi => ?_)
  unfold mrF
  rw [show n - 1 - (n - 1 - k + 1 + i) = k - 1 - i by omega, show n - 1 - (n - 1 - k) = k by omega]
theorem f_mr19 {d m n r k : Nat} {S : MS} {Q : Out → MS → Prop} {c9 : Nat → Int → Int → Int → MS → Prop} {v : Int} (hd : 1 ≤ d) (hL : RLay S m) (h3 : 3 ≤ n) (h7 : n ≤ 7) (hT : Tb S m n) (hr : r < fct n) (hk : k < n) (h : c9 m (r : Nat) (v * ((k : Int) + 1) + (cntB (fun x => decide (rat n r x < rat n r k)) k : Nat)) ((k : Int) + -1) S) : ∀ (j : Nat) {x : Nat}, x + j = k → VX11_mirrorOf_19 d c9 Q (j + 1) m (r : Nat) v (k : Nat) (cntB (fun x => decide (rat n r x < rat n r k)) x : Nat) (x : Nat) S := by
  have hf := fct_le h3 h7
  intro j
  induction j with
  | zero =>
    intro x hx
    unfold VX11_mirrorOf_19
    rw [show x = k by omega]
    exact ⟨⟨(by unfold R32; omega), (by unfold R32; omega)⟩, fun _ => h, fun c => by omega⟩
  | succ j ih =>
    intro x hx
    have a1 := rat_lt h3 h7 hr (show x < n by omega)
    have a2 := rat_lt h3 h7 hr hk
    unfold VX11_mirrorOf_19 VX11_mirrorOf_48
    have ih' := ih (x := x + 1) (by omega)
    unfold cntB at ih'
    refine ⟨⟨(by unfold R32; omega), (by unfold R32; omega)⟩, fun _ => by omega, fun c => ⟨hL.1, c_at (r := r) (p := x) hd hL rfl rfl (by omega) (oI_i ⟨hL.1, c_at (r := r) (p := k) hd hL rfl rfl (by omega) (oI_i ?_)⟩)⟩⟩
    rw [hT.2.2 r hr x (by omega), hT.2.2 r hr k hk]
    refine ⟨⟨(by unfold R32; omega), (by unfold R32; omega)⟩, fun c2 => ?_, fun c2 => ?_⟩
    · rw [if_neg (by simp only [decide_eq_true_eq]; omega)] at ih'
      exact ih'
    · rw [if_pos (by simp only [decide_eq_true_eq]; omega)] at ih'
      exact ih'
theorem f_mr9 {d m n r : Nat} {S : MS} {Q : Out → MS → Prop} (hd : 1 ≤ d) (hL : RLay S m) (h3 : 3 ≤ n) (h7 : n ≤ 7) (hT : Tb S m n) (hr : r < fct n) (h : Q (.inl (some (vI (mir n r : Nat)))) S) : ∀ (j : Nat) (x : Int), j ≤ n → x = (j : Int) - 1 → VX11_mirrorOf_9 d Q (j + 1) m (r : Nat) (rnk n (mrF n r) (n - j) : Nat) x S := by
  intro j
  induction j with
  | zero =>
    intro x hj hx
    subst hx
    unfold VX11_mirrorOf_9
    exact ⟨(by unfold R32; omega), fun _ => h, fun c => by omega⟩
  | succ j ih =>
    intro x hj hx
    rw [show x = (j : Nat) by omega]
    unfold VX11_mirrorOf_9
    refine ⟨(by unfold R32; omega), fun c => by omega, fun _ => ⟨j + 1, ?_⟩⟩
    refine f_mr19 (k := j) hd hL h3 h7 hT hr (by omega) ?_ j (x := 0) (by omega)
    have := ih ((j : Int) + -1) (by omega) (by omega)
    have e : rnk n (mrF n r) (n - j) = rnk n (mrF n r) (n - (j + 1)) * (j + 1) + cntB (fun x => decide (rat n r x < rat n r j)) j := by
      obtain ⟨p, hp⟩ : ∃ p, n - j = p + 1 := ⟨n - j - 1, by omega⟩
      rw [hp, show n - (j + 1) = p by omega]
      show rnk n (mrF n r) p * (n - p) + lsr (mrF n r) (mrF n r p) (p + 1) (n - 1 - p) = _
      have e1 := mr_less (n := n) (r := r) (k := j) (by omega)
      rw [show n - 1 - j = p by omega] at e1
      rw [e1, show n - p = j + 1 by omega]
    rw [e] at this
    rw [Int.natCast_add, Int.natCast_mul, Int.natCast_add] at this
    exact this
theorem c_mirrorOf {d m n r : Nat} {S : MS} {Q : Out → MS → Prop} {x : Int} (hd : 2 ≤ d) (hL : RLay S m) (h3 : 3 ≤ n) (h7 : n ≤ 7) (hT : Tb S m n) (e : x = (r : Int)) (hr : r < fct n) (h : Q (.inl (some (vI (mir n r : Nat)))) S) : Mw hX11_mirrorOf yX11_mirrorOf d [vA m, vI x] S Q := by
  subst e
  obtain ⟨dd, rfl⟩ : ∃ e, d = e + 1 := ⟨d - 1, by omega⟩
  refine MX11_mirrorOf ?_
  have hl := hL
  unfold RLay at hl
  unfold VX11_mirrorOf_0
  simp only [hl, sI_K, sI_N, sI_R, sI_J, Option.some.injEq, exists_eq_left', true_and, and_true, Int.toNat_zero, Int.reduceToNat, Int.reduceLT, Int.reduceLE, Int.cast_ofNat_Int, forall_eq, ge_iff_le, Int.reduceNeg, Int.reduceAdd, Int.reduceSub, Int.reduceMul, Int.reduceEq, r32_0, r32_1, r32_m1, b01_0, b01_1, not_true_eq_false, not_false_eq_true, false_implies, true_implies, implies_true, forall_const]
  have := f_mr9 (Q := Q) (d := dd) (by omega) hL h3 h7 hT hr h n ((n : Int) - 1) (Nat.le_refl _) rfl
  rw [Nat.sub_self] at this
  rw [hT.1]
  exact ⟨_, this⟩
/-! nearly -/
def tu1 (n a b x y : Nat) : Bool := decide (plc n a x < plc n a y) != decide (plc n b x < plc n b y)
def trn (n a b : Nat) : Nat → Nat
  | 0 => 0
  | x + 1 => trn n a b x + cntB (tu1 n a b x) x
theorem trn_le (n a b : Nat) : ∀ x, trn n a b x ≤ x * x
  | 0 => Nat.le_refl _
  | x + 1 => by
    have h1 := trn_le n a b x
    have h2 := cntB_le (tu1 n a b x) x
    unfold trn
    have : (x + 1) * (x + 1) = x * x + x + x + 1 := by rw [Nat.add_mul, Nat.mul_add]; omega
    omega
theorem f_tu17 {d m n a b x v : Nat} {S : MS} {Q : Out → MS → Prop} {c5 : Nat → Int → Int → Int → Int → MS → Prop} (hd : 2 ≤ d) (hL : RLay S m) (h3 : 3 ≤ n) (h7 : n ≤ 7) (hT : Tb S m n) (ha : a < fct n) (hb : b < fct n) (hx : x < n) (h : c5 m (a : Nat) (b : Nat) ((v + cntB (tu1 n a b x) x : Nat) : Int) ((x : Int) + 1) S) : ∀ (j : Nat) {y : Nat}, y + j = x → VX11_turned_17 d c5 Q (j + 1) m (a : Nat) (b : Nat) ((v + cntB (tu1 n a b x) y : Nat) : Int) (x : Nat) (y : Nat) S := by
  intro j
  induction j with
  | zero =>
    intro y hy
    unfold VX11_turned_17
    rw [show y = x by omega]
    exact ⟨⟨(by unfold R32; omega), (by unfold R32; omega)⟩, fun _ => h, fun c => by omega⟩
  | succ j ih =>
    intro y hy
    have q1 := plc_lt h3 h7 ha hx
    have q2 := plc_lt h3 h7 ha (show y < n by omega)
    have q3 := plc_lt h3 h7 hb hx
    have q4 := plc_lt h3 h7 hb (show y < n by omega)
    have ih' := ih (y := y + 1) (by omega)
    unfold cntB at ih'
    have no : tu1 n a b x y = false → VX11_turned_17 d c5 Q (j + 1) m (a : Nat) (b : Nat) (((v + cntB (tu1 n a b x) y : Nat) : Int) + 0) (x : Nat) ((y : Int) + 1) S := by
      intro c
      rw [c, if_neg (by decide)] at ih'
      exact ih'
    have ys : tu1 n a b x y = true → VX11_turned_17 d c5 Q (j + 1) m (a : Nat) (b : Nat) (((v + cntB (tu1 n a b x) y : Nat) : Int) + 1) (x : Nat) ((y : Int) + 1) S := by
      intro c
      rw [c, if_pos rfl] at ih'
      exact ih'
    unfold VX11_turned_17 VX11_turned_47 VX11_turned_69 VX11_turned_77
    refine ⟨⟨(by unfold R32; omega), (by unfold R32; omega)⟩, fun _ => by omega, fun c => ⟨hL.1, c_placeOf (n := n) (t := x) (by omega) hL h3 h7 hT rfl rfl ha hx (oI_i ⟨hL.1, c_placeOf (n := n) (t := y) (by omega) hL h3 h7 hT rfl rfl ha (by omega) (oI_i ⟨⟨(by unfold R32; omega), (by unfold R32; omega)⟩, fun c1 => ⟨hL.1, c_placeOf (n := n) (t := x) (by omega) hL h3 h7 hT rfl rfl hb hx (oI_i ⟨hL.1, c_placeOf (n := n) (t := y) (by omega) hL h3 h7 hT rfl rfl hb (by omega) (oI_i ⟨⟨(by unfold R32; omega), (by unfold R32; omega)⟩, fun c2 => ⟨⟨r32_0, r32_0⟩, fun _ => no ?_, fun k => absurd rfl k⟩, fun c2 => ⟨⟨r32_0, r32_1⟩, fun k => absurd k (by decide), fun _ => ys ?_⟩⟩)⟩)⟩, fun c1 => ⟨hL.1, c_placeOf (n := n) (t := x) (by omega) hL h3 h7 hT rfl rfl hb hx (oI_i ⟨hL.1, c_placeOf (n := n) (t := y) (by omega) hL h3 h7 hT rfl rfl hb (by omega) (oI_i ⟨⟨(by unfold R32; omega), (by unfold R32; omega)⟩, fun c2 => ⟨⟨r32_1, r32_0⟩, fun k => absurd k (by decide), fun _ => ys ?_⟩, fun c2 => ⟨⟨r32_1, r32_1⟩, fun _ => no ?_, fun k => absurd rfl k⟩⟩)⟩)⟩⟩)⟩)⟩⟩
    · unfold tu1; rw [decide_eq_false (by omega), decide_eq_false (by omega)]; rfl
    · unfold tu1; rw [decide_eq_false (by omega), decide_eq_true (by omega)]; rfl
    · unfold tu1; rw [decide_eq_true (by omega), decide_eq_false (by omega)]; rfl
    · unfold tu1; rw [decide_eq_true (by omega), decide_eq_true (by omega)]; rfl
theorem f_tu5 {d m n a b : Nat} {S : MS} {Q : Out → MS → Prop} (hd : 2 ≤ d) (hL : RLay S m) (hg : GW n (S.I (m+1))) (hT : Tb S m n) (ha : a < fct n) (hb : b < fct n) (h : Q (.inl (some (vI (trn n a b n : Nat)))) S) : ∀ (j : Nat) {x : Nat}, x + j = n → VX11_turned_5 d Q (j + 1) m (a : Nat) (b : Nat) (trn n a b x : Nat) (x : Nat) S := by
  have h3 := hg.1.1
  have h7 := hg.1.2.1
  intro j
  induction j with
  | zero =>
    intro x hx
    unfold VX11_turned_5
    refine ⟨hL.1, c_things (by omega) hL (oI_i ?_)⟩
    rw [hg.1.2.2, show x = n by omega]
    exact ⟨⟨(by unfold R32; omega), (by unfold R32; omega)⟩, fun _ => h, fun c => by omega⟩
  | succ j ih =>
    intro x hx
    unfold VX11_turned_5
    refine ⟨hL.1, c_things (by omega) hL (oI_i ?_)⟩
    rw [hg.1.2.2]
    exact ⟨⟨(by unfold R32; omega), (by unfold R32; omega)⟩, fun _ => by omega, fun c => ⟨x + 1, f_tu17 (v := trn n a b x) hd hL h3 h7 hT ha hb (by omega) (ih (x := x + 1) (by omega)) x (y := 0) (by omega)⟩⟩
theorem c_turned {d m n a b : Nat} {S : MS} {Q : Out → MS → Prop} {x y : Int} (hd : 3 ≤ d) (hL : RLay S m) (hg : GW n (S.I (m+1))) (hT : Tb S m n) (e1 : x = (a : Int)) (e2 : y = (b : Int)) (ha : a < fct n) (hb : b < fct n) (h : Q (.inl (some (vI (trn n a b n : Nat)))) S) : Mw hX11_turned yX11_turned d [vA m, vI x, vI y] S Q := by
  subst e1 e2
  obtain ⟨dd, rfl⟩ : ∃ e, d = e + 1 := ⟨d - 1, by omega⟩
  refine MX11_turned ?_
  unfold VX11_turned_0
  exact ⟨_, f_tu5 (by omega) hL hg hT ha hb h n (x := 0) (by omega)⟩
/-- the least of some numbers, or none -/
def mnS (g : Nat → Nat) (a : Int) (r : Nat) : Int := if a < 0 ∨ (g r : Int) < a then (g r : Int) else a
def mnL (g : Nat → Nat) (L : List Nat) : Int := L.foldl (mnS g) (-1)
theorem mnL_r {g : Nat → Nat} {b : Nat} (hg : ∀ r, g r ≤ b) : ∀ (L : List Nat) (a : Int), (-1 ≤ a ∧ a ≤ b) → (-1 ≤ L.foldl (mnS g) a ∧ L.foldl (mnS g) a ≤ b)
  | [], _, h => h
  | r :: L, a, h => by
    refine mnL_r hg L _ ?_
    have := hg r
    unfold mnS
    split <;> omega
theorem f_nearly {d m n a : Nat} {w : Nat → Int} {L : List Nat} {S : MS} {Q : Out → MS → Prop} (hd : 3 ≤ d) (hD : RD S m n w L) (ha : a < fct n) (h : Q (.inl (some (vI (mnL (fun r => trn n a r n) L)))) S) : ∀ (j : Nat) {k : Nat}, k + j = L.length → VX11_nearly_32 d Q (j + 1) m (a : Nat) (mnL (fun r => trn n a r n) (L.take k)) (k : Nat) S := by
  obtain ⟨hL, hw, hg, hT, hK, hrow, hlen⟩ := hD
  have h3 := hg.1.1
  have h7 := hg.1.2.1
  have hf := fct_le h3 h7
  have hb : ∀ r, trn n a r n ≤ 49 := fun r => Nat.le_trans (trn_le n a r n) (Nat.mul_le_mul h7 h7)
  intro j
  induction j with
  | zero =>
    intro k hk
    have hl := hL
    unfold RLay at hl
    unfold VX11_nearly_32
    simp only [hl, sI_K, sI_N, sI_R, sI_J, Option.some.injEq, exists_eq_left', true_and, and_true, Int.toNat_zero, Int.reduceToNat, Int.reduceLT, Int.reduceLE, Int.cast_ofNat_Int, forall_eq, ge_iff_le, Int.reduceNeg, Int.reduceAdd, Int.reduceSub, Int.reduceMul, Int.reduceEq, r32_0, r32_1, r32_m1, b01_0, b01_1, not_true_eq_false, not_false_eq_true, false_implies, true_implies, implies_true, forall_const]
    rw [hK.1]
    refine ⟨⟨(by unfold R32; omega), (by unfold R32; omega)⟩, fun _ => ?_, fun c => by omega⟩
    rw [show L.take k = L by rw [show k = L.length by omega]; exact List.take_length]
    exact h
  | succ j ih =>
    have mr := fun k => mnL_r (g := fun r => trn n a r n) hb (L.take k) (-1) (by omega)
    intro k hk
    have hl := hL
    unfold RLay at hl
    have hkl : k < L.length := by omega
    have hrk := hrow _ (getD_mem hkl)
    unfold VX11_nearly_32
    simp only [hl, sI_K, sI_N, sI_R, sI_J, Option.some.injEq, exists_eq_left', true_and, and_true, Int.toNat_zero, Int.reduceToNat, Int.reduceLT, Int.reduceLE, Int.cast_ofNat_Int, forall_eq, ge_iff_le, Int.reduceNeg, Int.reduceAdd, Int.reduceSub, Int.reduceMul, Int.reduceEq, r32_0, r32_1, r32_m1, b01_0, b01_1, not_true_eq_false, not_false_eq_true, false_implies, true_implies, implies_true, forall_const]
    rw [hK.1]
    refine ⟨⟨(by unfold R32; omega), (by unfold R32; omega)⟩, fun _ => by omega, fun c => c_rowAt (r := 0) (p := k) (by omega) hL rfl rfl (by omega) (oI_i ⟨hL.1, ?_⟩)⟩
    rw [hK.2 k hkl]
    refine c_turned (n := n) (by omega) hL (by rw [hw]; exact hg) hT rfl rfl ha hrk (oI_i ?_)
    have hm : -1 ≤ mnL (fun r => trn n a r n) (L.take k) ∧ mnL (fun r => trn n a r n) (L.take k) ≤ ((49 : Nat) : Int) := mr k
    have hbk := hb (L.getD k 0)
    have e : mnL (fun r => trn n a r n) (L.take (k + 1)) = mnS (fun r => trn n a r n) (mnL (fun r => trn n a r n) (L.take k)) (L.getD k 0) := fold_s (f := mnS (fun r => trn n a r n)) hkl
    have ih' := ih (k := k + 1) (by omega)
    rw [e, show mnS (fun r => trn n a r n) (mnL (fun r => trn n a r n) (L.take k)) (L.getD k 0) = if mnL (fun r => trn n a r n) (L.take k) < 0 ∨ ((trn n a (L.getD k 0) n : Nat) : Int) < mnL (fun r => trn n a r n) (L.take k) then ((trn n a (L.getD k 0) n : Nat) : Int) else mnL (fun r => trn n a r n) (L.take k) from rfl] at ih'
    unfold VX11_nearly_65 VX11_nearly_71
    refine ⟨(by unfold R32; omega), fun c => ?_, fun c => ⟨⟨(by unfold R32; omega), (by unfold R32; omega)⟩, fun c2 => ?_, fun c2 => ?_⟩⟩
    · rw [if_pos (by omega)] at ih'; exact ih'
    · rw [if_neg (by omega)] at ih'; exact ih'
    · rw [if_pos (by omega)] at ih'; exact ih'
noncomputable def A_nearly (n : Nat) (w : Nat → Int) (tb : Nat → Nat) (len : Nat) : Int × Int := if tpR n tb len < 0 then (1, 0) else (0, mnL (fun r => trn n (tpR n tb len).toNat r n) (rowsL n w 0))
theorem c_nearly {d m n len : Nat} {tb : Nat → Nat} {S : MS} {Q : Out → MS → Prop} (hd : 7 ≤ d) (hI : RI S m n) (hP : Tp S m tb len) (h : ∀ S', RT m S S' → S'.I m 0 = (A_nearly n (S.I (m+1)) tb len).1 → Q (.inl (some (vI (A_nearly n (S.I (m+1)) tb len).2))) S') : Mw hX11_nearly yX11_nearly d [vA m] S Q := by
  have hL := hI.1
  have hg := hI.2.1
  have hf := fct_le hg.1.1 hg.1.2.1
  have hr := tpR_r (n := n) (tb := tb) (len := len)
  obtain ⟨dd, rfl⟩ : ∃ e, d = e + 1 := ⟨d - 1, by omega⟩
  refine MX11_nearly ?_
  have hl := hL
  unfold RLay at hl
  unfold VX11_nearly_0
  simp only [hl, sI_K, sI_N, sI_R, sI_J, Option.some.injEq, exists_eq_left', true_and, and_true, Int.toNat_zero, Int.reduceToNat, Int.reduceLT, Int.reduceLE, Int.cast_ofNat_Int, forall_eq, ge_iff_le, Int.reduceNeg, Int.reduceAdd, Int.reduceSub, Int.reduceMul, Int.reduceEq, r32_0, r32_1, r32_m1, b01_0, b01_1, not_true_eq_false, not_false_eq_true, false_implies, true_implies, implies_true, forall_const]
  refine c_tapedRow (n := n) (by omega) hI hP (fun S1 q1 t1 T1 => oI_i ?_)
  have hL1 := q1.1.lay hL
  unfold VX11_nearly_15
  refine ⟨(by unfold R32; omega), fun c => ⟨hL1.1, t_if (P := False) (by omega) hL1 (.n id) (fun _ => oI_i ?_) (fun k => k.elim)⟩, fun c => ⟨hL1.1, t_if (P := True) (by omega) hL1 (.y trivial) (fun k => absurd trivial k) (fun _ => oI_i ?_)⟩⟩
  · have hl := hL1
    unfold RLay at hl
    simp only [hl, sI_K, sI_N, sI_R, sI_J, Option.some.injEq, exists_eq_left', true_and, and_true, Int.toNat_zero, Int.reduceToNat, Int.reduceLT, Int.reduceLE, Int.cast_ofNat_Int, forall_eq, ge_iff_le, Int.reduceNeg, Int.reduceAdd, Int.reduceSub, Int.reduceMul, Int.reduceEq, r32_0, r32_1, r32_m1, b01_0, b01_1, not_true_eq_false, not_false_eq_true, false_implies, true_implies, implies_true, forall_const]
    refine l_leaves (n := n) (by omega) (q1.ri hI) (fun S2 q2 t2 d2 => oV_i ⟨(rowsL n (S.I (m+1)) 0).length + 1, ?_⟩)
    rw [q1.w] at d2
    rw [show tpR n tb len = ((tpR n tb len).toNat : Int) by omega]
    exact f_nearly (a := (tpR n tb len).toNat) (by omega) d2 (by omega) (fin3 h (by unfold A_nearly; rw [if_neg (by omega)]) (RQ.t q1 q2) (by rw [t2, t1])) _ (k := 0) (Nat.zero_add _)
  · have hl := hL1
    unfold RLay at hl
    simp only [hl, sI_K, sI_N, sI_R, sI_J, Option.some.injEq, exists_eq_left', true_and, and_true, Int.toNat_zero, Int.reduceToNat, Int.reduceLT, Int.reduceLE, Int.cast_ofNat_Int, forall_eq, ge_iff_le, Int.reduceNeg, Int.reduceAdd, Int.reduceSub, Int.reduceMul, Int.reduceEq, r32_0, r32_1, r32_m1, b01_0, b01_1, not_true_eq_false, not_false_eq_true, false_implies, true_implies, implies_true, forall_const]
    exact fin3 h (by unfold A_nearly; rw [if_pos (by omega)]) (RQ.t q1 (RQ.s0 q1.2.1)) (by rw [sI_I, if_pos ⟨rfl, rfl⟩])
