/-! which notes rows miss -/
noncomputable def mk_ (n : Nat) (w : Nat → Int) (r : Nat) : Nat := mskN (fun i => !(fitN n w r i)) (nN w)
theorem mk_lt {n : Nat} {w : Nat → Int} {r : Nat} (h : nN w ≤ 16) : mk_ n w r < 65536 := Nat.lt_of_lt_of_le (mskN_lt _ _) (Nat.pow_le_pow_right (by decide) h : 2 ^ nN w ≤ 2 ^ 16)
def ML (S : MS) (m : Nat) (M : List Nat) : Prop := S.I m 20 = (M.length : Int) ∧ ∀ k, k < M.length → S.I (m+11) k = (M.getD k 0 : Nat)
theorem Fr.ml {m : Nat} {L : List Nat} {A B : List Nat} {S S1 : MS} (h : Fr m A B S S1) (h1 : 11 ∉ A) (h2 : 20 ∉ B) (k : ML S m L) : ML S1 m L := by
  unfold ML at k ⊢
  rw [h.arr (by decide) h1, h.fld h2]
  exact k
theorem ML.push {S : MS} {m : Nat} {L : List Nat} {r : Nat} (h : ML S m L) : ML ((S.setI (m+11) L.length (r : Int)).setI m 20 ((L.length : Int) + 1)) m (L ++ [r]) := by
  refine ⟨?_, fun k hk => ?_⟩
  · rw [sI_I, if_pos ⟨rfl, rfl⟩, List.length_append]
    rfl
  · rw [List.length_append, List.length_singleton] at hk
    rw [sI_Ia (by omega), sI_I, List.getD_eq_getElem?_getD]
    by_cases c : k = L.length
    · rw [if_pos ⟨rfl, by omega⟩, c, List.getElem?_append_right (Nat.le_refl _), Nat.sub_self]
      rfl
    · rw [if_neg (by omega), List.getElem?_append_left (by omega), ← List.getD_eq_getElem?_getD]
      exact h.2 k (by omega)
/-- the list has just the masks of the rows below k -/
def MsK (n : Nat) (w : Nat → Int) (M : List Nat) (k : Nat) : Prop := (∀ v ∈ M, ∃ r, r < k ∧ mk_ n w r = v) ∧ (∀ r, r < k → mk_ n w r ∈ M) ∧ M.length ≤ k
theorem mem_getD {L : List Nat} {v : Nat} (h : v ∈ L) : ∃ k, k < L.length ∧ L.getD k 0 = v := by
  obtain ⟨k, hk, e⟩ := List.getElem_of_mem h
  refine ⟨k, hk, ?_⟩
  rw [List.getD_eq_getElem?_getD, List.getElem?_eq_getElem hk]
  exact e
theorem f_fd61 {d m n r : Nat} {w : Nat → Int} {M : List Nat} {S : MS} {Q : Out → MS → Prop} {c11 : Nat → Int → MS → Prop} (hL : RLay S m) (hM : ML S m M) (hMk : MsK n w M r) (hnN : nN w ≤ 16) (hr : r < 5040) (h1 : mk_ n w r ∈ M → c11 m ((r : Int) + 1) S) (h2 : mk_ n w r ∉ M → c11 m ((r : Int) + 1) ((S.setI (m+11) M.length (mk_ n w r : Int)).setI m 20 ((M.length : Int) + 1))) : ∀ (j : Nat) {k : Nat} {q : Int}, k + j = M.length → BI q (∃ i, i < k ∧ M.getD i 0 = mk_ n w r) → VX11_finds_61 d c11 Q (j + 1) m (r : Nat) (mk_ n w r : Nat) q (k : Nat) S := by
  have hlt := mk_lt (n := n) (r := r) hnN
  have hlen := hMk.2.2
  have e97 : ∀ q, BI q (mk_ n w r ∈ M) → VX11_finds_97 d c11 Q m (r : Nat) (mk_ n w r : Nat) q S := by
    intro q hq
    have hl := hL
    unfold RLay at hl
    unfold VX11_finds_97 VX11_finds_124
    simp only [hl, sI_K, sI_N, sI_R, sI_J, Option.some.injEq, exists_eq_left', true_and, and_true, Int.toNat_zero, Int.reduceToNat, Int.reduceLT, Int.reduceLE, Int.cast_ofNat_Int, forall_eq, ge_iff_le, Int.reduceNeg, Int.reduceAdd, Int.reduceSub, Int.reduceMul, Int.reduceEq, r32_0, r32_1, r32_m1, b01_0, b01_1, not_true_eq_false, not_false_eq_true, false_implies, true_implies, implies_true, forall_const]
    rw [hM.1, Int.toNat_natCast, sI_Ia (by omega), hM.1]
    refine ⟨hq.r, fun c => ⟨by omega, h2 ?_⟩, fun c => h1 ?_⟩
    · rcases hq with ⟨rfl, -⟩ | ⟨-, hq⟩
      · omega
      · exact hq
    · rcases hq with ⟨-, hq⟩ | ⟨rfl, -⟩
      · exact hq
      · omega
  intro j
  induction j with
  | zero =>
    intro k q hk hq
    have hl := hL
    unfold RLay at hl
    unfold VX11_finds_61
    simp only [hl, sI_K, sI_N, sI_R, sI_J, Option.some.injEq, exists_eq_left', true_and, and_true, Int.toNat_zero, Int.reduceToNat, Int.reduceLT, Int.reduceLE, Int.cast_ofNat_Int, forall_eq, ge_iff_le, Int.reduceNeg, Int.reduceAdd, Int.reduceSub, Int.reduceMul, Int.reduceEq, r32_0, r32_1, r32_m1, b01_0, b01_1, not_true_eq_false, not_false_eq_true, false_implies, true_implies, implies_true, forall_const]
    rw [hM.1]
    refine ⟨⟨(by unfold R32; omega), (by unfold R32; omega)⟩, fun _ => e97 q ?_, fun c => by omega⟩
    rcases hq with ⟨e, i, hi, hq⟩ | ⟨e, hq⟩
    · left
      exact ⟨e, by rw [← hq]; exact getD_mem (by omega)⟩
    · right
      refine ⟨e, fun g => hq ?_⟩
      obtain ⟨i, hi, hg⟩ := mem_getD g
      exact ⟨i, by omega, hg⟩
  | succ j ih =>
    intro k q hk hq
    have hl := hL
    unfold RLay at hl
    have hb : M.getD k 0 < 65536 := by
      obtain ⟨r', -, e⟩ := hMk.1 _ (getD_mem (L := M) (k := k) (by omega))
      rw [← e]
      exact mk_lt hnN
    unfold VX11_finds_61 VX11_finds_90
    simp only [hl, sI_K, sI_N, sI_R, sI_J, Option.some.injEq, exists_eq_left', true_and, and_true, Int.toNat_zero, Int.reduceToNat, Int.reduceLT, Int.reduceLE, Int.cast_ofNat_Int, forall_eq, ge_iff_le, Int.reduceNeg, Int.reduceAdd, Int.reduceSub, Int.reduceMul, Int.reduceEq, r32_0, r32_1, r32_m1, b01_0, b01_1, not_true_eq_false, not_false_eq_true, false_implies, true_implies, implies_true, forall_const]
    rw [hM.1, Int.toNat_natCast, hM.2 k (by omega)]
    refine ⟨⟨(by unfold R32; omega), (by unfold R32; omega)⟩, fun _ => by omega, fun c => ⟨hq.r, fun c2 => e97 q ?_, fun c2 => ⟨by omega, ⟨(by unfold R32; omega), (by unfold R32; omega)⟩, fun c3 => ih (k := k + 1) (by omega) (.n ?_), fun c3 => ih (k := k + 1) (by omega) (.y ⟨k, by omega, by omega⟩)⟩⟩⟩
    · rcases hq with ⟨e, i, hi, hq⟩ | ⟨e, hq⟩
      · left
        exact ⟨e, by rw [← hq]; exact getD_mem (by omega)⟩
      · omega
    · rintro ⟨i, hi, g⟩
      rcases hq with ⟨rfl, -⟩ | ⟨-, hq⟩
      · omega
      · by_cases e : i = k
        · rw [e] at g; omega
        · exact hq ⟨i, by omega, g⟩
theorem f_fd23 {d m n r : Nat} {w : Nat → Int} {M : List Nat} {S : MS} {Q : Out → MS → Prop} {c11 : Nat → Int → MS → Prop} (hd : 3 ≤ d) (hL : RLay S m) (hw : S.I (m+1) = w) (hg : GW n w) (hT : Tb S m n) (hM : ML S m M) (hMk : MsK n w M r) (hr : r < fct n) (h1 : mk_ n w r ∈ M → c11 m ((r : Int) + 1) S) (h2 : mk_ n w r ∉ M → c11 m ((r : Int) + 1) ((S.setI (m+11) M.length (mk_ n w r : Int)).setI m 20 ((M.length : Int) + 1))) : ∀ (j : Nat) {i : Nat}, i + j = nN w → VX11_finds_23 d c11 Q (j + 1) m (r : Nat) (mskN (fun i => !(fitN n w r i)) i : Nat) (i : Nat) S := by
  have g2 := hg.2.2.1
  have hf := fct_le hg.1.1 hg.1.2.1
  intro j
  induction j with
  | zero =>
    intro i hi
    unfold VX11_finds_23
    refine ⟨hL.1, c_notes (by omega) hL (oI_i ?_)⟩
    rw [hw, g2.1, show i = nN w by omega]
    exact ⟨⟨(by unfold R32; omega), (by unfold R32; omega)⟩, fun _ => ⟨_, f_fd61 hL hM hMk g2.2 (by omega) h1 h2 M.length (k := 0) (by omega) (.n (by rintro ⟨i, hi, -⟩; omega))⟩, fun c => by omega⟩
  | succ j ih =>
    intro i hi
    unfold VX11_finds_23 VX11_finds_48
    refine ⟨hL.1, c_notes (by omega) hL (oI_i ?_)⟩
    rw [hw, g2.1]
    have ih' := ih (i := i + 1) (by omega)
    refine ⟨⟨(by unfold R32; omega), (by unfold R32; omega)⟩, fun _ => by omega, fun c => ⟨hL.1, c_fitsNote (n := n) (i := i) (by omega) hL (by rw [hw]; exact hg) hT rfl rfl hr (by rw [hw]; omega) (fun q hq => oI_i ⟨hq.r, fun c2 => ?_, fun c2 => ?_⟩)⟩⟩
    · rw [or_msk (by omega) (v := iShl 1 (i : Int))]
      · exact ih'
      · rw [i1_shl (by omega), if_pos (by rw [hw] at hq; rcases hq with ⟨rfl, -⟩ | ⟨-, hq⟩; omega; simpa using hq)]
    · rw [or_msk (by omega) (v := 0)]
      · exact ih'
      · rw [if_neg (by rw [hw] at hq; rcases hq with ⟨-, hq⟩ | ⟨rfl, -⟩; simp [hq]; omega)]
theorem f_fd11 {d m n : Nat} {w : Nat → Int} {Q : Out → MS → Prop} (hd : 3 ≤ d) (hg : GW n w) : ∀ (j : Nat) {S : MS} {r : Nat} {M : List Nat}, RLay S m → S.I (m+1) = w → Tb S m n → ML S m M → MsK n w M r → r + j = fct n → (∀ S' M', Fr m [11] [20] S S' → ML S' m M' → MsK n w M' (fct n) → Q (.inl none) S') → VX11_finds_11 d Q (j + 1) m (r : Nat) S := by
  have hf := fct_le hg.1.1 hg.1.2.1
  intro j
  induction j with
  | zero =>
    intro S r M hL hw hT hM hMk hr h
    have hl := hL
    unfold RLay at hl
    unfold VX11_finds_11
    simp only [hl, sI_K, sI_N, sI_R, sI_J, Option.some.injEq, exists_eq_left', true_and, and_true, Int.toNat_zero, Int.reduceToNat, Int.reduceLT, Int.reduceLE, Int.cast_ofNat_Int, forall_eq, ge_iff_le, Int.reduceNeg, Int.reduceAdd, Int.reduceSub, Int.reduceMul, Int.reduceEq, r32_0, r32_1, r32_m1, b01_0, b01_1, not_true_eq_false, not_false_eq_true, false_implies, true_implies, implies_true, forall_const]
    rw [hT.2.1]
    rw [show r = fct n by omega] at hMk
    exact ⟨⟨(by unfold R32; omega), (by unfold R32; omega)⟩, fun _ => h S M Fr.rf hM hMk, fun c => by omega⟩
  | succ j ih =>
    intro S r M hL hw hT hM hMk hr h
    have hl := hL
    unfold RLay at hl
    unfold VX11_finds_11
    simp only [hl, sI_K, sI_N, sI_R, sI_J, Option.some.injEq, exists_eq_left', true_and, and_true, Int.toNat_zero, Int.reduceToNat, Int.reduceLT, Int.reduceLE, Int.cast_ofNat_Int, forall_eq, ge_iff_le, Int.reduceNeg, Int.reduceAdd, Int.reduceSub, Int.reduceMul, Int.reduceEq, r32_0, r32_1, r32_m1, b01_0, b01_1, not_true_eq_false, not_false_eq_true, false_implies, true_implies, implies_true, forall_const]
    rw [hT.2.1]
    refine ⟨⟨(by unfold R32; omega), (by unfold R32; omega)⟩, fun _ => by omega, fun c => ⟨_, f_fd23 hd hL hw hg hT hM hMk (by omega) (fun hin => ih (r := r + 1) hL hw hT hM ⟨fun v hv => ?_, fun k hk => ?_, by have := hMk.2.2; omega⟩ (by omega) h) (fun hout => ?_) (nN w) (i := 0) (by omega)⟩⟩
    · obtain ⟨r', h1, h2⟩ := hMk.1 v hv
      exact ⟨r', by omega, h2⟩
    · by_cases e : k = r
      · rw [e]; exact hin
      · exact hMk.2.1 k (by omega)
    · have f1 : Fr m [11] [20] S ((S.setI (m+11) M.length (mk_ n w r : Int)).setI m 20 ((M.length : Int) + 1)) := (Fr.sA (by decide) (by decide)).tr (Fr.sB (by decide))
      refine ih (r := r + 1) (M := M ++ [mk_ n w r]) (f1.lay hL) (by rw [f1.arr (by decide) (by decide)]; exact hw) (f1.tb (by decide) (by decide) (by decide) hT) hM.push ⟨fun v hv => ?_, fun k hk => ?_, by rw [List.length_append, List.length_singleton]; have := hMk.2.2; omega⟩ (by omega) (fun S' M' f a b => h S' M' (f1.tr f) a b)
      · rcases List.mem_append.mp hv with hv | hv
        · obtain ⟨r', h1, h2⟩ := hMk.1 v hv
          exact ⟨r', by omega, h2⟩
        · exact ⟨r, by omega, (List.mem_singleton.mp hv).symm⟩
      · by_cases e : k = r
        · rw [e]; exact List.mem_append_right _ (List.mem_singleton.mpr rfl)
        · exact List.mem_append_left _ (hMk.2.1 k (by omega))
theorem c_finds {d m n : Nat} {S : MS} {Q : Out → MS → Prop} (hd : 4 ≤ d) (hI : RI S m n) (h : ∀ S' M, Fr m [6, 11] [13, 14, 20] S S' → Tb S' m n → ML S' m M → MsK n (S.I (m+1)) M (fct n) → Q (.inl none) S') : Mw hX11_finds yX11_finds d [vA m] S Q := by
  have hL := hI.1
  have hg := hI.2.1
  obtain ⟨dd, rfl⟩ : ∃ e, d = e + 1 := ⟨d - 1, by omega⟩
  refine MX11_finds ?_
  have hl := hL
  unfold RLay at hl
  unfold VX11_finds_0
  simp only [hl, sI_K, sI_N, sI_R, sI_J, Option.some.injEq, exists_eq_left', true_and, and_true, Int.toNat_zero, Int.reduceToNat, Int.reduceLT, Int.reduceLE, Int.cast_ofNat_Int, forall_eq, ge_iff_le, Int.reduceNeg, Int.reduceAdd, Int.reduceSub, Int.reduceMul, Int.reduceEq, r32_0, r32_1, r32_m1, b01_0, b01_1, not_true_eq_false, not_false_eq_true, false_implies, true_implies, implies_true, forall_const]
  refine c_fills (n := n) (by omega) hL hI.2.2 hg.1.1 hg.1.2.1 hg.1.2.2 (fun S1 f1 t1 => oV_i ⟨(f1.lay hL).1, fct n + 1, ?_⟩)
  have f2 : Fr m [] [20] S1 (S1.setI m 20 0) := Fr.sB (by decide)
  have t2 := f2.tb (by decide) (by decide) (by decide) t1
  refine f_fd11 (n := n) (w := S.I (m+1)) (by omega) hg (fct n) (r := 0) (M := []) (f2.lay (f1.lay hL)) (by rw [f2.arr (by decide) (by decide), f1.arr (by decide) (by decide)]) t2 ⟨by rw [sI_I, if_pos ⟨rfl, rfl⟩]; rfl, fun k hk => absurd hk (Nat.not_lt_zero k)⟩ ⟨fun v hv => absurd hv (by simp), fun k hk => absurd hk (Nat.not_lt_zero k), Nat.le_refl _⟩ (by omega) (fun S' M f a b => h S' M ((f1.wk (by decide) (by decide)).tr ((f2.wk (by decide) (by decide)).tr (f.wk (by decide) (by decide)))) (f.tb (by decide) (by decide) (by decide) t2) a b)
/-- notes that no row fits all -/
def Ag (n : Nat) (w : Nat → Int) (x : Nat) : Prop := ∀ r, r < fct n → mk_ n w r &&& x ≠ 0
theorem f_ag {d m n x : Nat} {w : Nat → Int} {M : List Nat} {S : MS} {Q : Out → MS → Prop} (hL : RLay S m) (hM : ML S m M) (hMk : MsK n w M (fct n)) (hf : fct n ≤ 5040) (hnN : nN w ≤ 16) (hx : x < 65536) (h : ∀ q, BI q (Ag n w x) → Q (.inl (some (vI q))) S) : ∀ (j : Nat) {k : Nat} {q : Int}, k + j = M.length → BI q (∀ i, i < k → M.getD i 0 &&& x ≠ 0) → VX11_isAgainst_4 d Q (j + 1) m (x : Nat) q (k : Nat) S := by
  have hlen := hMk.2.2
  have yes : (∀ i, i < M.length → M.getD i 0 &&& x ≠ 0) ↔ Ag n w x := by
    constructor
    · intro a r hr
      obtain ⟨i, hi, e⟩ := mem_getD (hMk.2.1 r hr)
      rw [← e]
      exact a i hi
    · intro a i hi
      obtain ⟨r, hr, e⟩ := hMk.1 _ (getD_mem hi)
      rw [← e]
      exact a r hr
  intro j
  induction j with
  | zero =>
    intro k q hk hq
    have hl := hL
    unfold RLay at hl
    unfold VX11_isAgainst_4 VX11_isAgainst_39
    simp only [hl, sI_K, sI_N, sI_R, sI_J, Option.some.injEq, exists_eq_left', true_and, and_true, Int.toNat_zero, Int.reduceToNat, Int.reduceLT, Int.reduceLE, Int.cast_ofNat_Int, forall_eq, ge_iff_le, Int.reduceNeg, Int.reduceAdd, Int.reduceSub, Int.reduceMul, Int.reduceEq, r32_0, r32_1, r32_m1, b01_0, b01_1, not_true_eq_false, not_false_eq_true, false_implies, true_implies, implies_true, forall_const]
    rw [hM.1]
    rw [show k = M.length by omega, yes] at hq
    exact ⟨⟨(by unfold R32; omega), (by unfold R32; omega)⟩, fun _ => ⟨hq.b, h q hq⟩, fun c => by omega⟩
  | succ j ih =>
    intro k q hk hq
    have hl := hL
    unfold RLay at hl
    have hb : M.getD k 0 < 65536 := by
      obtain ⟨r', -, e⟩ := hMk.1 _ (getD_mem (L := M) (k := k) (by omega))
      rw [← e]
      exact mk_lt hnN
    have hand := Nat.and_le_left (n := M.getD k 0) (m := x)
    unfold VX11_isAgainst_4 VX11_isAgainst_39 VX11_isAgainst_32
    simp only [hl, sI_K, sI_N, sI_R, sI_J, Option.some.injEq, exists_eq_left', true_and, and_true, Int.toNat_zero, Int.reduceToNat, Int.reduceLT, Int.reduceLE, Int.cast_ofNat_Int, forall_eq, ge_iff_le, Int.reduceNeg, Int.reduceAdd, Int.reduceSub, Int.reduceMul, Int.reduceEq, r32_0, r32_1, r32_m1, b01_0, b01_1, not_true_eq_false, not_false_eq_true, false_implies, true_implies, implies_true, forall_const]
    rw [hM.1, Int.toNat_natCast, hM.2 k (by omega), iAnd_n (by omega) (by omega)]
    refine ⟨⟨(by unfold R32; omega), (by unfold R32; omega)⟩, fun _ => by omega, fun c => ⟨hq.r, fun c2 => ⟨hq.b, h q ?_⟩, fun c2 => ⟨by omega, (by unfold R32; omega), fun c3 => ih (k := k + 1) (by omega) (.n (fun g => g k (by omega) (by omega))), fun c3 => ih (k := k + 1) (by omega) (.y (fun i hi => ?_))⟩⟩⟩
    · rcases hq with ⟨rfl, -⟩ | ⟨e, hq⟩
      · omega
      · right
        exact ⟨e, fun a => hq (fun i hi => yes.mpr a i (by omega))⟩
    · by_cases e : i = k
      · rw [e]; omega
      · rcases hq with ⟨-, hq⟩ | ⟨rfl, -⟩
        · exact hq i (by omega)
        · omega
theorem c_isAgainst {d m n x : Nat} {w : Nat → Int} {M : List Nat} {S : MS} {Q : Out → MS → Prop} {v : Int} (hd : 1 ≤ d) (hL : RLay S m) (hM : ML S m M) (hMk : MsK n w M (fct n)) (hf : fct n ≤ 5040) (hnN : nN w ≤ 16) (e : v = (x : Int)) (hx : x < 65536) (h : ∀ q, BI q (Ag n w x) → Q (.inl (some (vI q))) S) : Mw hX11_isAgainst yX11_isAgainst d [vA m, vI v] S Q := by
  subst e
  obtain ⟨dd, rfl⟩ : ∃ e, d = e + 1 := ⟨d - 1, by omega⟩
  refine MX11_isAgainst ?_
  unfold VX11_isAgainst_0
  exact ⟨_, f_ag hL hM hMk hf hnN hx h M.length (k := 0) (by omega) (.y (fun i hi => absurd hi (Nat.not_lt_zero i)))⟩
/-! quarrels -/
noncomputable def quC (n : Nat) (w : Nat → Int) : Nat → Nat
  | 0 => 0
  | a + 1 => quC n w a + cntB (fun b => dc (Ag n w (2 ^ a ||| 2 ^ b))) a
theorem or16 {a b : Nat} (ha : a < 16) (hb : b < 16) : 2 ^ a ||| 2 ^ b < 65536 := Nat.or_lt_two_pow (n := 16) (Nat.pow_lt_pow_right (by decide) ha) (Nat.pow_lt_pow_right (by decide) hb)
theorem f_qu23 {d m n a v : Nat} {w : Nat → Int} {M : List Nat} {S : MS} {Q : Out → MS → Prop} {c13 : Nat → Int → Int → MS → Prop} (hd : 1 ≤ d) (hL : RLay S m) (hM : ML S m M) (hMk : MsK n w M (fct n)) (hf : fct n ≤ 5040) (hnN : nN w ≤ 16) (ha : a < 16) (h : c13 m ((v + cntB (fun b => dc (Ag n w (2 ^ a ||| 2 ^ b))) a : Nat) : Int) ((a : Int) + 1) S) : ∀ (j : Nat) {b : Nat}, b + j = a → VX11_quarrels_23 d c13 Q (j + 1) m ((v + cntB (fun b => dc (Ag n w (2 ^ a ||| 2 ^ b))) b : Nat) : Int) (a : Nat) (b : Nat) S := by
  intro j
  induction j with
  | zero =>
    intro b hb
    unfold VX11_quarrels_23
    rw [show b = a by omega]
    exact ⟨⟨(by unfold R32; omega), (by unfold R32; omega)⟩, fun _ => h, fun c => by omega⟩
  | succ j ih =>
    intro b hb
    have o1 := or16 ha (show b < 16 by omega)
    have q1 : 2 ^ a ≤ 2 ^ 15 := Nat.pow_le_pow_right (by decide) (by omega)
    have q2 : 2 ^ b ≤ 2 ^ 15 := Nat.pow_le_pow_right (by decide) (by omega)
    have ih' := ih (b := b + 1) (by omega)
    unfold cntB at ih'
    unfold VX11_quarrels_23 VX11_quarrels_48
    rw [i1_shl (by omega), i1_shl (by omega), iOr_n (by omega) (by omega)]
    refine ⟨⟨(by unfold R32; omega), (by unfold R32; omega)⟩, fun _ => by omega, fun c => ⟨hL.1, c_isAgainst (n := n) (w := w) (x := 2 ^ a ||| 2 ^ b) hd hL hM hMk hf hnN rfl o1 (fun q hq => oI_i ⟨hq.r, fun c2 => ?_, fun c2 => ?_⟩)⟩⟩
    · rw [if_neg (by rcases hq with ⟨rfl, -⟩ | ⟨-, hq⟩; omega; rw [dc_n hq]; decide)] at ih'
      exact ih'
    · rw [if_pos (by rcases hq with ⟨-, hq⟩ | ⟨rfl, -⟩; exact dc_y hq; omega)] at ih'
      exact ih'
theorem f_qu13 {d m n : Nat} {w : Nat → Int} {M : List Nat} {S : MS} {Q : Out → MS → Prop} (hd : 1 ≤ d) (hL : RLay S m) (hw : S.I (m+1) = w) (hg : GW n w) (hM : ML S m M) (hMk : MsK n w M (fct n)) (h : Q (.inl (some (vI (quC n w (nN w) : Nat)))) S) : ∀ (j : Nat) {a : Nat}, a + j = nN w → VX11_quarrels_13 d Q (j + 1) m (quC n w a : Nat) (a : Nat) S := by
  have g2 := hg.2.2.1
  have hf := fct_le hg.1.1 hg.1.2.1
  intro j
  induction j with
  | zero =>
    intro a ha
    unfold VX11_quarrels_13
    refine ⟨hL.1, c_notes (by omega) hL (oI_i ?_)⟩
    rw [hw, g2.1, show a = nN w by omega]
    exact ⟨⟨(by unfold R32; omega), (by unfold R32; omega)⟩, fun _ => h, fun c => by omega⟩
  | succ j ih =>
    intro a ha
    unfold VX11_quarrels_13
    refine ⟨hL.1, c_notes (by omega) hL (oI_i ?_)⟩
    rw [hw, g2.1]
    exact ⟨⟨(by unfold R32; omega), (by unfold R32; omega)⟩, fun _ => by omega, fun c => ⟨_, f_qu23 (v := quC n w a) hd hL hM hMk hf g2.2 (by omega) (ih (a := a + 1) (by omega)) a (b := 0) (by omega)⟩⟩
theorem c_quarrels {d m n : Nat} {S : MS} {Q : Out → MS → Prop} (hd : 5 ≤ d) (hI : RI S m n) (h : ∀ S', RQ m S S' → S'.I m 0 = 0 → Q (.inl (some (vI (quC n (S.I (m+1)) (nN (S.I (m+1))) : Nat)))) S') : Mw hX11_quarrels yX11_quarrels d [vA m] S Q := by
  have hL := hI.1
  have e0 : (S.setI m 0 0).I (m+1) = S.I (m+1) := sI_Ia (by omega)
  obtain ⟨dd, rfl⟩ : ∃ e, d = e + 1 := ⟨d - 1, by omega⟩
  refine MX11_quarrels ?_
  have hl := hL
  unfold RLay at hl
  unfold VX11_quarrels_0
  simp only [hl, sI_K, sI_N, sI_R, sI_J, Option.some.injEq, exists_eq_left', true_and, and_true, Int.toNat_zero, Int.reduceToNat, Int.reduceLT, Int.reduceLE, Int.cast_ofNat_Int, forall_eq, ge_iff_le, Int.reduceNeg, Int.reduceAdd, Int.reduceSub, Int.reduceMul, Int.reduceEq, r32_0, r32_1, r32_m1, b01_0, b01_1, not_true_eq_false, not_false_eq_true, false_implies, true_implies, implies_true, forall_const]
  refine c_finds (n := n) (by omega) (hI.s0 0) (fun S1 M f1 t1 m1 k1 => oV_i ⟨_, f_qu13 (n := n) (w := S.I (m+1)) (M := M) (by omega) (f1.lay (by exact hL)) (by rw [f1.arr (by decide) (by decide), e0]) hI.2.1 m1 (by rw [e0] at k1; exact k1) ?_ (nN (S.I (m+1))) (a := 0) (by omega)⟩)
  exact h S1 ⟨(Fr.sB (by decide)).tr (f1.wk (by decide) (by decide)), t1.l hI.2.1.1.2.1⟩ (by rw [f1.fld (by decide), sI_I, if_pos ⟨rfl, rfl⟩])
/-! the least proof -/
/-- the first of a list with which no row agrees -/
noncomputable def fsA (n : Nat) (w : Nat → Int) : List Nat → Option Nat
  | [] => none
  | x :: X => cD (Ag n w x) (some x) (fsA n w X)
noncomputable def prF (n : Nat) (w : Nat → Int) : Nat → Nat → Nat
  | 0, _ => 0
  | j + 1, s => match fsA n w (cmb (nN w) (nN w) s) with
    | some x => x
    | none => prF n w j (s + 1)
theorem f_pr58 {d m n k : Nat} {w : Nat → Int} {M : List Nat} {Q : Out → MS → Prop} {c28 : Nat → Int → MS → Prop} (hd : 1 ≤ d) (hg : GW n w) (hk : k ≤ nN w) (hMk : MsK n w M (fct n)) : ∀ (j : Nat) {S : MS} {c : Nat → Nat}, RLay S m → S.I (m+1) = w → ML S m M → Ch S m c k → ChI c k (nN w) → (rem_ c k (nN w) 0 k).length = j → (∀ S' x, Fr m [12] [] S S' → fsA n w (mskC c k :: rem_ c k (nN w) 0 k) = some x → Q (.inl (some (vI (x : Nat)))) S') → (fsA n w (mskC c k :: rem_ c k (nN w) 0 k) = none → ∀ S', Fr m [12] [] S S' → c28 m ((k : Int) + 1) S') → VX11_proof_58 d c28 Q (j + 2) m (k : Nat) 1 S := by
  have g2 := hg.2.2.1
  have hf := fct_le hg.1.1 hg.1.2.1
  intro j
  induction j with
  | zero =>
    intro S c hL hw hM hc hI hj h1 h2
    have e0 : rem_ c k (nN w) 0 k = [] := List.eq_nil_of_length_eq_zero hj
    have hb : ∀ j, j < k → c j < 16 := fun j hj => by have := hI j hj; omega
    have hm := mskC_lt hb
    unfold VX11_proof_58
    refine ⟨r32_1, fun c => absurd c (by decide), fun _ => ⟨hL.1, c_chosenBits (c := c) (k := k) hd hL rfl (by omega) hc (fun j hj => by have := hb j hj; omega) (oI_i ⟨hL.1, c_isAgainst (n := n) (w := w) (x := mskC c k) hd hL hM hMk hf g2.2 rfl hm (fun q hq => oI_i ⟨hq.r, fun c2 => ⟨hL.1, c_notes hd hL (oI_i ?_)⟩, fun c2 => ⟨hL.1, c_chosenBits (c := c) (k := k) hd hL rfl (by omega) hc (fun j hj => by have := hb j hj; omega) (oI_i ?_)⟩⟩)⟩)⟩⟩
    · have na : ¬ Ag n w (mskC c k) := by
        rcases hq with ⟨rfl, -⟩ | ⟨-, hq⟩
        · omega
        · exact hq
      rw [hw, g2.1]
      refine ⟨hL.1, c_chooses (c := c) (k := k) (hi := nN w) hd hL rfl rfl (by omega) hk (by omega) hc hI (fun _ => oI_i ?_) (fun e S' _ _ _ k4 => ?_)⟩
      · unfold VX11_proof_58
        refine ⟨r32_0, fun _ => h2 ?_ S Fr.rf, fun c => absurd rfl c⟩
        rw [e0]
        show cD _ _ _ = _
        rw [cD_n na]
        rfl
      · rw [e0] at k4
        exact absurd k4 (by simp)
    · refine h1 S _ Fr.rf ?_
      show cD _ _ _ = _
      rw [cD_y]
      rcases hq with ⟨-, hq⟩ | ⟨rfl, -⟩
      · exact hq
      · omega
  | succ j ih =>
    intro S c hL hw hM hc hI hj h1 h2
    have hb : ∀ j, j < k → c j < 16 := fun j hj => by have := hI j hj; omega
    have hm := mskC_lt hb
    unfold VX11_proof_58
    refine ⟨r32_1, fun c => absurd c (by decide), fun _ => ⟨hL.1, c_chosenBits (c := c) (k := k) hd hL rfl (by omega) hc (fun j hj => by have := hb j hj; omega) (oI_i ⟨hL.1, c_isAgainst (n := n) (w := w) (x := mskC c k) hd hL hM hMk hf g2.2 rfl hm (fun q hq => oI_i ⟨hq.r, fun c2 => ⟨hL.1, c_notes hd hL (oI_i ?_)⟩, fun c2 => ⟨hL.1, c_chosenBits (c := c) (k := k) hd hL rfl (by omega) hc (fun j hj => by have := hb j hj; omega) (oI_i ?_)⟩⟩)⟩)⟩⟩
    · have na : ¬ Ag n w (mskC c k) := by
        rcases hq with ⟨rfl, -⟩ | ⟨-, hq⟩
        · omega
        · exact hq
      rw [hw, g2.1]
      refine ⟨hL.1, c_chooses (c := c) (k := k) (hi := nN w) hd hL rfl rfl (by omega) hk (by omega) hc hI (fun e0 => ?_) (fun e S' f2 k2 k3 k4 => oI_i ?_)⟩
      · rw [e0] at hj
        exact absurd hj (by simp)
      · rw [k4] at hj
        rw [List.length_cons] at hj
        have es : fsA n w (mskC c k :: rem_ c k (nN w) 0 k) = fsA n w (mskC e k :: rem_ e k (nN w) 0 k) := by
          show cD _ _ _ = _
          rw [cD_n na, k4]
        exact ih (c := e) (f2.lay hL) (by rw [f2.arr (by decide) (by decide), hw]) (f2.ml (by decide) (by decide) hM) k2 k3 (by omega) (fun S'' x f3 a => h1 S'' x (f2.tr f3) (by rw [es]; exact a)) (fun a S'' f3 => h2 (by rw [es]; exact a) S'' (f2.tr f3))
    · refine h1 S _ Fr.rf ?_
      show cD _ _ _ = _
      rw [cD_y]
      rcases hq with ⟨-, hq⟩ | ⟨rfl, -⟩
      · exact hq
      · omega
theorem f_pr38 {d m n k : Nat} {w : Nat → Int} {M : List Nat} {Q : Out → MS → Prop} {c28 : Nat → Int → MS → Prop} (hd : 1 ≤ d) (hg : GW n w) (hk : k ≤ nN w) (hMk : MsK n w M (fct n)) : ∀ (j : Nat) {S : MS} {p : Nat}, RLay S m → S.I (m+1) = w → ML S m M → p + j = k → Ch S m id p → (∀ S' x, Fr m [12] [] S S' → fsA n w (cmb (nN w) (nN w) k) = some x → Q (.inl (some (vI (x : Nat)))) S') → (fsA n w (cmb (nN w) (nN w) k) = none → ∀ S', Fr m [12] [] S S' → c28 m ((k : Int) + 1) S') → VX11_proof_38 d c28 Q (j + 1) m (k : Nat) (p : Nat) S := by
  have g2 := hg.2.2.1
  intro j
  induction j with
  | zero =>
    intro S p hL hw hM hp hc h1 h2
    unfold VX11_proof_38
    rw [show p = k by omega] at hc
    rw [cmb_all hk] at h1 h2
    exact ⟨⟨(by unfold R32; omega), (by unfold R32; omega)⟩, fun _ => ⟨_, f_pr58 hd hg hk hMk (rem_ id k (nN w) 0 k).length (c := id) hL hw hM hc (fun j hj => by show j + k ≤ _; omega) rfl h1 h2⟩, fun c => by omega⟩
  | succ j ih =>
    intro S p hL hw hM hp hc h1 h2
    have hl := hL
    unfold RLay at hl
    unfold VX11_proof_38
    refine ⟨⟨(by unfold R32; omega), (by unfold R32; omega)⟩, fun _ => by omega, fun cc => ?_⟩
    simp only [hl, sI_K, sI_N, sI_R, sI_J, Option.some.injEq, exists_eq_left', true_and, and_true, Int.toNat_zero, Int.reduceToNat, Int.reduceLT, Int.reduceLE, Int.cast_ofNat_Int, forall_eq, ge_iff_le, Int.reduceNeg, Int.reduceAdd, Int.reduceSub, Int.reduceMul, Int.reduceEq, r32_0, r32_1, r32_m1, b01_0, b01_1, not_true_eq_false, not_false_eq_true, false_implies, true_implies, implies_true, forall_const]
    rw [Int.toNat_natCast]
    have f1 : Fr m [12] [] S (S.setI (m+12) p (p : Int)) := Fr.sA (by decide) (by decide)
    refine ⟨by omega, ih (p := p + 1) (f1.lay hL) (by rw [f1.arr (by decide) (by decide)]; exact hw) (f1.ml (by decide) (by decide) hM) (by omega) (fun q hq => ?_) (fun S' x f a => h1 S' x (f1.tr f) a) (fun a S' f => h2 a S' (f1.tr f))⟩
    rw [sI_I]
    by_cases g : q = p
    · rw [if_pos ⟨rfl, g⟩, g]; rfl
    · rw [if_neg (fun k => g k.2)]
      exact hc q (by omega)
theorem f_pr28 {d m n : Nat} {w : Nat → Int} {M : List Nat} {Q : Out → MS → Prop} (hd : 1 ≤ d) (hg : GW n w) (hMk : MsK n w M (fct n)) : ∀ (j : Nat) {S : MS} {s : Nat}, RLay S m → S.I (m+1) = w → ML S m M → s + j = nN w + 1 → 1 ≤ s → (∀ S', Fr m [12] [] S S' → Q (.inl (some (vI (prF n w j s : Nat)))) S') → VX11_proof_28 d Q (j + 1) m (s : Nat) S := by
  have g2 := hg.2.2.1
  intro j
  induction j with
  | zero =>
    intro S s hL hw hM hs h1 h
    unfold VX11_proof_28
    refine ⟨hL.1, c_notes hd hL (oI_i ?_)⟩
    rw [hw, g2.1]
    exact ⟨⟨(by unfold R32; omega), (by unfold R32; omega)⟩, fun _ => h S Fr.rf, fun c => by omega⟩
  | succ j ih =>
    intro S s hL hw hM hs h1 h
    unfold VX11_proof_28
    refine ⟨hL.1, c_notes hd hL (oI_i ?_)⟩
    rw [hw, g2.1]
    refine ⟨⟨(by unfold R32; omega), (by unfold R32; omega)⟩, fun c => by omega, fun _ => ⟨s + 1, f_pr38 (k := s) hd hg (by omega) hMk s (p := 0) hL hw hM (by omega) (fun j hj => absurd hj (Nat.not_lt_zero j)) (fun S' x f a => ?_) (fun a S' f => ih (s := s + 1) (f.lay hL) (by rw [f.arr (by decide) (by decide), hw]) (f.ml (by decide) (by decide) hM) (by omega) (by omega) (fun S'' f2 => ?_))⟩⟩
    · have := h S' f
      unfold prF at this
      rw [a] at this
      exact this
    · have := h S'' (f.tr f2)
      unfold prF at this
      rw [a] at this
      exact this
noncomputable def A_proof (n : Nat) (w : Nat → Int) : Nat := cD (Ag n w (2 ^ nN w - 1)) (prF n w (nN w) 1) 0
theorem c_proof {d m n : Nat} {S : MS} {Q : Out → MS → Prop} (hd : 5 ≤ d) (hI : RI S m n) (h : ∀ S', RQ m S S' → S'.I m 0 = 0 → Q (.inl (some (vI (A_proof n (S.I (m+1)) : Nat)))) S') : Mw hX11_proof yX11_proof d [vA m] S Q := by
  have hL := hI.1
  have hg := hI.2.1
  have g2 := hg.2.2.1
  have hf := fct_le hg.1.1 hg.1.2.1
  have e0 : (S.setI m 0 0).I (m+1) = S.I (m+1) := sI_Ia (by omega)
  have p16 : 2 ^ nN (S.I (m+1)) ≤ 2 ^ 16 := Nat.pow_le_pow_right (by decide) g2.2
  have p0 := Nat.two_pow_pos (nN (S.I (m+1)))
  obtain ⟨dd, rfl⟩ : ∃ e, d = e + 1 := ⟨d - 1, by omega⟩
  refine MX11_proof ?_
  have hl := hL
  unfold RLay at hl
  unfold VX11_proof_0
  simp only [hl, sI_K, sI_N, sI_R, sI_J, Option.some.injEq, exists_eq_left', true_and, and_true, Int.toNat_zero, Int.reduceToNat, Int.reduceLT, Int.reduceLE, Int.cast_ofNat_Int, forall_eq, ge_iff_le, Int.reduceNeg, Int.reduceAdd, Int.reduceSub, Int.reduceMul, Int.reduceEq, r32_0, r32_1, r32_m1, b01_0, b01_1, not_true_eq_false, not_false_eq_true, false_implies, true_implies, implies_true, forall_const]
  refine c_finds (n := n) (by omega) (hI.s0 0) (fun S1 M f1 t1 m1 k1 => oV_i ?_)
  rw [e0] at k1
  have hL1 := f1.lay (show RLay (S.setI m 0 0) m by exact hL)
  have hw1 : S1.I (m+1) = S.I (m+1) := by rw [f1.arr (by decide) (by decide), e0]
  have q1 : RQ m S S1 := ⟨(Fr.sB (by decide)).tr (f1.wk (by decide) (by decide)), t1.l hg.1.2.1⟩
  have z1 : S1.I m 0 = 0 := by rw [f1.fld (by decide), sI_I, if_pos ⟨rfl, rfl⟩]
  refine ⟨hL1.1, c_notes (by omega) hL1 (oI_i ⟨hL1.1, ?_⟩)⟩
  rw [hw1, g2.1]
  refine c_isAgainst (n := n) (w := S.I (m+1)) (x := 2 ^ nN (S.I (m+1)) - 1) (by omega) hL1 m1 k1 hf g2.2 (by rw [i1_shl (by omega)]; omega) (by omega) (fun q hq => oI_i ⟨hq.r, fun c => ⟨nN (S.I (m+1)) + 1, ?_⟩, fun c => ?_⟩)
  · refine f_pr28 (n := n) (w := S.I (m+1)) (by omega) hg k1 (nN (S.I (m+1))) (s := 1) hL1 hw1 m1 (by omega) (by omega) (fun S' f => ?_)
    have := h S' (q1.fr f (by decide) (by decide) (by decide) (by decide) (by decide)) (by rw [f.fld (by decide), z1])
    unfold A_proof at this
    rw [cD_y] at this
    · exact this
    · rcases hq with ⟨-, hq⟩ | ⟨rfl, -⟩
      · exact hq
      · omega
  · have := h S1 q1 z1
    unfold A_proof at this
    rw [cD_n] at this
    · exact this
    · rcases hq with ⟨rfl, -⟩ | ⟨-, hq⟩
      · omega
      · exact hq
