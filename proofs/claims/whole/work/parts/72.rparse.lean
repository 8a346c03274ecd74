theorem wd_len : ∀ i : Fin 8, (wd i).length = lenJS.getD i 0 ∧ ∀ k : Fin 8, ((bytJS.getD i []).getD k 0).toInt = ((wd i).getD k 0 : Nat) := by decide +kernel
theorem c_length {d i : Nat} {S : MS} {Q : Out → MS → Prop} {a : Nat} (hd : 3 ≤ d) (hi : i < 8) (ha : a = S.T i) (h : Q (.inl (some (vI ((wd i).length : Nat)))) S) : Mw hJ0_length_8abf5 yJ0_length_8abf5 d [vA a] S Q := by
  obtain ⟨e, rfl⟩ : ∃ e, d = e + 1 := ⟨d - 1, by omega⟩
  subst ha
  have e1 : (wd i).length = lenJS.getD i 0 := (wd_len ⟨i, hi⟩).1
  rw [e1] at h
  exact m_length hi h
theorem c_charAt {d i k : Nat} {S : MS} {Q : Out → MS → Prop} {a : Nat} {x : Int} (hd : 4 ≤ d) (hi : i < 8) (ha : a = S.T i) (hx : x = (k : Int)) (hk : k < (wd i).length) (h : Q (.inl (some (vI ((wd i).getD k 0 : Nat)))) S) : Mw hJ0_charAt_5068e yJ0_charAt_5068e d [vA a, vI x] S Q := by
  obtain ⟨e, rfl⟩ : ∃ e, d = e + 3 := ⟨d - 3, by omega⟩
  subst ha hx
  have e1 : (wd i).length = lenJS.getD i 0 := (wd_len ⟨i, hi⟩).1
  have h8 : lenJS.getD i 0 < 8 := (byt_val ⟨i, hi⟩).1
  rw [e1] at hk
  have e2 : ((bytJS.getD i []).getD k 0).toInt = ((wd i).getD k 0 : Nat) := (wd_len ⟨i, hi⟩).2 ⟨k, Nat.lt_trans hk h8⟩
  rw [← e2] at h
  exact m_charAt hi hk h
/-! the reference reads -/
def TP (S : MS) (m : Nat) (tb : Nat → Nat) (len : Nat) : Prop := RLay S m ∧ S.I m 8 = (len : Int) ∧ len ≤ 400 ∧ ∀ i, i < len → tb i < 256 ∧ S.I (m+4) i = sB (tb i)
theorem TP.fr {m len : Nat} {tb : Nat → Nat} {A B : List Nat} {S S1 : MS} (h : TP S m tb len) (f : Fr m A B S S1) (h1 : 4 ∉ A) (h2 : 8 ∉ B) : TP S1 m tb len := ⟨f.lay h.1, by rw [f.fld h2]; exact h.2.1, h.2.2.1, fun i hi => by rw [f.arr (by decide) h1]; exact h.2.2.2 i hi⟩
theorem sB_in {v lo hi : Nat} (hv : v < 256) (h : hi < 128) : ((lo : Int) ≤ sB v ∧ sB v ≤ (hi : Int)) ↔ (lo ≤ v ∧ v ≤ hi) := by
  unfold sB
  split <;> omega
theorem c_isAt {d m len p lo hi : Nat} {tb : Nat → Nat} {S : MS} {Q : Out → MS → Prop} {x y : Int} (hd : 1 ≤ d) (hP : TP S m tb len) (hp : S.I m 7 = (p : Int)) (hpl : p ≤ len) (e1 : x = (lo : Int)) (e2 : y = (hi : Int)) (hh : hi < 128) (hlo : lo < 128) (h : ∀ q, BI q (p < len ∧ lo ≤ tb p ∧ tb p ≤ hi) → Q (.inl (some (vI q))) S) : Mw hX11_isAt yX11_isAt d [vA m, vI x, vI y] S Q := by
  subst e1 e2
  obtain ⟨hL, h8, hlen, ht⟩ := hP
  obtain ⟨dd, rfl⟩ : ∃ e, d = e + 1 := ⟨d - 1, by omega⟩
  refine MX11_isAt ?_
  have hl := hL
  unfold RLay at hl
  unfold VX11_isAt_0
  simp only [hl, sI_K, sI_N, sI_R, sI_J, Option.some.injEq, exists_eq_left', true_and, and_true, Int.toNat_zero, Int.reduceToNat, Int.reduceLT, Int.reduceLE, Int.cast_ofNat_Int, forall_eq, ge_iff_le, Int.reduceNeg, Int.reduceAdd, Int.reduceSub, Int.reduceMul, Int.reduceEq, r32_0, r32_1, r32_m1, b01_0, b01_1, not_true_eq_false, not_false_eq_true, false_implies, true_implies, implies_true, forall_const]
  rw [hp, h8, Int.toNat_natCast]
  by_cases c : p < len
  · have t1 := ht p c
    have t2 := sB_in (lo := lo) t1.1 hh
    have t3 := sB_R t1.1
    rw [t1.2]
    refine ⟨⟨(by unfold R32; omega), (by unfold R32; omega)⟩, fun c => by omega, fun _ => ⟨by omega, ⟨(by unfold R32; omega), (by unfold R32; omega)⟩, fun c1 => h _ (.n (fun k => ?_)), fun c1 => ⟨by omega, ⟨(by unfold R32; omega), (by unfold R32; omega)⟩, fun c2 => h _ (.n (fun k => ?_)), fun c2 => h _ (.y ⟨c, t2.mp (by omega)⟩)⟩⟩⟩
    · have := t2.mpr k.2; omega
    · have := t2.mpr k.2; omega
  · refine ⟨⟨(by unfold R32; omega), (by unfold R32; omega)⟩, fun _ => h _ (.n (by omega)), fun k => by omega⟩
theorem MX11_blanks {d : Nat} {x0 : Nat} {S : MS} {Q : Out → MS → Prop} (h : ∃ f, VX11_blanks_0 d Q f x0 S) : Mw hX11_blanks yX11_blanks (d + 1) [vA x0] S Q := by
  obtain ⟨f, h⟩ := h
  exact Mw.ofJ (by decide) (Nat.le_of_ble_eq_true rfl) (JX11_blanks_0 f x0 S h)
theorem f_blanks {d m len : Nat} {tb : Nat → Nat} {Q : Out → MS → Prop} (hd : 1 ≤ d) : ∀ (j : Nat) {S : MS} {p : Nat}, TP S m tb len → S.I m 7 = (p : Int) → p + j = len → (∀ S', Fr m [] [7, 9] S S' → S'.I m 7 = (rn (fun i => decide (tb i = 32)) j p : Nat) → S'.I m 9 = (rn (fun i => decide (tb i = 32)) j p : Nat) → Q (.inl none) S') → VX11_blanks_0 d Q (j + 1) m S := by
  intro j
  induction j with
  | zero =>
    intro S p hP hp hj h
    have hl := hP.1
    unfold RLay at hl
    unfold VX11_blanks_0
    refine ⟨hP.1.1, c_isAt (p := p) (lo := 32) (hi := 32) hd hP hp (by omega) rfl rfl (by decide) (by decide) (fun q hq => oI_i ⟨hq.r, fun c => ⟨hP.1.1, hP.1.1, ?_⟩, fun c => ?_⟩)⟩
    · rw [hp]
      exact h _ (Fr.sB (by decide)) (by rw [sI_I, if_neg (by omega)]; exact hp) (by rw [sI_I, if_pos ⟨rfl, rfl⟩]; rfl)
    · rcases hq with ⟨-, hq⟩ | ⟨rfl, -⟩ <;> omega
  | succ j ih =>
    intro S p hP hp hj h
    unfold VX11_blanks_0
    refine ⟨hP.1.1, c_isAt (p := p) (lo := 32) (hi := 32) hd hP hp (by omega) rfl rfl (by decide) (by decide) (fun q hq => oI_i ⟨hq.r, fun c => ⟨hP.1.1, hP.1.1, ?_⟩, fun c => ⟨hP.1.1, hP.1.1, ?_⟩⟩)⟩
    · have e : rn (fun i => decide (tb i = 32)) (j + 1) p = p := by
        unfold rn
        rw [if_neg]
        rcases hq with ⟨rfl, -⟩ | ⟨-, hq⟩
        · omega
        · simp only [decide_eq_true_eq]; omega
      rw [hp]
      exact h _ (Fr.sB (by decide)) (by rw [sI_I, if_neg (by omega), e]; exact hp) (by rw [sI_I, if_pos ⟨rfl, rfl⟩, e])
    · have e : rn (fun i => decide (tb i = 32)) (j + 1) p = rn (fun i => decide (tb i = 32)) j (p + 1) := by
        show (if _ then _ else _) = _
        rw [if_pos]
        rcases hq with ⟨-, hq⟩ | ⟨rfl, -⟩
        · simp only [decide_eq_true_eq]; omega
        · omega
      rw [hp]
      rw [e] at h
      have f1 : Fr m [] [7, 9] S (S.setI m 7 ((p : Int) + 1)) := Fr.sB (by decide)
      exact ih (p := p + 1) (hP.fr f1 (by decide) (by decide)) (by rw [sI_I, if_pos ⟨rfl, rfl⟩]; rfl) (by omega) (fun S' f2 => h S' (f1.tr f2))
theorem c_blanks {d m len p : Nat} {tb : Nat → Nat} {S : MS} {Q : Out → MS → Prop} (hd : 2 ≤ d) (hP : TP S m tb len) (hp : S.I m 7 = (p : Int)) (hpl : p ≤ len) (h : ∀ S', Fr m [] [7, 9] S S' → S'.I m 7 = (skb tb len p : Nat) → S'.I m 9 = (skb tb len p : Nat) → Q (.inl none) S') : Mw hX11_blanks yX11_blanks d [vA m] S Q := by
  obtain ⟨dd, rfl⟩ : ∃ e, d = e + 1 := ⟨d - 1, by omega⟩
  exact MX11_blanks ⟨_, f_blanks (by omega) (len - p) hP hp (by omega) h⟩
theorem f_letters {d m len : Nat} {tb : Nat → Nat} {Q : Out → MS → Prop} (hd : 1 ≤ d) : ∀ (j : Nat) {S : MS} {p : Nat}, TP S m tb len → S.I m 7 = (p : Int) → p + j = len → (∀ S', Fr m [] [7] S S' → S'.I m 7 = (rn (fun i => decide (97 ≤ tb i ∧ tb i ≤ 122)) j p : Nat) → Q (.inl none) S') → VX11_letters_4 d Q (j + 1) m S := by
  intro j
  induction j with
  | zero =>
    intro S p hP hp hj h
    unfold VX11_letters_4
    refine ⟨hP.1.1, c_isAt (p := p) (lo := 97) (hi := 122) hd hP hp (by omega) rfl rfl (by decide) (by decide) (fun q hq => oI_i ⟨hq.r, fun c => h S Fr.rf hp, fun c => ?_⟩)⟩
    rcases hq with ⟨-, hq⟩ | ⟨rfl, -⟩ <;> omega
  | succ j ih =>
    intro S p hP hp hj h
    unfold VX11_letters_4
    refine ⟨hP.1.1, c_isAt (p := p) (lo := 97) (hi := 122) hd hP hp (by omega) rfl rfl (by decide) (by decide) (fun q hq => oI_i ⟨hq.r, fun c => ?_, fun c => ⟨hP.1.1, hP.1.1, ?_⟩⟩)⟩
    · have e : rn (fun i => decide (97 ≤ tb i ∧ tb i ≤ 122)) (j + 1) p = p := by
        unfold rn
        rw [if_neg]
        rcases hq with ⟨rfl, -⟩ | ⟨-, hq⟩
        · omega
        · simp only [decide_eq_true_eq]; omega
      exact h S Fr.rf (by rw [e]; exact hp)
    · have e : rn (fun i => decide (97 ≤ tb i ∧ tb i ≤ 122)) (j + 1) p = rn (fun i => decide (97 ≤ tb i ∧ tb i ≤ 122)) j (p + 1) := by
        show (if _ then _ else _) = _
        rw [if_pos]
        rcases hq with ⟨-, hq⟩ | ⟨rfl, -⟩
        · simp only [decide_eq_true_eq]; omega
        · omega
      rw [hp]
      rw [e] at h
      have f1 : Fr m [] [7] S (S.setI m 7 ((p : Int) + 1)) := Fr.sB (by decide)
      exact ih (p := p + 1) (hP.fr f1 (by decide) (by decide)) (by rw [sI_I, if_pos ⟨rfl, rfl⟩]; rfl) (by omega) (fun S' f2 => h S' (f1.tr f2))
theorem c_letters {d m len p : Nat} {tb : Nat → Nat} {S : MS} {Q : Out → MS → Prop} (hd : 3 ≤ d) (hP : TP S m tb len) (hp : S.I m 7 = (p : Int)) (hpl : p ≤ len) (h : ∀ S', Fr m [] [7, 9] S S' → S'.I m 7 = (lte tb len (skb tb len p) : Nat) → S'.I m 9 = (skb tb len p : Nat) → Q (.inl none) S') : Mw hX11_letters yX11_letters d [vA m] S Q := by
  have hL := hP.1
  have a := skb_le (tb := tb) hpl
  obtain ⟨dd, rfl⟩ : ∃ e, d = e + 1 := ⟨d - 1, by omega⟩
  refine MX11_letters ?_
  have hl := hL
  unfold RLay at hl
  unfold VX11_letters_0
  simp only [hl, sI_K, sI_N, sI_R, sI_J, Option.some.injEq, exists_eq_left', true_and, and_true, Int.toNat_zero, Int.reduceToNat, Int.reduceLT, Int.reduceLE, Int.cast_ofNat_Int, forall_eq, ge_iff_le, Int.reduceNeg, Int.reduceAdd, Int.reduceSub, Int.reduceMul, Int.reduceEq, r32_0, r32_1, r32_m1, b01_0, b01_1, not_true_eq_false, not_false_eq_true, false_implies, true_implies, implies_true, forall_const]
  refine c_blanks (by omega) hP hp hpl (fun S1 f1 k1 k2 => oV_i ⟨_, f_letters (by omega) (len - skb tb len p) (hP.fr f1 (by decide) (by decide)) k1 (by omega) (fun S2 f2 k3 => h S2 (f1.tr (f2.wk (by decide) (by decide))) k3 (by rw [f2.fld (by decide), k2]))⟩)
theorem wd_ok : ∀ i, i < 8 → (wd i).length ≤ 6 ∧ 3 ≤ (wd i).length ∧ ∀ k, k < (wd i).length → (wd i).getD k 0 < 128 := by decide +kernel
theorem f_isWord {d m len b e i : Nat} {tb : Nat → Nat} {S : MS} {Q : Out → MS → Prop} (hd : 4 ≤ d) (hP : TP S m tb len) (hb : S.I m 9 = (b : Int)) (hbe : b ≤ e) (hel : e ≤ len) (hi : i < 8) (h : ∀ q, BI q (isW tb i b e) → Q (.inl (some (vI q))) S) : ∀ (j : Nat) {k : Nat} {q : Int}, k + j = (wd i).length → BI q (e - b = (wd i).length ∧ ∀ u, u < k → tb (b + u) = (wd i).getD u 0) → VX11_isWord_24 d Q (j + 1) m (S.T i) q (k : Nat) S := by
  obtain ⟨hL, h8, hlen, ht⟩ := hP
  have hwd := wd_ok i hi
  intro j
  induction j with
  | zero =>
    intro k q hk hq
    rw [show k = (wd i).length by omega] at hq ⊢
    unfold VX11_isWord_24 VX11_isWord_67
    refine ⟨hq.r, fun c => ⟨hq.b, h q hq⟩, fun c => ⟨⟨i, hi, rfl⟩, c_length (i := i) (by omega) hi rfl (oI_i ⟨⟨(by unfold R32; omega), (by unfold R32; omega)⟩, fun _ => ⟨hq.b, h q hq⟩, fun c => absurd (Int.le_refl _) c⟩)⟩⟩
  | succ j ih =>
    intro k q hk hq
    have hl := hL
    unfold RLay at hl
    unfold VX11_isWord_24 VX11_isWord_67 VX11_isWord_60
    refine ⟨hq.r, fun c => ⟨hq.b, h q ?_⟩, fun c => ⟨⟨i, hi, rfl⟩, c_length (i := i) (by omega) hi rfl (oI_i ⟨⟨(by unfold R32; omega), (by unfold R32; omega)⟩, fun c => by omega, fun _ => ?_⟩)⟩⟩
    · rcases hq with ⟨rfl, -⟩ | ⟨e0, hq⟩
      · omega
      · exact Or.inr ⟨e0, fun g => hq ⟨g.1, fun u hu => g.2 u (by omega)⟩⟩
    · have hq' : e - b = (wd i).length ∧ ∀ u, u < k → tb (b + u) = (wd i).getD u 0 := by
        rcases hq with ⟨-, hq⟩ | ⟨rfl, -⟩
        · exact hq
        · omega
      simp only [hl, sI_K, sI_N, sI_R, sI_J, Option.some.injEq, exists_eq_left', true_and, and_true, Int.toNat_zero, Int.reduceToNat, Int.reduceLT, Int.reduceLE, Int.cast_ofNat_Int, forall_eq, ge_iff_le, Int.reduceNeg, Int.reduceAdd, Int.reduceSub, Int.reduceMul, Int.reduceEq, r32_0, r32_1, r32_m1, b01_0, b01_1, not_true_eq_false, not_false_eq_true, false_implies, true_implies, implies_true, forall_const]
      have t1 := ht (b + k) (by omega)
      have t3 := sB_R t1.1
      have w1 := hwd.2.2 k (by omega)
      rw [hb, show ((b : Int) + (k : Int)).toNat = b + k by omega, t1.2]
      refine ⟨by omega, ⟨i, hi, rfl⟩, c_charAt (i := i) (k := k) (by omega) hi rfl rfl (by omega) (oI_i ⟨⟨(by unfold R32; omega), (by unfold R32; omega)⟩, fun c2 => ih (k := k + 1) (by omega) (.n (fun g => c2 ?_)), fun c2 => ih (k := k + 1) (by omega) (.y ⟨hq'.1, fun u hu => ?_⟩)⟩)⟩
      · rw [g.2 k (by omega)]
        unfold sB
        rw [if_pos (by omega)]
      · by_cases eu : u = k
        · subst eu
          unfold sB at c2
          split at c2 <;> omega
        · exact hq'.2 u (by omega)
theorem c_isWord {d m len b e i a : Nat} {tb : Nat → Nat} {S : MS} {Q : Out → MS → Prop} (hd : 5 ≤ d) (hP : TP S m tb len) (hb : S.I m 9 = (b : Int)) (he : S.I m 7 = (e : Int)) (hbe : b ≤ e) (hel : e ≤ len) (hi : i < 8) (ha : a = S.T i) (h : ∀ q, BI q (isW tb i b e) → Q (.inl (some (vI q))) S) : Mw hX11_isWord yX11_isWord d [vA m, vA a] S Q := by
  subst ha
  have hL := hP.1
  have hlen := hP.2.2.1
  have hwd := wd_ok i hi
  obtain ⟨dd, rfl⟩ : ∃ e, d = e + 1 := ⟨d - 1, by omega⟩
  refine MX11_isWord ?_
  have hl := hL
  unfold RLay at hl
  unfold VX11_isWord_0
  simp only [hl, sI_K, sI_N, sI_R, sI_J, Option.some.injEq, exists_eq_left', true_and, and_true, Int.toNat_zero, Int.reduceToNat, Int.reduceLT, Int.reduceLE, Int.cast_ofNat_Int, forall_eq, ge_iff_le, Int.reduceNeg, Int.reduceAdd, Int.reduceSub, Int.reduceMul, Int.reduceEq, r32_0, r32_1, r32_m1, b01_0, b01_1, not_true_eq_false, not_false_eq_true, false_implies, true_implies, implies_true, forall_const]
  rw [hb, he]
  unfold VX11_isWord_21
  refine ⟨⟨i, hi, rfl⟩, c_length (i := i) (by omega) hi rfl (oI_i ⟨⟨(by unfold R32; omega), (by unfold R32; omega)⟩, fun c => ⟨_, f_isWord (by omega) hP hb hbe hel hi h (wd i).length (k := 0) (by omega) (.n (fun g => c (by omega)))⟩, fun c => ⟨_, f_isWord (by omega) hP hb hbe hel hi h (wd i).length (k := 0) (by omega) (.y ⟨by omega, fun u hu => absurd hu (Nat.not_lt_zero u)⟩)⟩⟩)⟩
/-- a number as the reference tells it -/
noncomputable def nmV (tb : Nat → Nat) (len : Nat) (lo hi : Int) (p : Nat) : Int := match pNum tb len lo hi p with
  | .inl _ => -1
  | .inr (v, _) => (v : Int)
theorem f_number {d m len b : Nat} {tb : Nat → Nat} {Q : Out → MS → Prop} {lo hi : Int} (hd : 1 ≤ d) (hlo : R32 lo) (hhi : R32 hi) : ∀ (j : Nat) {S : MS} {p : Nat}, TP S m tb len → S.I m 7 = (p : Int) → S.I m 9 = (b : Int) → b ≤ p → p + j = len → (∀ i, b ≤ i → i < p → 48 ≤ tb i ∧ tb i ≤ 57) → vl tb b (min 3 (p - b)) < 1000 → (∀ S' r, Fr m [] [7] S S' → S'.I m 7 = (rn (fun i => decide (48 ≤ tb i ∧ tb i ≤ 57)) j p : Nat) → r = cD (nmB tb lo hi b (rn (fun i => decide (48 ≤ tb i ∧ tb i ≤ 57)) j p)) (-1) (vl tb b (min 3 (rn (fun i => decide (48 ≤ tb i ∧ tb i ≤ 57)) j p - b)) : Int) → Q (.inl (some (vI r))) S') → VX11_number_6 d Q (j + 1) m lo hi (vl tb b (min 3 (p - b)) : Nat) S := by
  have out : ∀ {j : Nat} {S : MS} {p : Nat}, TP S m tb len → S.I m 7 = (p : Int) → S.I m 9 = (b : Int) → b ≤ p → p ≤ len → vl tb b (min 3 (p - b)) < 1000 → (∀ r, r = cD (nmB tb lo hi b p) (-1) (vl tb b (min 3 (p - b)) : Int) → Q (.inl (some (vI r))) S) → (S.K m = 11 ∧ (S.K m = 11 ∧ ((R32 (S.I m 7) ∧ R32 (S.I m 9)) ∧ (((S.I m 7) = (S.I m 9)) → VX11_number_99 d Q S) ∧ (¬ ((S.I m 7) = (S.I m 9)) → S.K m = 11 ∧ (S.K m = 11 ∧ ((R32 ((S.I m 7) - (S.I m 9)) ∧ R32 (3 : Int)) ∧ (((3 : Int) < ((S.I m 7) - (S.I m 9))) → VX11_number_99 d Q S) ∧ (¬ ((3 : Int) < ((S.I m 7) - (S.I m 9))) → (R32 ((vl tb b (min 3 (p - b)) : Nat) : Int) ∧ R32 lo) ∧ ((((vl tb b (min 3 (p - b)) : Nat) : Int) < lo) → VX11_number_99 d Q S) ∧ (¬ (((vl tb b (min 3 (p - b)) : Nat) : Int) < lo) → (R32 ((vl tb b (min 3 (p - b)) : Nat) : Int) ∧ R32 hi) ∧ ((((vl tb b (min 3 (p - b)) : Nat) : Int) ≤ hi) → Q (.inl (some (vI ((vl tb b (min 3 (p - b)) : Nat) : Int)))) S) ∧ (¬ (((vl tb b (min 3 (p - b)) : Nat) : Int) ≤ hi) → VX11_number_99 d Q S))))))))) := by
    intro j S p hP hp hb hbp hpl hv h
    have hL := hP.1
    have hlen := hP.2.2.1
    rw [hp, hb]
    unfold VX11_number_99
    refine ⟨hL.1, hL.1, ⟨(by unfold R32; omega), (by unfold R32; omega)⟩, fun c => h _ (cD_y (Or.inl (by omega))).symm, fun c => ⟨hL.1, hL.1, ⟨(by unfold R32; omega), (by unfold R32; omega)⟩, fun c2 => h _ (cD_y (Or.inr (Or.inl (by omega)))).symm, fun c2 => ⟨⟨(by unfold R32; omega), hlo⟩, fun c3 => h _ (cD_y (Or.inr (Or.inr (Or.inl c3)))).symm, fun c3 => ⟨⟨(by unfold R32; omega), hhi⟩, fun c4 => h _ (cD_n (fun k => ?_)).symm, fun c4 => h _ (cD_y (Or.inr (Or.inr (Or.inr (by omega))))).symm⟩⟩⟩⟩
    unfold nmB at k
    omega
  intro j
  induction j with
  | zero =>
    intro S p hP hp hb hbp hj hdg hv h
    unfold VX11_number_6
    refine ⟨hP.1.1, c_isAt (p := p) (lo := 48) (hi := 57) hd hP hp (by omega) rfl rfl (by decide) (by decide) (fun q hq => oI_i ⟨hq.r, fun c => out (j := 0) hP hp hb hbp (by omega) hv (fun r hr => h S r Fr.rf hp hr), fun c => ?_⟩)⟩
    rcases hq with ⟨-, hq⟩ | ⟨rfl, -⟩ <;> omega
  | succ j ih =>
    intro S p hP hp hb hbp hj hdg hv h
    have hL := hP.1
    have hlen := hP.2.2.1
    unfold VX11_number_6
    refine ⟨hP.1.1, c_isAt (p := p) (lo := 48) (hi := 57) hd hP hp (by omega) rfl rfl (by decide) (by decide) (fun q hq => oI_i ⟨hq.r, fun c => ?_, fun c => ?_⟩)⟩
    · have e : rn (fun i => decide (48 ≤ tb i ∧ tb i ≤ 57)) (j + 1) p = p := by
        unfold rn
        rw [if_neg]
        rcases hq with ⟨rfl, -⟩ | ⟨-, hq⟩
        · omega
        · simp only [decide_eq_true_eq]; omega
      rw [e] at h
      exact out (j := 0) hP hp hb hbp (by omega) hv (fun r hr => h S r Fr.rf hp hr)
    · have hdp : 48 ≤ tb p ∧ tb p ≤ 57 := by rcases hq with ⟨-, hq⟩ | ⟨rfl, -⟩ <;> omega
      have e : rn (fun i => decide (48 ≤ tb i ∧ tb i ≤ 57)) (j + 1) p = rn (fun i => decide (48 ≤ tb i ∧ tb i ≤ 57)) j (p + 1) := by
        show (if _ then _ else _) = _
        rw [if_pos (by simp only [decide_eq_true_eq]; omega)]
      rw [e] at h
      have f1 : Fr m [] [7] S (S.setI m 7 ((p : Int) + 1)) := Fr.sB (by decide)
      have hdg' : ∀ i, b ≤ i → i < p + 1 → 48 ≤ tb i ∧ tb i ≤ 57 := by
        intro i h1 h2
        by_cases ei : i = p
        · rw [ei]; exact hdp
        · exact hdg i h1 (by omega)
      have go : ∀ v : Int, v = (vl tb b (min 3 (p + 1 - b)) : Nat) → vl tb b (min 3 (p + 1 - b)) < 1000 → VX11_number_51 d (VX11_number_6 d Q (j + 1)) Q m lo hi v S := by
        intro v hv2 hv3
        unfold VX11_number_51
        rw [hp, hv2]
        exact ⟨hL.1, hL.1, ih (p := p + 1) (hP.fr f1 (by decide) (by decide)) (by rw [sI_I, if_pos ⟨rfl, rfl⟩]; rfl) (by rw [f1.fld (by decide)]; exact hb) (by omega) (by omega) hdg' hv3 (fun S' r f2 => h S' r (f1.tr f2))⟩
      have hl := hL
      unfold RLay at hl
      simp only [hl, sI_K, sI_N, sI_R, sI_J, Option.some.injEq, exists_eq_left', true_and, and_true, Int.toNat_zero, Int.reduceToNat, Int.reduceLT, Int.reduceLE, Int.cast_ofNat_Int, forall_eq, ge_iff_le, Int.reduceNeg, Int.reduceAdd, Int.reduceSub, Int.reduceMul, Int.reduceEq, r32_0, r32_1, r32_m1, b01_0, b01_1, not_true_eq_false, not_false_eq_true, false_implies, true_implies, implies_true, forall_const]
      rw [hp, hb]
      refine ⟨⟨(by unfold R32; omega), (by unfold R32; omega)⟩, fun c2 => go _ ?_ ?_, fun c2 => ?_⟩
      · rw [show min 3 (p - b) = 3 by omega, show min 3 (p + 1 - b) = 3 by omega]
      · rw [show min 3 (p + 1 - b) = min 3 (p - b) by omega]; exact hv
      · have t1 := hP.2.2.2 p (by omega)
        have ev : vl tb b (min 3 (p + 1 - b)) = 10 * vl tb b (min 3 (p - b)) + (tb p - 48) := by
          rw [show min 3 (p + 1 - b) = min 3 (p - b) + 1 by omega]
          show 10 * vl tb b (min 3 (p - b)) + (tb (b + min 3 (p - b)) - 48) = _
          rw [show b + min 3 (p - b) = p by omega]
        have hlt : vl tb b (min 3 (p - b)) < 100 := by
          have : ∀ k, k ≤ p - b → vl tb b k < 10 ^ k := by
            intro k
            induction k with
            | zero => intro _; unfold vl; decide
            | succ k ihk =>
              intro hk
              have := ihk (by omega)
              have := hdg (b + k) (by omega) (by omega)
              unfold vl
              rw [Nat.pow_succ]
              omega
          have h1 := this (min 3 (p - b)) (by omega)
          have h2 : 10 ^ min 3 (p - b) ≤ 10 ^ 2 := Nat.pow_le_pow_right (by decide) (by omega)
          omega
        rw [Int.toNat_natCast, t1.2]
        have es : sB (tb p) = (tb p : Int) := by unfold sB; rw [if_pos (by omega)]
        rw [es]
        refine ⟨by omega, go _ ?_ ?_⟩
        · rw [ev]; omega
        · rw [ev]; omega
theorem c_number {d m len p : Nat} {tb : Nat → Nat} {S : MS} {Q : Out → MS → Prop} {lo hi : Int} (hd : 3 ≤ d) (hP : TP S m tb len) (hp : S.I m 7 = (p : Int)) (hpl : p ≤ len) (hlo : R32 lo) (hhi : R32 hi) (h : ∀ S', Fr m [] [7, 9] S S' → (∀ f, pNum tb len lo hi p = .inl f → S'.I m 9 = (f : Nat)) → (∀ v e, pNum tb len lo hi p = .inr (v, e) → S'.I m 7 = (e : Nat) ∧ S'.I m 9 = (skb tb len p : Nat)) → Q (.inl (some (vI (nmV tb len lo hi p)))) S') : Mw hX11_number yX11_number d [vA m, vI lo, vI hi] S Q := by
  have hL := hP.1
  have a := skb_le (tb := tb) hpl
  obtain ⟨dd, rfl⟩ : ∃ e, d = e + 1 := ⟨d - 1, by omega⟩
  refine MX11_number ?_
  have hl := hL
  unfold RLay at hl
  unfold VX11_number_0
  simp only [hl, sI_K, sI_N, sI_R, sI_J, Option.some.injEq, exists_eq_left', true_and, and_true, Int.toNat_zero, Int.reduceToNat, Int.reduceLT, Int.reduceLE, Int.cast_ofNat_Int, forall_eq, ge_iff_le, Int.reduceNeg, Int.reduceAdd, Int.reduceSub, Int.reduceMul, Int.reduceEq, r32_0, r32_1, r32_m1, b01_0, b01_1, not_true_eq_false, not_false_eq_true, false_implies, true_implies, implies_true, forall_const]
  refine c_blanks (by omega) hP hp hpl (fun S1 f1 k1 k2 => oV_i ⟨len - skb tb len p + 1, ?_⟩)
  have := f_number (d := dd) (Q := Q) (m := m) (b := skb tb len p) (by omega) hlo hhi (len - skb tb len p) (S := S1) (p := skb tb len p) (hP.fr f1 (by decide) (by decide)) k1 k2 (Nat.le_refl _) (by omega) (fun i h1 h2 => by omega) (by rw [Nat.sub_self]; show 0 < 1000; decide) (fun S2 r f2 k3 hr => ?_)
  · rw [Nat.sub_self] at this
    exact this
  · have k9 : S2.I m 9 = (skb tb len p : Nat) := by rw [f2.fld (by decide), k2]
    have e1 : dge tb len (skb tb len p) = rn (fun i => decide (48 ≤ tb i ∧ tb i ≤ 57)) (len - skb tb len p) (skb tb len p) := rfl
    rw [← e1] at k3 hr
    have := h S2 (f1.tr (f2.wk (by decide) (by decide)))
    unfold nmV at this
    unfold pNum at this
    by_cases c : nmB tb lo hi (skb tb len p) (dge tb len (skb tb len p))
    · rw [cD_y c] at this hr
      rw [hr]
      exact this (fun f e => by cases e; exact k9) (fun v e k => by cases k)
    · rw [cD_n c] at this hr
      rw [hr]
      exact this (fun f e => by cases e) (fun v e k => by cases k; exact ⟨k3, k9⟩)
theorem nmV_r {tb : Nat → Nat} {len p : Nat} {lo hi : Int} (hp : p ≤ len) (h0 : 0 ≤ lo) (hh : hi < 100000) : -1 ≤ nmV tb len lo hi p ∧ nmV tb len lo hi p < 100000 := by
  unfold nmV
  cases hn : pNum tb len lo hi p with
  | inl f => simp
  | inr q =>
    obtain ⟨v, e⟩ := q
    have := pNum_r hp hn
    simp only
    omega
theorem c_drafted {d m : Nat} {S : MS} {Q : Out → MS → Prop} (hd : 1 ≤ d) (hL : RLay S m) (h : Q (.inl (some (vI (S.I (m+3) 0 - 1)))) S) : Mw hX11_drafted yX11_drafted d [vA m] S Q := by
  obtain ⟨dd, rfl⟩ : ∃ e, d = e + 1 := ⟨d - 1, by omega⟩
  refine MX11_drafted ?_
  have hl := hL
  unfold RLay at hl
  unfold VX11_drafted_0
  simp only [hl, sI_K, sI_N, sI_R, sI_J, Option.some.injEq, exists_eq_left', true_and, and_true, Int.toNat_zero, Int.reduceToNat, Int.reduceLT, Int.reduceLE, Int.cast_ofNat_Int, forall_eq, ge_iff_le, Int.reduceNeg, Int.reduceAdd, Int.reduceSub, Int.reduceMul, Int.reduceEq, r32_0, r32_1, r32_m1, b01_0, b01_1, not_true_eq_false, not_false_eq_true, false_implies, true_implies, implies_true, forall_const]
  exact h
/-- how a reading came out -/
def PR (S' : MS) (m : Nat) (r : Int) (res : Nat ⊕ ((Nat → Int) × Nat)) : Prop := (∀ f, res = .inl f → r = 0 ∧ S'.I m 9 = (f : Nat)) ∧ ∀ w' e, res = .inr (w', e) → r = 1 ∧ S'.I (m+3) = w' ∧ S'.I m 7 = (e : Nat)
theorem PR.no {S' : MS} {m f : Nat} (h : S'.I m 9 = (f : Nat)) : PR S' m 0 (.inl f) := ⟨fun g e => by cases e; exact ⟨rfl, h⟩, fun w' e k => by cases k⟩
theorem PR.ye {S' : MS} {m e : Nat} {w' : Nat → Int} (h1 : S'.I (m+3) = w') (h2 : S'.I m 7 = (e : Nat)) : PR S' m 1 (.inr (w', e)) := ⟨fun g e => (by cases e), fun w'' e' k => by cases k; exact ⟨rfl, h1, h2⟩⟩
theorem PR.b {S' : MS} {m : Nat} {r : Int} {res : Nat ⊕ ((Nat → Int) × Nat)} (h : PR S' m r res) : B01 r := by
  cases res with
  | inl f => exact Or.inl (h.1 f rfl).1
  | inr q => obtain ⟨w', e⟩ := q; exact Or.inr (h.2 w' e rfl).1
theorem c_readThings {d m len n b e : Nat} {tb : Nat → Nat} {w : Nat → Int} {S : MS} {Q : Out → MS → Prop} (hd : 4 ≤ d) (hP : TP S m tb len) (hw : S.I (m+3) = w) (hg : GW n w) (hb : S.I m 9 = (b : Int)) (he : S.I m 7 = (e : Int)) (hel : e ≤ len) (h : ∀ S' r, Fr m [3] [7, 9] S S' → PR S' m r (pThings tb len w b e) → Q (.inl (some (vI r))) S') : Mw hX11_readThings yX11_readThings d [vA m] S Q := by
  have hL := hP.1
  have g2 := hg.2.2.1
  obtain ⟨dd, rfl⟩ : ∃ e, d = e + 1 := ⟨d - 1, by omega⟩
  refine MX11_readThings ?_
  have hl := hL
  unfold RLay at hl
  unfold VX11_readThings_0
  simp only [hl, sI_K, sI_N, sI_R, sI_J, Option.some.injEq, exists_eq_left', true_and, and_true, Int.toNat_zero, Int.reduceToNat, Int.reduceLT, Int.reduceLE, Int.cast_ofNat_Int, forall_eq, ge_iff_le, Int.reduceNeg, Int.reduceAdd, Int.reduceSub, Int.reduceMul, Int.reduceEq, r32_0, r32_1, r32_m1, b01_0, b01_1, not_true_eq_false, not_false_eq_true, false_implies, true_implies, implies_true, forall_const]
  rw [hw, g2.1]
  unfold pThings at h
  refine ⟨(by unfold R32; omega), fun c => c_number (by omega) hP he hel (by unfold R32; omega) (by unfold R32; omega) (fun S1 f1 k1 k2 => oI_i ?_), fun c => ?_⟩
  · rw [if_neg (by omega)] at h
    have nr := nmV_r (tb := tb) (lo := 3) (hi := 7) hel (by decide) (by decide)
    cases hn : pNum tb len 3 7 e with
    | inl f =>
      rw [hn] at h
      have ev : nmV tb len 3 7 e = -1 := by unfold nmV; rw [hn]
      rw [ev]
      exact ⟨r32_m1, fun c => absurd c (by decide), fun _ => h S1 0 (f1.wk (by decide) (by decide)) (.no (k1 f hn))⟩
    | inr q =>
      obtain ⟨v, q⟩ := q
      rw [hn] at h
      have ev : nmV tb len 3 7 e = (v : Int) := by unfold nmV; rw [hn]
      obtain ⟨a1, a2, a3, a4⟩ := pNum_r hel hn
      obtain ⟨k3, k4⟩ := k2 v q hn
      have hL1 := f1.lay hL
      have hl := hL1
      unfold RLay at hl
      rw [ev]
      refine ⟨(by unfold R32; omega), fun _ => ?_, fun c => by omega⟩
      simp only [hl, sI_K, sI_N, sI_R, sI_J, Option.some.injEq, exists_eq_left', true_and, and_true, Int.toNat_zero, Int.reduceToNat, Int.reduceLT, Int.reduceLE, Int.cast_ofNat_Int, forall_eq, ge_iff_le, Int.reduceNeg, Int.reduceAdd, Int.reduceSub, Int.reduceMul, Int.reduceEq, r32_0, r32_1, r32_m1, b01_0, b01_1, not_true_eq_false, not_false_eq_true, false_implies, true_implies, implies_true, forall_const]
      refine c_setsThings (n := v) (by omega) hl.2.2.1.2.2.1 hl.2.2.2.2.2.1 rfl (by omega) (by omega) (fun S2 j1 j2 j3 => oV_i ?_)
      have f2 : Fr m [3] [] S1 S2 := ⟨j1, fun a h1 h2 => j2 a (h2 3 (by decide)), fun k _ => by rw [j2 m (by omega)]⟩
      refine h S2 1 ((f1.wk (by decide) (by decide)).tr (f2.wk (by decide) (by decide))) (.ye ?_ (by rw [f2.fld (by decide)]; exact k3))
      rw [j3, f1.arr (by decide) (by decide), hw]
  · rw [if_pos (by omega)] at h
    exact h S 0 Fr.rf (.no hb)
