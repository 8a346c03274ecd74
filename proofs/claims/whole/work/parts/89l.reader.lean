/-! the class's reader: blanks, words, numbers -/
/-- only some fields of one cell change -/
def Fh (g : Nat) (L : List Nat) (S S' : MS) : Prop := Fi g (g+1) S S' ∧ ∀ k, k ∉ L → S'.I g k = S.I g k
theorem Fh.rf {g : Nat} {L : List Nat} {S : MS} : Fh g L S S := ⟨Fi.rf, fun _ _ => rfl⟩
theorem Fh.tr {g : Nat} {L : List Nat} {S S1 S2 : MS} (f : Fh g L S S1) (k : Fh g L S1 S2) : Fh g L S S2 := ⟨f.1.tr k.1, fun q hq => (k.2 q hq).trans (f.2 q hq)⟩
theorem Fh.wk {g : Nat} {L L' : List Nat} {S S1 : MS} (f : Fh g L S S1) (h : ∀ k, k ∈ L → k ∈ L') : Fh g L' S S1 := ⟨f.1, fun q hq => f.2 q (fun k => hq (h q k))⟩
theorem Fh.s {g k : Nat} {L : List Nat} {v : Int} {S : MS} (h : k ∈ L) : Fh g L S (S.setI g k v) := ⟨Fi.sI (by omega), fun q hq => by rw [sI_I, if_neg (fun e => hq (by rw [e.2]; exact h))]⟩
def TG (S : MS) (g : Nat) (tb : Nat → Nat) (len : Nat) : Prop := S.K g = 4 ∧ S.R g 0 = some (g+1) ∧ TY S (g+1) ∧ TBy S (g+1) tb len ∧ S.I g 2 = (len : Int)
theorem TG.h {g len : Nat} {tb : Nat → Nat} {L : List Nat} {S S1 : MS} (h : TG S g tb len) (f : Fh g L S S1) (h2 : 2 ∉ L) : TG S1 g tb len := ⟨by rw [f.1.1]; exact h.1, by rw [f.1.2.2.1]; exact h.2.1, f.1.ty h.2.2.1, f.1.tb (by omega) h.2.2.2.1, by rw [f.2 2 h2]; exact h.2.2.2.2⟩
theorem k_isLetter {d v : Nat} {S : MS} {Q : Out → MS → Prop} {x : Int} (hd : 1 ≤ d) (hx : x = (v : Int)) (hv : v < 256) (h : ∀ q, BI q (97 ≤ v ∧ v ≤ 122) → Q (.inl (some (vI q))) S) : Mw hX4_isLetter yX4_isLetter d [vI x] S Q := by
  subst hx
  obtain ⟨dd, rfl⟩ : ∃ e, d = e + 1 := ⟨d - 1, by omega⟩
  refine MX4_isLetter ?_
  unfold VX4_isLetter_0
  exact ⟨⟨(by unfold R32; omega), (by unfold R32; omega)⟩, fun c => ⟨b01_0, h _ (.n (by omega))⟩, fun c => ⟨⟨(by unfold R32; omega), (by unfold R32; omega)⟩, fun c2 => ⟨b01_0, h _ (.n (by omega))⟩, fun c2 => ⟨b01_1, h _ (.y (by omega))⟩⟩⟩
theorem k_isDigit {d v : Nat} {S : MS} {Q : Out → MS → Prop} {x : Int} (hd : 1 ≤ d) (hx : x = (v : Int)) (hv : v < 256) (h : ∀ q, BI q (48 ≤ v ∧ v ≤ 57) → Q (.inl (some (vI q))) S) : Mw hX4_isDigit yX4_isDigit d [vI x] S Q := by
  subst hx
  obtain ⟨dd, rfl⟩ : ∃ e, d = e + 1 := ⟨d - 1, by omega⟩
  refine MX4_isDigit ?_
  unfold VX4_isDigit_0
  exact ⟨⟨(by unfold R32; omega), (by unfold R32; omega)⟩, fun c => ⟨b01_0, h _ (.n (by omega))⟩, fun c => ⟨⟨(by unfold R32; omega), (by unfold R32; omega)⟩, fun c2 => ⟨b01_0, h _ (.n (by omega))⟩, fun c2 => ⟨b01_1, h _ (.y (by omega))⟩⟩⟩
theorem k_refuse {d g : Nat} {S : MS} {Q : Out → MS → Prop} {x : Int} (hd : 1 ≤ d) (hK : S.K g = 4) (h : Q (.inl (some (vI 0))) (S.setI g 5 x)) : Mw hX4_refuse yX4_refuse d [vA g, vI x] S Q := by
  obtain ⟨dd, rfl⟩ : ∃ e, d = e + 1 := ⟨d - 1, by omega⟩
  refine MX4_refuse ?_
  unfold VX4_refuse_0
  exact ⟨hK, b01_0, h⟩
theorem MX4_skipBlanks {d : Nat} {x0 : Nat} {S : MS} {Q : Out → MS → Prop} (h : ∃ f, VX4_skipBlanks_0 d Q f x0 S) : Mw hX4_skipBlanks yX4_skipBlanks (d + 1) [vA x0] S Q := by
  obtain ⟨f, h⟩ := h
  exact Mw.ofJ (by decide) (Nat.le_of_ble_eq_true rfl) (JX4_skipBlanks_0 f x0 S h)
theorem kf_blanks {d g len : Nat} {tb : Nat → Nat} {Q : Out → MS → Prop} (hd : 1 ≤ d) : ∀ (j : Nat) {S : MS} {p : Nat}, TG S g tb len → S.I g 3 = (p : Int) → p + j = len → (∀ S', Fh g [3] S S' → S'.I g 3 = (rn (fun i => decide (tb i = 32)) j p : Nat) → Q (.inl none) S') → VX4_skipBlanks_0 d Q (j + 1) g S := by
  intro j
  induction j with
  | zero =>
    intro S p hP hp hj h
    have hlen := hP.2.2.2.1.1
    unfold VX4_skipBlanks_0
    rw [hp, hP.2.2.2.2]
    exact ⟨hP.1, hP.1, ⟨(by unfold R32; omega), (by unfold R32; omega)⟩, fun _ => h S Fh.rf hp, fun c => by omega⟩
  | succ j ih =>
    intro S p hP hp hj h
    have hlen := hP.2.2.2.1.1
    have t1 := (hP.2.2.2.1.2 p (by omega)).1
    unfold VX4_skipBlanks_0
    rw [hp, hP.2.2.2.2]
    refine ⟨hP.1, hP.1, ⟨(by unfold R32; omega), (by unfold R32; omega)⟩, fun c => by omega, fun _ => ⟨hP.1, g+1, hP.2.1, hP.1, hP.2.2.1.1, k_tAt hd hP.2.2.1 hP.2.2.2.1 rfl (by omega) (oI_i ⟨⟨(by unfold R32; omega), (by unfold R32; omega)⟩, fun c => ?_, fun c => ⟨hP.1, hP.1, ?_⟩⟩)⟩⟩
    · have e : rn (fun i => decide (tb i = 32)) (j + 1) p = p := by
        unfold rn
        rw [if_neg]
        simp only [decide_eq_true_eq]; omega
      exact h S Fh.rf (by rw [e]; exact hp)
    · have e : rn (fun i => decide (tb i = 32)) (j + 1) p = rn (fun i => decide (tb i = 32)) j (p + 1) := by
        show (if _ then _ else _) = _
        rw [if_pos]
        simp only [decide_eq_true_eq]; omega
      rw [hp]
      rw [e] at h
      have f1 : Fh g [3] S (S.setI g 3 ((p : Int) + 1)) := Fh.s (by decide)
      exact ih (p := p + 1) (hP.h f1 (by decide)) (by rw [sI_I, if_pos ⟨rfl, rfl⟩]; rfl) (by omega) (fun S' f2 => h S' (f1.tr f2))
theorem k_blanks {d g len p : Nat} {tb : Nat → Nat} {S : MS} {Q : Out → MS → Prop} (hd : 2 ≤ d) (hP : TG S g tb len) (hp : S.I g 3 = (p : Int)) (hpl : p ≤ len) (h : ∀ S', Fh g [3] S S' → TG S' g tb len → S'.I g 3 = (skb tb len p : Nat) → Q (.inl none) S') : Mw hX4_skipBlanks yX4_skipBlanks d [vA g] S Q := by
  obtain ⟨dd, rfl⟩ : ∃ e, d = e + 1 := ⟨d - 1, by omega⟩
  exact MX4_skipBlanks ⟨_, kf_blanks (by omega) (len - p) hP hp (by omega) (fun S' f => h S' f (hP.h f (by decide)))⟩
/-! a word -/
theorem kf_word50 {d g len p e i : Nat} {tb : Nat → Nat} {S : MS} {Q : Out → MS → Prop} (hd : 4 ≤ d) (hP : TG S g tb len) (hp : S.I g 3 = (p : Int)) (hpe : p ≤ e) (hel : e ≤ len) (hi : i < 8) (hlen : e - p = (wd i).length) (hy : isW tb i p e → Q (.inl (some (vI 1))) (S.setI g 3 (e : Int))) (hn : ¬ isW tb i p e → Q (.inl (some (vI 0))) S) : ∀ (j : Nat) {k : Nat}, k + j = (wd i).length → (∀ u, u < k → tb (p + u) = (wd i).getD u 0) → VX4_readWord_50 d Q (j + 1) g (S.T i) (e : Nat) (k : Nat) S := by
  have hwd := wd_ok i hi
  have h4 := hP.2.2.2.1.1
  intro j
  induction j with
  | zero =>
    intro k hk hz
    unfold VX4_readWord_50
    refine ⟨⟨i, hi, rfl⟩, c_length (by omega) hi rfl (oI_i ⟨⟨(by unfold R32; omega), (by unfold R32; omega)⟩, fun _ => ⟨hP.1, b01_1, hy ⟨hlen, fun u hu => hz u (by omega)⟩⟩, fun c => by omega⟩)⟩
  | succ j ih =>
    intro k hk hz
    have t1 := (hP.2.2.2.1.2 (p + k) (by omega)).1
    have t2 := hwd.2.2 k (by omega)
    unfold VX4_readWord_50
    refine ⟨⟨i, hi, rfl⟩, c_length (by omega) hi rfl (oI_i ⟨⟨(by unfold R32; omega), (by unfold R32; omega)⟩, fun c => by omega, fun _ => ⟨hP.1, g+1, hP.2.1, hP.1, hP.2.2.1.1, k_tAt (i := p + k) (by omega) hP.2.2.1 hP.2.2.2.1 (by rw [hp]; omega) (by omega) (oI_i ⟨⟨i, hi, rfl⟩, c_charAt (k := k) (by omega) hi rfl rfl (by omega) (oI_i ⟨⟨(by unfold R32; omega), (by unfold R32; omega)⟩, fun c => ?_, fun c => ⟨b01_0, hn (fun z => ?_)⟩⟩)⟩)⟩⟩)⟩
    · refine ih (k := k + 1) (by omega) (fun u hu => ?_)
      by_cases g : u = k
      · rw [g]; omega
      · exact hz u (by omega)
    · have := z.2 k (by omega)
      omega
theorem kf_word5 {d g len p i : Nat} {tb : Nat → Nat} {S : MS} {Q : Out → MS → Prop} (hd : 4 ≤ d) (hP : TG S g tb len) (hp : S.I g 3 = (p : Int)) (hi : i < 8) : ∀ (j : Nat) {q : Nat}, p ≤ q → q + j = len → (isW tb i p (rn (fun i => decide (97 ≤ tb i ∧ tb i ≤ 122)) j q) → Q (.inl (some (vI 1))) (S.setI g 3 ((rn (fun i => decide (97 ≤ tb i ∧ tb i ≤ 122)) j q : Nat) : Int))) → (¬ isW tb i p (rn (fun i => decide (97 ≤ tb i ∧ tb i ≤ 122)) j q) → Q (.inl (some (vI 0))) S) → VX4_readWord_5 d Q (j + 1) g (S.T i) (q : Nat) S := by
  have hwd := wd_ok i hi
  have h4 := hP.2.2.2.1.1
  have out : ∀ {q : Nat}, p ≤ q → q ≤ len → (isW tb i p q → Q (.inl (some (vI 1))) (S.setI g 3 (q : Int))) → (¬ isW tb i p q → Q (.inl (some (vI 0))) S) → VX4_readWord_33 d Q g (S.T i) (q : Nat) S := by
    intro q h1 h2 hy hn
    unfold VX4_readWord_33
    rw [hp]
    refine ⟨hP.1, ⟨i, hi, rfl⟩, c_length (by omega) hi rfl (oI_i ⟨⟨(by unfold R32; omega), (by unfold R32; omega)⟩, fun c => ⟨_, kf_word50 hd hP hp h1 h2 hi (by omega) hy hn (wd i).length (k := 0) (by omega) (fun u hu => absurd hu (Nat.not_lt_zero u))⟩, fun c => ⟨b01_0, hn (fun z => c (by have := z.1; omega))⟩⟩)⟩
  intro j
  induction j with
  | zero =>
    intro q h1 h2 hy hn
    unfold VX4_readWord_5
    rw [hP.2.2.2.2]
    exact ⟨hP.1, ⟨(by unfold R32; omega), (by unfold R32; omega)⟩, fun _ => out h1 (by omega) hy hn, fun c => by omega⟩
  | succ j ih =>
    intro q h1 h2 hy hn
    have t1 := (hP.2.2.2.1.2 q (by omega)).1
    unfold VX4_readWord_5
    rw [hP.2.2.2.2]
    refine ⟨hP.1, ⟨(by unfold R32; omega), (by unfold R32; omega)⟩, fun c => by omega, fun _ => ⟨hP.1, g+1, hP.2.1, hP.2.2.1.1, k_tAt (by omega) hP.2.2.1 hP.2.2.2.1 rfl (by omega) (oI_i (k_isLetter (by omega) rfl t1 (fun v hv => oI_i ⟨hv.r, fun c => ?_, fun c => ?_⟩)))⟩⟩
    · have e : rn (fun i => decide (97 ≤ tb i ∧ tb i ≤ 122)) (j + 1) q = q := by
        unfold rn
        rw [if_neg]
        rcases hv with ⟨rfl, -⟩ | ⟨-, hv⟩
        · omega
        · simp only [decide_eq_true_eq]; omega
      rw [e] at hy hn
      exact out h1 (by omega) hy hn
    · have e : rn (fun i => decide (97 ≤ tb i ∧ tb i ≤ 122)) (j + 1) q = rn (fun i => decide (97 ≤ tb i ∧ tb i ≤ 122)) j (q + 1) := by
        show (if _ then _ else _) = _
        rw [if_pos]
        rcases hv with ⟨-, hv⟩ | ⟨rfl, -⟩
        · simp only [decide_eq_true_eq]; omega
        · omega
      rw [e] at hy hn
      exact ih (q := q + 1) (by omega) (by omega) hy hn
theorem k_readWord {d g len p i a : Nat} {tb : Nat → Nat} {S : MS} {Q : Out → MS → Prop} (hd : 5 ≤ d) (hP : TG S g tb len) (hp : S.I g 3 = (p : Int)) (hpl : p ≤ len) (hi : i < 8) (ha : a = S.T i) (hy : isW tb i p (lte tb len p) → Q (.inl (some (vI 1))) (S.setI g 3 ((lte tb len p : Nat) : Int))) (hn : ¬ isW tb i p (lte tb len p) → Q (.inl (some (vI 0))) S) : Mw hX4_readWord yX4_readWord d [vA g, vA a] S Q := by
  subst ha
  obtain ⟨dd, rfl⟩ : ∃ e, d = e + 1 := ⟨d - 1, by omega⟩
  refine MX4_readWord ?_
  unfold VX4_readWord_0
  rw [hp]
  exact ⟨hP.1, _, kf_word5 (by omega) hP hp hi (len - p) (q := p) (Nat.le_refl _) (by omega) hy hn⟩
/-! a number -/
theorem kf_num14 {d g len b : Nat} {tb : Nat → Nat} {Q : Out → MS → Prop} {lo hi : Int} (hd : 1 ≤ d) (hlo : R32 lo) (hhi : R32 hi) : ∀ (j : Nat) {S : MS} {p : Nat} {v : Int}, TG S g tb len → S.I g 3 = (p : Int) → S.I g 4 = (b : Int) → b ≤ p → p + j = len → (p - b ≤ 3 → v = (vl tb b (p - b) : Nat)) → (∀ k, k ≤ p - b → vl tb b k < 10 ^ k) → 0 ≤ v ∧ v ≤ 9999 → (∀ S' (r : Int), Fh g [3, 5] S S' → S'.I g 3 = (rn (fun i => decide (48 ≤ tb i ∧ tb i ≤ 57)) j p : Nat) → (nmB tb lo hi b (rn (fun i => decide (48 ≤ tb i ∧ tb i ≤ 57)) j p) → r = -1 ∧ S'.I g 5 = (b : Int)) → (¬ nmB tb lo hi b (rn (fun i => decide (48 ≤ tb i ∧ tb i ≤ 57)) j p) → r = (vl tb b (min 3 (rn (fun i => decide (48 ≤ tb i ∧ tb i ≤ 57)) j p - b)) : Nat) ∧ S'.I g 5 = S.I g 5) → Q (.inl (some (vI r))) S') → VX4_readNumber_14 d Q (j + 1) g lo hi v S := by
  have out : ∀ {S : MS} {p : Nat} {v : Int}, TG S g tb len → S.I g 3 = (p : Int) → S.I g 4 = (b : Int) → b ≤ p → p ≤ len → (p - b ≤ 3 → v = (vl tb b (p - b) : Nat)) → 0 ≤ v ∧ v ≤ 9999 → (∀ S' (r : Int), Fh g [3, 5] S S' → S'.I g 3 = (p : Nat) → (nmB tb lo hi b p → r = -1 ∧ S'.I g 5 = (b : Int)) → (¬ nmB tb lo hi b p → r = (vl tb b (min 3 (p - b)) : Nat) ∧ S'.I g 5 = S.I g 5) → Q (.inl (some (vI r))) S') → VX4_readNumber_81 d Q g lo hi v S := by
    intro S p v hP hp hb hbp hpl hv hv9 h
    have h4 := hP.2.2.2.1.1
    have bad : nmB tb lo hi b p → VX4_readNumber_114 d Q g S := by
      intro z
      unfold VX4_readNumber_114
      rw [hb]
      refine ⟨hP.1, hP.1, k_refuse hd hP.1 (oI_i (h _ _ (Fh.s (by decide)) (by rw [sI_I, if_neg (by omega)]; exact hp) (fun _ => ⟨rfl, by rw [sI_I, if_pos ⟨rfl, rfl⟩]⟩) (fun k => absurd z k)))⟩
    unfold VX4_readNumber_81
    rw [hp, hb]
    refine ⟨hP.1, hP.1, ⟨(by unfold R32; omega), (by unfold R32; omega)⟩, fun c => bad (Or.inl (by omega)), fun c => ⟨⟨(by unfold R32; omega), (by unfold R32; omega)⟩, fun c2 => bad (Or.inr (Or.inl (by omega))), fun c2 => ?_⟩⟩
    have hv' := hv (by omega)
    have em : min 3 (p - b) = p - b := by omega
    refine ⟨⟨(by unfold R32; omega), hlo⟩, fun c3 => bad (Or.inr (Or.inr (Or.inl (by rw [em]; omega)))), fun c3 => ⟨⟨(by unfold R32; omega), hhi⟩, fun c4 => h _ _ Fh.rf hp (fun z => ?_) (fun _ => ⟨by rw [em]; exact hv', rfl⟩), fun c4 => bad (Or.inr (Or.inr (Or.inr (by rw [em]; omega))))⟩⟩
    unfold nmB at z
    rw [em] at z
    omega
  intro j
  induction j with
  | zero =>
    intro S p v hP hp hb hbp hj hv hd' hv9 h
    have h4 := hP.2.2.2.1.1
    unfold VX4_readNumber_14
    refine ⟨hP.1, hP.1, by rw [hp, hP.2.2.2.2]; exact ⟨(by unfold R32; omega), (by unfold R32; omega)⟩, fun _ => out hP hp hb hbp (by omega) hv hv9 h, fun c => absurd c (by rw [hp, hP.2.2.2.2]; omega)⟩
  | succ j ih =>
    intro S p v hP hp hb hbp hj hv hd' hv9 h
    have h4 := hP.2.2.2.1.1
    have t1 := (hP.2.2.2.1.2 p (by omega)).1
    unfold VX4_readNumber_14
    refine ⟨hP.1, hP.1, by rw [hp, hP.2.2.2.2]; exact ⟨(by unfold R32; omega), (by unfold R32; omega)⟩, fun c => absurd c (by rw [hp, hP.2.2.2.2]; omega), fun _ => ⟨hP.1, g+1, hP.2.1, hP.1, hP.2.2.1.1, k_tAt (i := p) (by omega) hP.2.2.1 hP.2.2.2.1 hp (by omega) (oI_i (k_isDigit (by omega) rfl t1 (fun v2 hv2 => oI_i ⟨hv2.r, fun c => ?_, fun c => ⟨⟨(by unfold R32; omega), (by unfold R32; omega)⟩, hP.1, g+1, hP.2.1, hP.1, hP.2.2.1.1, k_tAt (i := p) (by omega) hP.2.2.1 hP.2.2.2.1 hp (by omega) (oI_i ⟨hP.1, hP.1, ?_⟩)⟩⟩)))⟩⟩
    · have e : rn (fun i => decide (48 ≤ tb i ∧ tb i ≤ 57)) (j + 1) p = p := by
        unfold rn
        rw [if_neg]
        rcases hv2 with ⟨rfl, -⟩ | ⟨-, hv2⟩
        · omega
        · simp only [decide_eq_true_eq]; omega
      rw [e] at h
      exact out hP hp hb hbp (by omega) hv hv9 h
    · have hdp : 48 ≤ tb p ∧ tb p ≤ 57 := by rcases hv2 with ⟨-, hv2⟩ | ⟨rfl, -⟩ <;> omega
      have e : rn (fun i => decide (48 ≤ tb i ∧ tb i ≤ 57)) (j + 1) p = rn (fun i => decide (48 ≤ tb i ∧ tb i ≤ 57)) j (p + 1) := by
        show (if _ then _ else _) = _
        rw [if_pos (by simp only [decide_eq_true_eq]; omega)]
      rw [e] at h
      have f1 : Fh g [3, 5] S (S.setI g 3 ((p : Int) + 1)) := Fh.s (by decide)
      have ev : vl tb b (p + 1 - b) = 10 * vl tb b (p - b) + (tb p - 48) := by
        rw [show p + 1 - b = (p - b) + 1 by omega]
        show 10 * vl tb b (p - b) + (tb (b + (p - b)) - 48) = _
        rw [show b + (p - b) = p by omega]
      rw [hp]
      refine ih (p := p + 1) (hP.h f1 (by decide)) (by rw [sI_I, if_pos ⟨rfl, rfl⟩]; rfl) (by rw [sI_I, if_neg (by omega)]; exact hb) (by omega) (by omega) (fun k => ?_) (fun k hk => ?_) (by omega) (fun S' r f2 k1 k2 k3 => h S' r (f1.tr f2) k1 k2 (fun z => ?_))
      · have := hv (by omega)
        have l := hd' (p - b) (Nat.le_refl _)
        have l2 : 10 ^ (p - b) ≤ 10 ^ 2 := Nat.pow_le_pow_right (by decide) (by omega)
        rw [ev]
        omega
      · by_cases c2 : k = p + 1 - b
        · rw [c2, ev]
          have l := hd' (p - b) (Nat.le_refl _)
          rw [show p + 1 - b = (p - b) + 1 by omega, Nat.pow_succ]
          omega
        · exact hd' k (by omega)
      · have := k3 z
        refine ⟨this.1, ?_⟩
        rw [this.2, sI_I, if_neg (by omega)]
/-- a number is read, or a place told -/
theorem k_readNumber {d g len p : Nat} {tb : Nat → Nat} {S : MS} {Q : Out → MS → Prop} {lo hi : Int} (hd : 3 ≤ d) (hP : TG S g tb len) (hp : S.I g 3 = (p : Int)) (hpl : p ≤ len) (hlo : R32 lo) (hhi : R32 hi) (hl : ∀ S' f, pNum tb len lo hi p = .inl f → Fh g [3, 4, 5] S S' → TG S' g tb len → (∃ q, S'.I g 3 = (q : Nat) ∧ q ≤ len) → S'.I g 5 = (f : Nat) → Q (.inl (some (vI (-1)))) S') (hr : ∀ S' v e, pNum tb len lo hi p = .inr (v, e) → Fh g [3, 4, 5] S S' → TG S' g tb len → S'.I g 3 = (e : Nat) → S'.I g 4 = (skb tb len p : Nat) → S'.I g 5 = S.I g 5 → Q (.inl (some (vI (v : Nat)))) S') : Mw hX4_readNumber yX4_readNumber d [vA g, vI lo, vI hi] S Q := by
  have a := skb_le (tb := tb) hpl
  have b := dge_le (tb := tb) a.2
  obtain ⟨dd, rfl⟩ : ∃ e, d = e + 1 := ⟨d - 1, by omega⟩
  refine MX4_readNumber ?_
  unfold VX4_readNumber_0
  refine ⟨hP.1, k_blanks (by omega) hP hp hpl (fun S1 f1 P1 k1 => oV_i ⟨P1.1, P1.1, len - skb tb len p + 1, ?_⟩)⟩
  have f2 : Fh g [3, 4, 5] S1 (S1.setI g 4 (S1.I g 3)) := Fh.s (by decide)
  refine kf_num14 (b := skb tb len p) (by omega) hlo hhi (len - skb tb len p) (p := skb tb len p) (P1.h f2 (by decide)) (by rw [sI_I, if_neg (by omega)]; exact k1) (by rw [sI_I, if_pos ⟨rfl, rfl⟩]; exact k1) (Nat.le_refl _) (by omega) (fun _ => by rw [Nat.sub_self]; rfl) (fun k hk => by rw [Nat.sub_self] at hk; rw [show k = 0 by omega]; show 0 < 1; decide) (by omega) (fun S3 r f3 k3 k4 k5 => ?_)
  have F3 : Fh g [3, 4, 5] S S3 := (f1.wk (by decide)).tr (f2.tr (f3.wk (by decide)))
  have P3 : TG S3 g tb len := hP.h F3 (by decide)
  have e1 : dge tb len (skb tb len p) = rn (fun i => decide (48 ≤ tb i ∧ tb i ≤ 57)) (len - skb tb len p) (skb tb len p) := rfl
  rw [← e1] at k3 k4 k5
  by_cases c : nmB tb lo hi (skb tb len p) (dge tb len (skb tb len p))
  · have k := k4 c
    rw [k.1]
    exact hl S3 (skb tb len p) (by unfold pNum; rw [cD_y c]) F3 P3 ⟨_, k3, b.2⟩ k.2
  · have k := k5 c
    rw [k.1]
    refine hr S3 _ (dge tb len (skb tb len p)) (by unfold pNum; rw [cD_n c]) F3 P3 k3 ?_ ?_
    · rw [f3.2 4 (by decide), sI_I, if_pos ⟨rfl, rfl⟩, k1]
    · rw [k.2, sI_I, if_neg (by omega), f1.2 5 (by decide)]
