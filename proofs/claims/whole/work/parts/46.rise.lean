/-! who rises: the one with so many before it -/
theorem cntB_cong {p q : Nat → Bool} : ∀ {n : Nat}, (∀ k, k < n → p k = q k) → cntB p n = cntB q n
  | 0, _ => rfl
  | n + 1, h => by
    unfold cntB
    rw [cntB_cong (n := n) (fun k hk => h k (by omega)), h n (by omega)]
theorem cntB_le (p : Nat → Bool) : ∀ n, cntB p n ≤ n
  | 0 => Nat.le_refl _
  | n + 1 => by
    have := cntB_le p n
    unfold cntB
    split <;> omega
theorem cntB_split (p : Nat → Bool) (a : Nat) : ∀ b, cntB p (a + b) = cntB p a + cntB (fun k => p (a + k)) b
  | 0 => rfl
  | b + 1 => by
    show cntB p (a + b) + _ = cntB p a + (cntB (fun k => p (a + k)) b + _)
    rw [cntB_split p a b, Nat.add_assoc]
    rfl
theorem cntB_mono (p : Nat → Bool) {a b : Nat} (h : a ≤ b) : cntB p a ≤ cntB p b := by
  obtain ⟨c, rfl⟩ : ∃ c, b = a + c := ⟨b - a, by omega⟩
  rw [cntB_split]
  omega
/-- which of those that count is the j-th -/
theorem cntB_kth {p : Nat → Bool} {j : Nat} : ∀ {n : Nat}, j < cntB p n → ∃ i, i < n ∧ p i = true ∧ cntB p i = j
  | 0, h => absurd h (Nat.not_lt_zero j)
  | n + 1, h => by
    rcases Nat.lt_or_ge j (cntB p n) with k | k
    · obtain ⟨i, h1, h2, h3⟩ := cntB_kth (n := n) k
      exact ⟨i, by omega, h2, h3⟩
    · unfold cntB at h
      split at h
      · rename_i c
        exact ⟨n, by omega, c, by omega⟩
      · omega
theorem cntB_one {p : Nat → Bool} {i j : Nat} (hi : p i = true) (hj : p j = true) (e : cntB p i = cntB p j) : i = j := by
  rcases Nat.lt_trichotomy i j with k | k | k
  · have := cntB_mono p (show i + 1 ≤ j by omega)
    have e2 : cntB p (i + 1) = cntB p i + 1 := by
      show cntB p i + _ = _
      rw [if_pos hi]
    omega
  · exact k
  · have := cntB_mono p (show j + 1 ≤ i by omega)
    have e2 : cntB p (j + 1) = cntB p j + 1 := by
      show cntB p j + _ = _
      rw [if_pos hj]
    omega
def smB (g : Nat → Nat) : Nat → Nat
  | 0 => 0
  | n + 1 => smB g n + g n
theorem smB_cong {f g : Nat → Nat} : ∀ {n : Nat}, (∀ k, k < n → f k = g k) → smB f n = smB g n
  | 0, _ => rfl
  | n + 1, h => by
    unfold smB
    rw [smB_cong (n := n) (fun k hk => h k (by omega)), h n (by omega)]
theorem smB_cnt (p : Nat → Bool) : ∀ n, smB (fun k => if p k then 1 else 0) n = cntB p n
  | 0 => rfl
  | n + 1 => by
    unfold smB cntB
    rw [smB_cnt p n]
theorem smB_add (f g : Nat → Nat) : ∀ n, smB (fun k => f k + g k) n = smB f n + smB g n
  | 0 => rfl
  | n + 1 => by
    unfold smB
    rw [smB_add f g n]
    omega
theorem smB_one (g : Nat → Nat) {v : Nat} : ∀ {n : Nat}, v < n → smB (fun u => if u = v then g u else 0) n = g v
  | 0, h => absurd h (Nat.not_lt_zero v)
  | n + 1, h => by
    unfold smB
    by_cases e : v = n
    · subst e
      rw [if_pos rfl]
      have : smB (fun u => if u = v then g u else 0) v = 0 := by
        have h2 : ∀ m, m ≤ v → smB (fun u => if u = v then g u else 0) m = 0 := by
          intro m
          induction m with
          | zero => intro _; rfl
          | succ m ih => intro hm; unfold smB; rw [ih (by omega), if_neg (by omega)]
        exact h2 v (Nat.le_refl _)
      omega
    · rw [smB_one g (n := n) (by omega), if_neg (by omega)]
      omega
theorem cntB_img {f : Nat → Nat} {q : Nat → Bool} {b : Nat} : ∀ {k : Nat}, (∀ p, p < k → f p < b) → cntB (fun p => q (f p)) k = smB (fun v => if q v then eqc f v k else 0) b
  | 0, _ => by
    have : ∀ b, smB (fun v => if q v then eqc f v 0 else 0) b = 0 := by
      intro b
      induction b with
      | zero => rfl
      | succ b ih => unfold smB; rw [ih]; simp [eqc]
    rw [this]; rfl
  | k + 1, h => by
    show cntB (fun p => q (f p)) k + (if q (f k) then 1 else 0) = _
    rw [cntB_img (k := k) (fun p hp => h p (by omega)), ← smB_one (fun u => if q u then 1 else 0) (h k (by omega)), ← smB_add]
    refine smB_cong (fun v hv => ?_)
    show _ = if q v then eqc f v k + (if f k = v then 1 else 0) else 0
    by_cases e : f k = v
    · rw [if_pos e.symm, if_pos e]
      split <;> omega
    · rw [if_neg (show ¬ v = f k from fun g => e g.symm), if_neg e]
      split <;> rfl
theorem eqc_prm {f : Nat → Nat} {n v : Nat} (h : Prm n f) (hv : v < n) : eqc f v n = 1 := by
  have h1 := lsr_eqc f v n
  rw [lsr_prm h (by omega), lsr_prm h (by omega)] at h1
  omega
/-- a count over the places of a row is one over things -/
theorem cntB_prm {f : Nat → Nat} {n : Nat} (h : Prm n f) (q : Nat → Bool) : cntB (fun p => q (f p)) n = cntB q n := by
  rw [cntB_img h.1, ← smB_cnt]
  refine smB_cong (fun v hv => ?_)
  rw [eqc_prm h hv]
theorem cntB_0 {p : Nat → Bool} : ∀ {n : Nat}, (∀ k, k < n → p k = false) → cntB p n = 0
  | 0, _ => rfl
  | n + 1, h => by
    unfold cntB
    rw [cntB_0 (n := n) (fun k hk => h k (by omega)), if_neg (by rw [h n (by omega)]; decide)]
theorem tb_hi {x n t : Nat} (h : x < 2 ^ n) (ht : n ≤ t) : x.testBit t = false := Nat.testBit_lt_two_pow (Nat.lt_of_lt_of_le h (Nat.pow_le_pow_right (by decide) ht))
theorem pc_n {x n : Nat} (h7 : n ≤ 7) (h : x < 2 ^ n) : pc x = cntB (fun t => x.testBit t) n := by
  unfold pc
  obtain ⟨c, hc⟩ : ∃ c, 7 = n + c := ⟨7 - n, by omega⟩
  rw [hc, cntB_split, cntB_0 (n := c) (fun k _ => tb_hi h (by omega))]
  rfl
def mem (x : Nat) (f : Nat → Nat) : Nat → Bool := fun p => x.testBit (f p)
theorem pc_row {x n r : Nat} (h3 : 3 ≤ n) (h7 : n ≤ 7) (hr : r < fct n) (h : x < 2 ^ n) : cntB (mem x (rat n r)) n = pc x := by
  rw [pc_n h7 h]
  exact cntB_prm (rat_prm h3 h7 hr) (fun t => x.testBit t)
/-- the scan finds the place with so many members before it -/
theorem scn_at {f : Nat → Nat} {x : Nat} : ∀ {j k l : Nat}, l < cntB (fun i => mem x f (k + i)) j → ∃ p, k ≤ p ∧ p < k + j ∧ mem x f p = true ∧ cntB (fun i => mem x f (k + i)) (p - k) = l ∧ scn f x j k l = (f p : Int)
  | 0, k, l, h => absurd h (Nat.not_lt_zero l)
  | j + 1, k, l, h => by
    have e := cntB_split (fun i => mem x f (k + i)) 1 j
    rw [Nat.add_comm 1 j] at e
    have e2 : cntB (fun i => mem x f (k + i)) 1 = if mem x f k then 1 else 0 := by
      show 0 + _ = _
      rw [Nat.zero_add]
      rfl
    have sh : (fun i => mem x f (k + 1 + i)) = (fun i => mem x f (k + (1 + i))) := by
      funext i
      rw [Nat.add_assoc]
    rw [e, e2] at h
    unfold scn
    by_cases c : x.testBit (f k) = true
    · rw [if_pos c]
      have c' : mem x f k = true := c
      rw [if_pos c'] at h
      by_cases l0 : l = 0
      · rw [if_pos l0]
        refine ⟨k, Nat.le_refl _, by omega, c', ?_, rfl⟩
        rw [Nat.sub_self, l0]
        rfl
      · rw [if_neg l0]
        obtain ⟨p, h1, h2, h3, h4, h5⟩ := scn_at (f := f) (x := x) (j := j) (k := k + 1) (l := l - 1) (by rw [sh]; omega)
        refine ⟨p, by omega, by omega, h3, ?_, h5⟩
        rw [show p - k = 1 + (p - (k + 1)) by omega, cntB_split, e2, if_pos c']
        rw [sh] at h4
        omega
    · rw [if_neg c]
      have c' : ¬ mem x f k = true := c
      rw [if_neg c'] at h
      obtain ⟨p, h1, h2, h3, h4, h5⟩ := scn_at (f := f) (x := x) (j := j) (k := k + 1) (l := l) (by rw [sh]; omega)
      refine ⟨p, by omega, by omega, h3, ?_, h5⟩
      rw [show p - k = 1 + (p - (k + 1)) by omega, cntB_split, e2, if_neg c']
      rw [sh] at h4
      omega
/-- who rises, as a thing -/
def rsN (n kn x r : Nat) : Nat := (rs n kn x r).toNat
def bfr (n r x t : Nat) : Nat := cntB (mem x (rat n r)) (plc n r t)
theorem rs_N {n kn x r : Nat} (h3 : 3 ≤ n) (h7 : n ≤ 7) (hr : r < fct n) (hx : x < 2 ^ n) (hp : belK kn < pc x) : rs n kn x r = (rsN n kn x r : Int) ∧ rsN n kn x r < n ∧ x.testBit (rsN n kn x r) = true ∧ bfr n r x (rsN n kn x r) = belK kn := by
  have e : (fun i => mem x (rat n r) (0 + i)) = mem x (rat n r) := by funext i; rw [Nat.zero_add]
  obtain ⟨p, h1, h2, h4, h5, h6⟩ := scn_at (f := rat n r) (x := x) (j := n) (k := 0) (l := belK kn) (by rw [e, pc_row h3 h7 hr hx]; exact hp)
  rw [e, Nat.sub_zero] at h5
  have hpn : p < n := by omega
  have e2 : rsN n kn x r = rat n r p := by
    unfold rsN rs
    rw [h6]
    rfl
  refine ⟨?_, ?_, ?_, ?_⟩
  · rw [e2]; exact h6
  · rw [e2]; exact rat_lt h3 h7 hr hpn
  · rw [e2]; exact h4
  · rw [e2]; unfold bfr; rw [plc_rat h3 h7 hr hpn]; exact h5
theorem rs_iff {n kn x r t : Nat} (h3 : 3 ≤ n) (h7 : n ≤ 7) (hr : r < fct n) (hx : x < 2 ^ n) (hp : belK kn < pc x) (ht : t < n) (hm : x.testBit t = true) : rsN n kn x r = t ↔ bfr n r x t = belK kn := by
  obtain ⟨-, h1, h2, h4⟩ := rs_N h3 h7 hr hx hp
  constructor
  · intro e
    rw [← e]
    exact h4
  · intro e
    have m1 : mem x (rat n r) (plc n r (rsN n kn x r)) = true := by
      unfold mem
      rw [rat_plc h3 h7 hr h1]
      exact h2
    have m2 : mem x (rat n r) (plc n r t) = true := by
      unfold mem
      rw [rat_plc h3 h7 hr ht]
      exact hm
    have := cntB_one m1 m2 (h4.trans e.symm)
    rw [← rat_plc h3 h7 hr h1, this, rat_plc h3 h7 hr ht]
theorem belK_pans {kn : Nat} (hk : kn < 3) : belK kn < pansK kn := by
  have : kn = 0 ∨ kn = 1 ∨ kn = 2 := by omega
  rcases this with rfl | rfl | rfl <;> decide
/-! masks -/
def mskN (p : Nat → Bool) : Nat → Nat
  | 0 => 0
  | k + 1 => mskN p k ||| (if p k then 2 ^ k else 0)
theorem mskN_lt (p : Nat → Bool) : ∀ n, mskN p n < 2 ^ n
  | 0 => by show 0 < 1; decide
  | k + 1 => by
    unfold mskN
    have := mskN_lt p k
    apply Nat.or_lt_two_pow
    · exact Nat.lt_of_lt_of_le this (Nat.pow_le_pow_right (by decide) (by omega))
    · split
      · exact Nat.pow_lt_pow_right (by decide) (by omega)
      · exact Nat.two_pow_pos _
theorem mskN_bit (p : Nat → Bool) : ∀ (n t : Nat), (mskN p n).testBit t = (decide (t < n) && p t)
  | 0, t => by simp [mskN]
  | k + 1, t => by
    unfold mskN
    rw [Nat.testBit_or, mskN_bit p k t]
    by_cases e : t = k
    · subst e
      cases hp : p t <;> simp
    · have h2 : (if p k = true then 2 ^ k else 0).testBit t = false := by
        split
        · rw [Nat.testBit_two_pow]
          simp
          omega
        · exact Nat.zero_testBit t
      rw [h2, Bool.or_false]
      by_cases h : t < k
      · simp [h, show t < k + 1 by omega]
      · simp [h, show ¬ t < k + 1 by omega]
theorem mskN_cong {p q : Nat → Bool} : ∀ {n : Nat}, (∀ k, k < n → p k = q k) → mskN p n = mskN q n
  | 0, _ => rfl
  | n + 1, h => by
    unfold mskN
    rw [mskN_cong (n := n) (fun k hk => h k (by omega)), h n (by omega)]
theorem mskN_or (p : Nat → Bool) {n t : Nat} (h : t < n) : mskN p n ||| 2 ^ t = mskN (fun u => p u || decide (u = t)) n := by
  apply Nat.eq_of_testBit_eq
  intro i
  rw [Nat.testBit_or, mskN_bit, mskN_bit, Nat.testBit_two_pow]
  by_cases e : i = t
  · subst e
    simp [h]
  · have : ¬ t = i := fun k => e k.symm
    simp [e, this]
theorem mskN_no {n : Nat} : mskN (fun _ => false) n = 0 := by
  induction n with
  | zero => rfl
  | succ n ih => unfold mskN; rw [ih]; simp
