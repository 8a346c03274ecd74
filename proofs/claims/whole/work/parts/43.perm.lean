/-! rows as permutations -/
theorem chkC_at {n : Nat} : ∀ {k r x y : Nat}, rowP n r = x → chkC n k r x y = true → rowP n (r + k) = y ∧ ∀ j, j < k → okR n (r + j) (rowP n (r + j)) (Nat.beq (r + j + 1) (fct n)) = true
  | 0, r, x, y, hx, h => ⟨hx.trans (Nat.eq_of_beq_eq_true h), fun j hj => absurd hj (Nat.not_lt_zero j)⟩
  | k + 1, r, x, y, hx, h => by
    unfold chkC at h
    rw [Bool.and_eq_true] at h
    have ih := chkC_at (k := k) (r := r + 1) (x := nxtP n x) (by rw [← hx]; rfl) h.2
    refine ⟨by rw [show r + (k + 1) = r + 1 + k by omega]; exact ih.1, fun j hj => ?_⟩
    cases j with
    | zero => rw [Nat.add_zero, hx]; exact h.1
    | succ j => rw [show r + (j + 1) = r + 1 + j by omega]; exact ih.2 j (by omega)
def OkTo (n k : Nat) : Prop := ∀ r, r < k → okR n r (rowP n r) (Nat.beq (r + 1) (fct n)) = true
theorem okTo_s {n k r x y : Nat} (h : rowP n r = x ∧ OkTo n r) (c : chkC n k r x y = true) : rowP n (r + k) = y ∧ OkTo n (r + k) := by
  obtain ⟨a, b⟩ := chkC_at h.1 c
  refine ⟨a, fun q hq => ?_⟩
  rcases Nat.lt_or_ge q r with g | g
  · exact h.2 q g
  · have := b (q - r) (by omega)
    rw [show r + (q - r) = q by omega] at this
    exact this
theorem okTo_0 {n : Nat} : rowP n 0 = rowP n 0 ∧ OkTo n 0 := ⟨rfl, fun r hr => absurd hr (Nat.not_lt_zero r)⟩
theorem okTo_7 : OkTo 7 5040 := (okTo_s (okTo_s (okTo_s (okTo_s (okTo_s (okTo_s (okTo_s (okTo_s (okTo_s (okTo_s (okTo_s (okTo_s (okTo_s (okTo_s (okTo_s (okTo_s (okTo_s (okTo_s (okTo_s (okTo_s okTo_0 chk7_0) chk7_252) chk7_504) chk7_756) chk7_1008) chk7_1260) chk7_1512) chk7_1764) chk7_2016) chk7_2268) chk7_2520) chk7_2772) chk7_3024) chk7_3276) chk7_3528) chk7_3780) chk7_4032) chk7_4284) chk7_4536) chk7_4788).2
theorem okAll {n r : Nat} (h3 : 3 ≤ n) (h7 : n ≤ 7) (hr : r < fct n) : okR n r (rowP n r) (Nat.beq (r + 1) (fct n)) = true := by
  have h : n = 3 ∨ n = 4 ∨ n = 5 ∨ n = 6 ∨ n = 7 := by omega
  rcases h with rfl | rfl | rfl | rfl | rfl
  · exact (okTo_s okTo_0 chk3).2 r hr
  · exact (okTo_s okTo_0 chk4).2 r hr
  · exact (okTo_s okTo_0 chk5).2 r hr
  · exact (okTo_s okTo_0 chk6).2 r hr
  · exact okTo_7 r hr
def plc (n r t : Nat) : Nat := fnd (rat n r) t n 0
theorem rowOk {n r : Nat} (h3 : 3 ≤ n) (h7 : n ≤ 7) (hr : r < fct n) : (∀ p, p < n → rat n r p < n ∧ plc n r (rat n r p) = p ∧ plc n r p < n ∧ rat n r (plc n r p) = p) ∧ rnk n (rat n r) n = r ∧ (pvt (rat n r) (n - 1) = 0 ↔ r + 1 = fct n) := by
  have h := okAll h3 h7 hr
  unfold okR at h
  rw [Bool.and_eq_true, Bool.and_eq_true] at h
  refine ⟨fun p hp => ?_, Nat.eq_of_beq_eq_true h.2.1, ?_⟩
  · have := allB_iff h.1 p hp
    simp only [Bool.and_eq_true] at this
    exact ⟨Nat.blt_eq.mp this.1, Nat.eq_of_beq_eq_true this.2.1, Nat.blt_eq.mp this.2.2.1, Nat.eq_of_beq_eq_true this.2.2.2⟩
  · have e := h.2.2
    have a1 : Nat.beq (pvt (rat n r) (n - 1)) 0 = Nat.beq (r + 1) (fct n) := eq_of_beq e
    constructor
    · intro q
      rw [q] at a1
      exact Nat.eq_of_beq_eq_true a1.symm
    · intro q
      rw [q] at a1
      have : Nat.beq (fct n) (fct n) = true := Nat.beq_refl _
      rw [this] at a1
      exact Nat.eq_of_beq_eq_true a1
theorem rat_lt {n r p : Nat} (h3 : 3 ≤ n) (h7 : n ≤ 7) (hr : r < fct n) (hp : p < n) : rat n r p < n := ((rowOk h3 h7 hr).1 p hp).1
theorem plc_rat {n r p : Nat} (h3 : 3 ≤ n) (h7 : n ≤ 7) (hr : r < fct n) (hp : p < n) : plc n r (rat n r p) = p := ((rowOk h3 h7 hr).1 p hp).2.1
theorem plc_lt {n r t : Nat} (h3 : 3 ≤ n) (h7 : n ≤ 7) (hr : r < fct n) (ht : t < n) : plc n r t < n := ((rowOk h3 h7 hr).1 t ht).2.2.1
theorem rat_plc {n r t : Nat} (h3 : 3 ≤ n) (h7 : n ≤ 7) (hr : r < fct n) (ht : t < n) : rat n r (plc n r t) = t := ((rowOk h3 h7 hr).1 t ht).2.2.2
theorem rat_inj {n r p q : Nat} (h3 : 3 ≤ n) (h7 : n ≤ 7) (hr : r < fct n) (hp : p < n) (hq : q < n) (e : rat n r p = rat n r q) : p = q := by
  rw [← plc_rat h3 h7 hr hp, ← plc_rat h3 h7 hr hq, e]
theorem fct_le {n : Nat} (h3 : 3 ≤ n) (h7 : n ≤ 7) : fct n ≤ 5040 := by
  have h : n = 3 ∨ n = 4 ∨ n = 5 ∨ n = 6 ∨ n = 7 := by omega
  rcases h with rfl | rfl | rfl | rfl | rfl <;> decide
theorem fct_pos {n : Nat} (h3 : 3 ≤ n) (h7 : n ≤ 7) : 6 ≤ fct n := by
  have h : n = 3 ∨ n = 4 ∨ n = 5 ∨ n = 6 ∨ n = 7 := by omega
  rcases h with rfl | rfl | rfl | rfl | rfl <;> decide
/-! digits of a packed row -/
theorem pck_lt {f : Nat → Nat} : ∀ {n : Nat}, (∀ p, p < n → f p < 8) → pck f n < 8 ^ n
  | 0, _ => by show 0 < 1; decide
  | n + 1, h => by
    have h1 := pck_lt (n := n) (fun p hp => h p (by omega))
    have h2 := h n (by omega)
    unfold pck
    rw [Nat.pow_succ]
    have : f n * 8 ^ n ≤ 7 * 8 ^ n := Nat.mul_le_mul_right _ (by omega)
    omega
theorem dig_pck {f : Nat → Nat} : ∀ {n : Nat}, (∀ p, p < n → f p < 8) → ∀ p, p < n → dig (pck f n) p = f p
  | 0, _, p, hp => absurd hp (Nat.not_lt_zero p)
  | n + 1, h, p, hp => by
    have h1 := pck_lt (n := n) (fun p hp => h p (by omega))
    unfold dig pck
    rcases Nat.lt_or_ge p n with k | k
    · have ih := dig_pck (n := n) (fun p hp => h p (by omega)) p k
      unfold dig at ih
      rw [← ih]
      have e : f n * 8 ^ n = 8 ^ p * (8 * (f n * 8 ^ (n - p - 1))) := by
        rw [show 8 ^ n = 8 ^ p * (8 * 8 ^ (n - p - 1)) by rw [← Nat.pow_succ', ← Nat.pow_add]; congr 1; omega]
        rw [Nat.mul_left_comm, Nat.mul_left_comm (f n)]
      rw [e, Nat.add_mul_div_left _ _ (Nat.pow_pos (by decide)), Nat.add_mul_mod_self_left]
    · rw [show p = n by omega, Nat.add_mul_div_right _ _ (Nat.pow_pos (by decide)), Nat.div_eq_of_lt h1, Nat.zero_add]
      exact Nat.mod_eq_of_lt (h n (by omega))
theorem nxt_lt {n : Nat} {f : Nat → Nat} {b : Nat} (h0 : 0 < n) (h : ∀ p, p < n → f p < b) : ∀ p, p < n → nxt n f p < b := by
  have hl : ∀ v k, lst f v k ≤ k := by
    intro v k
    induction k with
    | zero => exact Nat.le_refl _
    | succ k ih => unfold lst; split <;> omega
  have hv : ∀ k, pvt f k ≤ k := by
    intro k
    induction k with
    | zero => exact Nat.le_refl _
    | succ k ih => unfold pvt; split <;> omega
  intro p hp
  have h1 := hv (n - 1)
  unfold nxt
  split
  · exact h p hp
  · rename_i c
    have h2 := hl (f (pvt f (n - 1) - 1)) (n - 1)
    have hs : ∀ q, q < n → swp f (pvt f (n - 1) - 1) (lst f (f (pvt f (n - 1) - 1)) (n - 1)) q < b := by
      intro q hq
      unfold swp
      split
      · exact h _ (by omega)
      · split
        · exact h _ (by omega)
        · exact h _ hq
    unfold rvs
    split
    · exact hs _ (by omega)
    · exact hs _ hp
theorem rat_8 (n r : Nat) (h0 : 0 < n) (h8 : n ≤ 8) : ∀ p, p < n → rat n r p < 8 := fun p _ => Nat.mod_lt _ (by decide)
theorem rat_0 {n p : Nat} (h8 : n ≤ 8) (h : p < n) : rat n 0 p = p := dig_pck (f := id) (fun p hp => by show p < 8; omega) p h
theorem rat_s {n r p : Nat} (h8 : n ≤ 8) (h : p < n) : rat n (r + 1) p = nxt n (rat n r) p := dig_pck (f := nxt n (dig (rowP n r))) (nxt_lt (by omega) (fun p _ => Nat.mod_lt _ (by decide))) p h
/-! numbers of rows: a permutation is the row of its number -/
def Prm (n : Nat) (f : Nat → Nat) : Prop := (∀ p, p < n → f p < n) ∧ ∀ p q, p < n → q < n → f p = f q → p = q
theorem lsr_split (f : Nat → Nat) (v a i : Nat) : ∀ j, lsr f v a (i + j) = lsr f v a i + lsr f v (a + i) j
  | 0 => rfl
  | j + 1 => by
    show lsr f v a (i + j) + _ = lsr f v a i + (lsr f v (a + i) j + _)
    rw [lsr_split f v a i j, Nat.add_assoc, Nat.add_assoc]
    rfl
theorem lsr_le (f : Nat → Nat) (v a : Nat) : ∀ k, lsr f v a k ≤ k
  | 0 => Nat.le_refl _
  | k + 1 => by
    have := lsr_le f v a k
    unfold lsr
    split <;> omega
theorem lsr_cong {f g : Nat → Nat} {v a : Nat} : ∀ {k : Nat}, (∀ i, i < k → f (a + i) = g (a + i)) → lsr f v a k = lsr g v a k
  | 0, _ => rfl
  | k + 1, h => by
    unfold lsr
    rw [lsr_cong (k := k) (fun i hi => h i (by omega)), h k (by omega)]
def eqc (f : Nat → Nat) (v : Nat) : Nat → Nat
  | 0 => 0
  | k + 1 => eqc f v k + (if f k = v then 1 else 0)
theorem lsr_eqc (f : Nat → Nat) (v : Nat) : ∀ k, lsr f (v + 1) 0 k = lsr f v 0 k + eqc f v k
  | 0 => rfl
  | k + 1 => by
    unfold lsr eqc
    rw [lsr_eqc f v k, Nat.zero_add]
    rcases Nat.lt_trichotomy (f k) v with h | h | h
    · rw [if_pos (by omega), if_pos h, if_neg (by omega)]; omega
    · rw [if_pos (by omega), if_neg (by omega), if_pos h]; omega
    · rw [if_neg (by omega), if_neg (by omega), if_neg (by omega)]; omega
theorem eqc_0 {f : Nat → Nat} {v : Nat} : ∀ {k : Nat}, (∀ q, q < k → f q ≠ v) → eqc f v k = 0
  | 0, _ => rfl
  | k + 1, h => by
    unfold eqc
    rw [eqc_0 (k := k) (fun q hq => h q (by omega)), if_neg (h k (by omega))]
theorem eqc_le {f : Nat → Nat} {v n : Nat} (h : ∀ p q, p < n → q < n → f p = f q → p = q) : ∀ k, k ≤ n → eqc f v k ≤ 1
  | 0, _ => Nat.zero_le _
  | k + 1, hk => by
    unfold eqc
    split
    · rename_i e
      rw [eqc_0 (k := k) (fun q hq e2 => by have := h q k (by omega) (by omega) (e2.trans e.symm); omega)]
      omega
    · have := eqc_le (v := v) h k (by omega)
      omega
theorem lsr_all {f : Nat → Nat} {v : Nat} : ∀ {k : Nat}, (∀ q, q < k → f q < v) → lsr f v 0 k = k
  | 0, _ => rfl
  | k + 1, h => by
    unfold lsr
    rw [lsr_all (k := k) (fun q hq => h q (by omega)), Nat.zero_add, if_pos (h k (by omega))]
theorem lsr_up {f : Nat → Nat} {n : Nat} (h : ∀ p q, p < n → q < n → f p = f q → p = q) (v : Nat) : ∀ j, lsr f (v + j) 0 n ≤ lsr f v 0 n + j
  | 0 => Nat.le_refl _
  | j + 1 => by
    have h1 := lsr_up h v j
    have h2 := lsr_eqc f (v + j) n
    have h3 := eqc_le (v := v + j) h n (Nat.le_refl _)
    rw [show v + (j + 1) = v + j + 1 by omega]
    omega
theorem lsr_0 (f : Nat → Nat) (a : Nat) : ∀ k, lsr f 0 a k = 0
  | 0 => rfl
  | k + 1 => by unfold lsr; rw [lsr_0 f a k, if_neg (Nat.not_lt_zero _)]
theorem lsr_prm {f : Nat → Nat} {n v : Nat} (h : Prm n f) (hv : v ≤ n) : lsr f v 0 n = v := by
  have h1 := lsr_up h.2 0 v
  rw [lsr_0] at h1
  have h2 := lsr_up h.2 v (n - v)
  rw [show v + (n - v) = n by omega, lsr_all h.1] at h2
  rw [Nat.zero_add] at h1
  omega
/-- how many are left that are lesser -/
theorem lsr_left {f : Nat → Nat} {n p : Nat} (h : Prm n f) (hp : p < n) : lsr f (f p) (p + 1) (n - 1 - p) + lsr f (f p) 0 p = f p := by
  have h1 := lsr_prm h (Nat.le_of_lt (h.1 p hp))
  have h2 := lsr_split f (f p) 0 (p + 1) (n - 1 - p)
  rw [show p + 1 + (n - 1 - p) = n by omega, h1, Nat.zero_add] at h2
  have h3 : lsr f (f p) 0 (p + 1) = lsr f (f p) 0 p := by
    show lsr f (f p) 0 p + _ = _
    rw [Nat.zero_add, if_neg (Nat.lt_irrefl _)]
    rfl
  omega
def ffc (n : Nat) : Nat → Nat
  | 0 => 1
  | p + 1 => ffc n p * (n - p)
theorem rnk_lt (n : Nat) (f : Nat → Nat) : ∀ p, p ≤ n → rnk n f p < ffc n p
  | 0, _ => Nat.one_pos
  | p + 1, h => by
    have h1 := rnk_lt n f p (by omega)
    have h2 := lsr_le f (f p) (p + 1) (n - 1 - p)
    show rnk n f p * (n - p) + lsr f (f p) (p + 1) (n - 1 - p) < ffc n p * (n - p)
    have h3 : (rnk n f p + 1) * (n - p) ≤ ffc n p * (n - p) := Nat.mul_le_mul_right _ h1
    rw [Nat.add_mul, Nat.one_mul] at h3
    omega
theorem ffc_n {n : Nat} (h3 : 3 ≤ n) (h7 : n ≤ 7) : ffc n n = fct n := by
  have h : n = 3 ∨ n = 4 ∨ n = 5 ∨ n = 6 ∨ n = 7 := by omega
  rcases h with rfl | rfl | rfl | rfl | rfl <;> decide
theorem mix {a b c d e : Nat} (h1 : b < e) (h2 : d < e) (h : a * e + b = c * e + d) : a = c ∧ b = d := by
  have h3 : (a * e + b) / e = a := by
    rw [Nat.add_comm, Nat.add_mul_div_right _ _ (by omega), Nat.div_eq_of_lt h1, Nat.zero_add]
  have h4 : (c * e + d) / e = c := by
    rw [Nat.add_comm, Nat.add_mul_div_right _ _ (by omega), Nat.div_eq_of_lt h2, Nat.zero_add]
  rw [h, h4] at h3
  subst h3
  exact ⟨rfl, by omega⟩
theorem rnk_digits {n : Nat} {f g : Nat → Nat} : ∀ {p : Nat}, p ≤ n → rnk n f p = rnk n g p → ∀ q, q < p → lsr f (f q) (q + 1) (n - 1 - q) = lsr g (g q) (q + 1) (n - 1 - q)
  | 0, _, _, q, hq => absurd hq (Nat.not_lt_zero q)
  | p + 1, hp, h, q, hq => by
    have h1 := lsr_le f (f p) (p + 1) (n - 1 - p)
    have h2 := lsr_le g (g p) (p + 1) (n - 1 - p)
    obtain ⟨h3, h4⟩ := mix (e := n - p) (by omega) (by omega) (show rnk n f p * (n - p) + lsr f (f p) (p + 1) (n - 1 - p) = rnk n g p * (n - p) + lsr g (g p) (p + 1) (n - 1 - p) from h)
    rcases Nat.lt_or_ge q p with k | k
    · exact rnk_digits (p := p) (by omega) h3 q k
    · rw [show q = p by omega]; exact h4
theorem lsr_mono (f : Nat → Nat) {u v : Nat} (h : u ≤ v) (a : Nat) : ∀ k, lsr f u a k ≤ lsr f v a k
  | 0 => Nat.le_refl _
  | k + 1 => by
    have := lsr_mono f h a k
    unfold lsr
    split <;> split <;> omega
/-- less than so many more below -/
theorem lsr_gap {f : Nat → Nat} {u v p : Nat} (huv : u < v) (hu : ∀ q, q < p → f q ≠ u) (hinj : ∀ a b, a < p → b < p → f a = f b → a = b) : lsr f v 0 p + u < lsr f u 0 p + v := by
  have h1 := lsr_eqc f u p
  rw [eqc_0 hu] at h1
  have h2 := lsr_up hinj (u + 1) (v - (u + 1))
  rw [show u + 1 + (v - (u + 1)) = v by omega] at h2
  omega
theorem rnk_inj {n : Nat} {f g : Nat → Nat} (hf : Prm n f) (hg : Prm n g) (h : rnk n f n = rnk n g n) : ∀ p, p < n → f p = g p := by
  have hd := rnk_digits (Nat.le_refl n) h
  intro p
  induction p using Nat.strongRecOn with
  | _ p ih =>
    intro hp
    have h1 := hd p hp
    have h2 := lsr_left hf hp
    have h3 := lsr_left hg hp
    have e : ∀ v, lsr f v 0 p = lsr g v 0 p := fun v => lsr_cong (fun i hi => by rw [Nat.zero_add]; exact ih i hi (by omega))
    have hif : ∀ a b, a < p → b < p → f a = f b → a = b := fun a b ha hb => hf.2 a b (by omega) (by omega)
    rcases Nat.lt_trichotomy (f p) (g p) with k | k | k
    · have := lsr_gap (f := f) (p := p) k (fun q hq e2 => by have := hf.2 q p (by omega) hp e2; omega) hif
      have e1 := e (g p)
      omega
    · exact k
    · have := lsr_gap (f := f) (p := p) k (fun q hq e2 => by rw [ih q hq (by omega)] at e2; have := hg.2 q p (by omega) hp e2; omega) hif
      have e1 := e (g p)
      omega
theorem rat_prm {n r : Nat} (h3 : 3 ≤ n) (h7 : n ≤ 7) (hr : r < fct n) : Prm n (rat n r) := ⟨fun _ hp => rat_lt h3 h7 hr hp, fun _ _ hp hq e => rat_inj h3 h7 hr hp hq e⟩
/-- the row of a permutation -/
theorem row_of {n : Nat} {f : Nat → Nat} (h3 : 3 ≤ n) (h7 : n ≤ 7) (h : Prm n f) : rnk n f n < fct n ∧ ∀ p, p < n → rat n (rnk n f n) p = f p := by
  have h1 := rnk_lt n f n (Nat.le_refl _)
  rw [ffc_n h3 h7] at h1
  exact ⟨h1, rnk_inj (rat_prm h3 h7 h1) h (rowOk h3 h7 h1).2.1⟩
theorem row_eq {n r s : Nat} (h3 : 3 ≤ n) (h7 : n ≤ 7) (hr : r < fct n) (hs : s < fct n) (h : ∀ p, p < n → rat n r p = rat n s p) : r = s := by
  have e : ∀ p, p ≤ n → rnk n (rat n r) p = rnk n (rat n s) p := by
    intro p
    induction p with
    | zero => intro _; rfl
    | succ p ih =>
      intro hp
      unfold rnk
      rw [ih (by omega), h p (by omega), lsr_cong (g := rat n s) (fun i hi => h _ (by omega))]
  have := e n (Nat.le_refl _)
  rw [(rowOk h3 h7 hr).2.1, (rowOk h3 h7 hs).2.1] at this
  exact this
