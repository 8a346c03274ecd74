/-! bounds and places -/
theorem kf_bound {d p s : Nat} {S : MS} {Q : Out → MS → Prop} (hp2 : 2 ≤ p) (hp : p ≤ 4) (hs : s ≤ 5040) : ∀ (j : Nat) {k X : Nat}, k + j = 20 → (X = bdF p k ∨ (5040 ≤ X ∧ bdF p k = 5040 ∧ X ≤ 20160)) → Q (.inl (some (vI (bdK p s j k : Nat)))) S → VX10_leastBound_4 d Q (j + 1) (s : Nat) (p : Nat) (k : Nat) (X : Nat) S := by
  intro j
  induction j with
  | zero =>
    intro k X hk hX h
    have e := bdF_20 p (by omega) hp2
    rw [show k = 20 by omega] at hX h ⊢
    rw [e] at hX
    unfold VX10_leastBound_4 VX10_leastBound_25
    exact ⟨⟨(by unfold R32; omega), (by unfold R32; omega)⟩, fun _ => h, fun c => by omega⟩
  | succ j ih =>
    intro k X hk hX h
    have b := bdF_le p k
    unfold bdK at h
    unfold VX10_leastBound_4 VX10_leastBound_25
    refine ⟨⟨(by unfold R32; omega), (by unfold R32; omega)⟩, fun c => ?_, fun c => ⟨⟨(by unfold R32; omega), (by unfold R32; omega)⟩, fun c2 => by omega, fun _ => ?_⟩⟩
    · rw [if_pos (by omega)] at h
      exact h
    · rw [if_neg (by omega)] at h
      have e : X = bdF p k := by omega
      have m : X * p ≤ 5040 * 4 := Nat.mul_le_mul (by omega) hp
      rw [← Int.natCast_mul]
      refine ih (k := k + 1) (X := X * p) (by omega) ?_ h
      have e2 : bdF p (k + 1) = min 5040 (bdF p k * p) := rfl
      rw [← e] at e2
      omega
theorem k_leastBound {d p s : Nat} {S : MS} {Q : Out → MS → Prop} {x y : Int} (hd : 1 ≤ d) (hx : x = (s : Int)) (hy : y = (p : Int)) (hp2 : 2 ≤ p) (hp : p ≤ 4) (hs : s ≤ 5040) (h : Q (.inl (some (vI (bdK p s 20 0 : Nat)))) S) : Mw hX10_leastBound yX10_leastBound d [vI x, vI y] S Q := by
  subst hx hy
  obtain ⟨dd, rfl⟩ : ∃ e, d = e + 1 := ⟨d - 1, by omega⟩
  refine MX10_leastBound ?_
  unfold VX10_leastBound_0
  exact ⟨_, kf_bound hp2 hp hs 20 (k := 0) (X := 2) (by omega) (Or.inl rfl) h⟩
theorem bdF_mono {p : Nat} (hp2 : 1 ≤ p) (k : Nat) : bdF p k ≤ bdF p (k + 1) := by
  have b := bdF_le p k
  have : bdF p k * 1 ≤ bdF p k * p := Nat.mul_le_mul_left _ hp2
  show _ ≤ min 5040 (bdF p k * p)
  omega
theorem bdK_iff {p s : Nat} (hp2 : 1 ≤ p) : ∀ (j i k : Nat), i ≤ k → k < i + j → (∀ u, u < i → bdF p u < s) → (bdK p s j i ≤ k ↔ s ≤ bdF p k)
  | 0, i, k, h1, h2, _ => by omega
  | j + 1, i, k, h1, h2, h3 => by
    unfold bdK
    by_cases c : s ≤ bdF p i
    · rw [if_pos c]
      refine ⟨fun _ => ?_, fun _ => h1⟩
      have : ∀ u, bdF p i ≤ bdF p (i + u) := by
        intro u
        induction u with
        | zero => exact Nat.le_refl _
        | succ u ih => exact Nat.le_trans ih (bdF_mono hp2 _)
      have := this (k - i)
      rw [show i + (k - i) = k by omega] at this
      omega
    · rw [if_neg c]
      by_cases e : k = i
      · subst e
        constructor
        · intro z
          have : ∀ j i, i ≤ bdK p s j i := by
            intro j
            induction j with
            | zero => intro i; exact Nat.le_refl _
            | succ j ih =>
              intro i
              unfold bdK
              split
              · exact Nat.le_refl _
              · have := ih (i + 1); omega
          have := this j (k + 1)
          omega
        · intro z; omega
      · exact bdK_iff hp2 j (i + 1) k (by omega) (by omega) (fun u hu => by
          by_cases g : u = i
          · subst g; omega
          · exact h3 u (by omega))
def orB (q : Nat → Bool) : Nat → Bool
  | 0 => false
  | t + 1 => orB q t || q t
def pairB (n x : Nat) (p : Nat) : Bool := Nat.beq x (2 ^ p ||| 2 ^ (n - 1 - p))
theorem plc_chk : ∀ n : Nat, n < 8 → ∀ x : Nat, x < 2 ^ n → ((decide (pc x = 1) || (decide (pc x = 2) && decide ((x : Int) = iOr (iShl 1 (tzF x)) (iShl 1 ((n : Int) - 1 - tzF x))))) == (decide (pc x = 1) || orB (pairB n x) (n / 2))) = true := by decide +kernel
theorem Plc_iff {n t : Nat} {L : List Nat} (h7 : n ≤ 7) (hx : plM n t L < 2 ^ n) : Plc n t L ↔ (pc (plM n t L) = 1 ∨ orB (pairB n (plM n t L)) (n / 2) = true) := by
  have c := plc_chk n (by omega) _ hx
  unfold Plc
  generalize plM n t L = x at *
  have c' := eq_of_beq c
  constructor
  · intro z
    have : (decide (pc x = 1) || (decide (pc x = 2) && decide ((x : Int) = iOr (iShl 1 (tzF x)) (iShl 1 ((n : Int) - 1 - tzF x))))) = true := by
      rcases z with z | ⟨z1, z2⟩
      · rw [decide_eq_true z]; rfl
      · rw [decide_eq_true z1, decide_eq_true z2, Bool.and_true, Bool.or_true]
    rw [c', Bool.or_eq_true] at this
    rcases this with w | w
    · exact Or.inl (of_decide_eq_true w)
    · exact Or.inr w
  · intro z
    have : (decide (pc x = 1) || orB (pairB n x) (n / 2)) = true := by
      rcases z with z | z
      · rw [decide_eq_true z]; rfl
      · rw [z, Bool.or_true]
    rw [← c', Bool.or_eq_true, Bool.and_eq_true] at this
    rcases this with w | ⟨w1, w2⟩
    · exact Or.inl (of_decide_eq_true w)
    · exact Or.inr ⟨of_decide_eq_true w1, of_decide_eq_true w2⟩
theorem plM_lt {n t : Nat} {p : Nat → Bool} (h3 : 3 ≤ n) (h7 : n ≤ 7) (hp : PS n p) (ht : t < n) : plM n t (lsR p 5056) < 2 ^ n := by
  apply Nat.lt_pow_two_of_testBit
  intro i hi
  unfold plM mskL
  rw [mskN_bit]
  cases e : (lsR p 5056).any (fun r => decide (plc n r t = i))
  · rw [Bool.and_false]
  · rw [List.any_eq_true] at e
    obtain ⟨r, r1, r2⟩ := e
    have := plc_lt h3 h7 (hp.m r r1).1 ht
    have := of_decide_eq_true r2
    omega
theorem kf_isPlaced {d b n lo hi li x : Nat} {S : MS} {Q : Out → MS → Prop} {P : Prop} (h3 : 3 ≤ n) (h7 : n ≤ 7) (hA : AR S b n lo hi li) (hx : x < 2 ^ n) (h : ∀ q, BI q (P ∨ orB (pairB n x) (n / 2) = true) → Q (.inl (some (vI q))) S) : ∀ (j : Nat) {k : Nat} {v : Int}, k + j = n / 2 → BI v (P ∨ orB (pairB n x) k = true) → VX0_isPlaced_25 d Q (j + 1) b (x : Nat) v (k : Nat) S := by
  have p7 := p2_7 h7
  obtain ⟨⟨a1, -, a3, -⟩, -⟩ := hA
  intro j
  induction j with
  | zero =>
    intro k v hk hv
    rw [show k = n / 2 by omega] at hv ⊢
    unfold VX0_isPlaced_25
    rw [a3, show (2 : Int) = ((2 : Nat) : Int) from rfl, iDiv_n (by omega) (by omega)]
    exact ⟨a1, ⟨(by unfold R32; omega), by omega⟩, ⟨(by unfold R32; omega), (by unfold R32; omega)⟩, fun _ => ⟨hv.b, h v hv⟩, fun c => by omega⟩
  | succ j ih =>
    intro k v hk hv
    have q1 : 2 ^ k < 2 ^ n := Nat.pow_lt_pow_right (by decide) (by omega)
    have q2 : 2 ^ (n - 1 - k) < 2 ^ n := Nat.pow_lt_pow_right (by decide) (by omega)
    have o := Nat.or_lt_two_pow q1 q2
    have es : orB (pairB n x) (k + 1) = (orB (pairB n x) k || pairB n x k) := rfl
    have ih' := fun v => ih (k := k + 1) (v := v) (by omega)
    rw [es] at ih'
    unfold VX0_isPlaced_25 VX0_isPlaced_61 VX0_isPlaced_66
    rw [a3, show (2 : Int) = ((2 : Nat) : Int) from rfl, iDiv_n (by omega) (by omega), show (n : Int) - 1 - (k : Int) = ((n - 1 - k : Nat) : Int) by omega, i1_shl (by omega), i1_shl (by omega), iOr_n (by omega) (by omega)]
    refine ⟨a1, ⟨(by unfold R32; omega), by omega⟩, ⟨(by unfold R32; omega), (by unfold R32; omega)⟩, fun c => by omega, fun _ => ⟨hv.r, fun c => ih' 1 (.y ?_), fun c => ⟨a1, ⟨(by unfold R32; omega), (by unfold R32; omega)⟩, fun c2 => ih' 0 (.n ?_), fun c2 => ih' 1 (.y ?_)⟩⟩⟩
    · rcases hv with ⟨-, z⟩ | ⟨rfl, -⟩
      · rcases z with z | z
        · exact Or.inl z
        · exact Or.inr (by rw [z]; rfl)
      · exact absurd rfl c
    · have nz : ¬ (P ∨ orB (pairB n x) k = true) := by
        rcases hv with ⟨rfl, -⟩ | ⟨-, z⟩
        · exact absurd c (by decide)
        · exact z
      rintro (z | z)
      · exact nz (Or.inl z)
      · rw [Bool.or_eq_true] at z
        rcases z with z | z
        · exact nz (Or.inr z)
        · exact c2 (by rw [Nat.eq_of_beq_eq_true z])
    · refine Or.inr ?_
      have : pairB n x k = true := by
        unfold pairB
        rw [show x = 2 ^ k ||| 2 ^ (n - 1 - k) by omega]
        exact Nat.beq_refl _
      rw [this, Bool.or_true]
theorem k_isPlaced {d b n lo hi li a t : Nat} {p : Nat → Bool} {S : MS} {Q : Out → MS → Prop} {x : Int} (hd : 4 ≤ d) (h3 : 3 ≤ n) (h7 : n ≤ 7) (hA : AR S b n lo hi li) (hR : RS_ S a p) (hp : PS n p) (hx : x = (t : Int)) (ht : t < n) (h : ∀ q, BI q (Plc n t (lsR p 5056)) → Q (.inl (some (vI q))) S) : Mw hX0_isPlaced yX0_isPlaced d [vA b, vA a, vI x] S Q := by
  subst hx
  have p7 := p2_7 h7
  have lt := plM_lt h3 h7 hp ht
  rw [Plc_iff h7 lt] at h
  have a1 := hA.1.1
  have pl := pc_le (plM n t (lsR p 5056))
  obtain ⟨dd, rfl⟩ : ∃ e, d = e + 1 := ⟨d - 1, by omega⟩
  refine MX0_isPlaced ?_
  unfold VX0_isPlaced_0
  unfold VX0_isPlaced_20
  refine ⟨a1, k_placesOf (by omega) h3 h7 hA hR hp rfl ht (oI_i (c_bitCount (by omega) rfl (by omega) (oI_i ⟨⟨(by unfold R32; omega), (by unfold R32; omega)⟩, fun c => ⟨_, kf_isPlaced h3 h7 hA lt h (n / 2) (k := 0) (by omega) (.n ?_)⟩, fun c => ⟨_, kf_isPlaced h3 h7 hA lt h (n / 2) (k := 0) (by omega) (.y (Or.inl (by omega)))⟩⟩)))⟩
  rintro (z | z)
  · exact c (by omega)
  · exact Bool.noConfusion (show false = true from z)
