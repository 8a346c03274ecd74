/-! all rows are filled: where things stand -/
theorem mul_inj {n t q t' q' : Nat} (h : q < n) (h' : q' < n) (e : t * n + q = t' * n + q') : t = t' ∧ q = q' := by
  have e1 : (t * n + q) / n = t := by rw [Nat.mul_comm, Nat.mul_add_div (by omega), Nat.div_eq_of_lt h, Nat.add_zero]
  have e2 : (t' * n + q') / n = t' := by rw [Nat.mul_comm, Nat.mul_add_div (by omega), Nat.div_eq_of_lt h', Nat.add_zero]
  have : t = t' := by rw [← e1, e, e2]
  subst this
  exact ⟨rfl, by omega⟩
theorem mul_lt {n t q m : Nat} (h : q < n) (ht : t < m) : t * n + q < m * n := by
  have := Nat.mul_le_mul_right n (show t + 1 ≤ m from ht)
  rw [Nat.add_mul, Nat.one_mul] at this
  omega
theorem wdv_k {k : Nat} (hk : k < 2147483648) : lShl 1#64 (iAnd (k : Int) 63) = wdv (fun r => decide (r = k)) (k / 64) := by
  have e2 : iAnd (k : Int) 63 = ((k % 64 : Nat) : Int) := by
    have := iAnd_n (a := k) (b := 63) (by omega) (by decide)
    rw [show (63 : Nat) = 2 ^ 6 - 1 by decide, Nat.and_two_pow_sub_one_eq_mod] at this
    exact this
  rw [e2, lShl_n _ (by omega)]
  apply BitVec.eq_of_getLsbD_eq
  intro i hi
  rw [wdv_bit, BitVec.getLsbD_shiftLeft]
  by_cases c : i = k % 64
  · rw [decide_eq_true (show 64 * (k / 64) + i = k by omega), c, Nat.sub_self]
    simp
  · rw [decide_eq_false (show ¬ 64 * (k / 64) + i = k by omega)]
    by_cases g : i < k % 64
    · simp [g]
    · have : (1#64).getLsbD (i - k % 64) = false := by
        show Nat.testBit 1 (i - k % 64) = false
        exact Nat.testBit_lt_two_pow (Nat.one_lt_two_pow (by omega))
      rw [this]
      simp
theorem wdv_ot {k w : Nat} {q : Nat → Bool} (h : w ≠ k / 64) : wdv (fun r => q r || decide (r = k)) w = wdv q w := wdv_eq (fun b hb => by
  rw [decide_eq_false (show ¬ 64 * w + b = k by omega), Bool.or_false])
theorem LA.put {e W k : Nat} {q : Nat → Bool} {S : MS} (h : LA S e W q) (hk : k < 64 * W) (h31 : k < 2147483648) : LA (S.setJ e (k / 64) (S.J e (k / 64) ||| lShl 1#64 (iAnd (k : Int) 63))) e W (fun r => q r || decide (r = k)) := by
  refine ⟨h.1, h.2.1, fun w hw => ?_⟩
  rw [sJ_J]
  by_cases c : w = k / 64
  · rw [if_pos ⟨rfl, c⟩, c, h.2.2 _ (by omega), wdv_k h31, wdv_or]
  · rw [if_neg (fun z => c z.2), wdv_ot c]
    exact h.2.2 w hw
theorem LA.cong {e W : Nat} {p q : Nat → Bool} {S : MS} (h : LA S e W p) (hpq : ∀ r, p r = q r) : LA S e W q := by
  rw [← (funext hpq : p = q)]
  exact h
def cl (n k : Nat) : Nat := (cmb n n (pansK k)).length
def yk (n b : Nat) : Nat → Nat
  | 0 => b + 7 + 2 * (n * n)
  | k + 1 => yk n b k + 5 + cl n k * pansK k
/-- how a laying's cells lie -/
def LYL (S : MS) (y n k : Nat) : Prop := S.K y = 2 ∧ (S.R y 1 = some (y+1) ∧ S.K (y+1) = 13 ∧ S.N (y+1) = cl n k) ∧ (S.R y 6 = some (y+2) ∧ S.K (y+2) = 13 ∧ S.N (y+2) = 2 ^ n) ∧ (S.R y 7 = some (y+3) ∧ S.K (y+3) = 20 ∧ S.N (y+3) = cl n k * pansK k) ∧ (∀ i, i < cl n k * pansK k → S.R (y+3) i = some (y+4+i) ∧ S.K (y+4+i) = 14 ∧ S.N (y+4+i) = Wn n) ∧ (S.R y 8 = some (y+4+cl n k * pansK k) ∧ S.K (y+4+cl n k * pansK k) = 14 ∧ S.N (y+4+cl n k * pansK k) = Wn n)
def LYI (S : MS) (y n k : Nat) : Prop := S.I y 0 = (pansK k : Nat) ∧ S.I y 4 = (k : Int) ∧ S.I y 5 = (n : Int)
/-- how the cells of all rows lie -/
def ALL (S : MS) (b n : Nat) : Prop := S.K b = 0 ∧ (S.R b 3 = some (b+2) ∧ S.K (b+2) = 14 ∧ S.N (b+2) = Wn n) ∧ (S.R b 4 = some (b+3) ∧ S.K (b+3) = 13 ∧ S.N (b+3) = fct n) ∧ (S.R b 5 = some (b+4) ∧ S.K (b+4) = 13 ∧ S.N (b+4) = fct n) ∧ (S.R b 6 = some (b+5) ∧ S.K (b+5) = 20 ∧ S.N (b+5) = n * n) ∧ (∀ i, i < n * n → S.R (b+5) i = some (b+6+i) ∧ S.K (b+6+i) = 14 ∧ S.N (b+6+i) = Wn n) ∧ (S.R b 7 = some (b+6+n*n) ∧ S.K (b+6+n*n) = 20 ∧ S.N (b+6+n*n) = n * n) ∧ (∀ i, i < n * n → S.R (b+6+n*n) i = some (b+7+n*n+i) ∧ S.K (b+7+n*n+i) = 14 ∧ S.N (b+7+n*n+i) = Wn n) ∧ (S.R b 8 = some (b+1) ∧ S.K (b+1) = 18 ∧ S.N (b+1) = 3) ∧ ∀ k, k < 3 → S.R (b+1) k = some (yk n b k) ∧ LYL S (yk n b k) n k
def ALI (S : MS) (b n : Nat) : Prop := (S.I b 0 = (n : Int) ∧ S.I b 1 = (fct n : Int) ∧ S.I b 2 = (Wn n : Int)) ∧ ∀ k, k < 3 → LYI S (yk n b k) n k
theorem yk_ge {n b : Nat} : ∀ k, b + 7 + 2 * (n * n) ≤ yk n b k
  | 0 => Nat.le_refl _
  | k + 1 => by
    have := yk_ge (n := n) (b := b) k
    show _ ≤ yk n b k + 5 + _
    omega
theorem Fi.all {lo hi b n : Nat} {S S1 : MS} (f : Fi lo hi S S1) (h : ALL S b n) : ALL S1 b n := by
  unfold ALL LYL
  rw [f.1, f.2.1, f.2.2.1]
  exact h
theorem Fi.ali {lo hi b n : Nat} {S S1 : MS} (f : Fi lo hi S S1) (hb : b < lo) (hh : hi ≤ b + 7 + 2 * (n * n)) (h : ALI S b n) : ALI S1 b n := by
  refine ⟨by rw [f.I (by omega)]; exact h.1, fun k hk => ?_⟩
  have g := yk_ge (n := n) (b := b) k
  have := h.2 k hk
  unfold LYI at this ⊢
  rw [f.I (by omega)]
  exact this
/-- the rows below m stand there -/
def CT (S : MS) (b n m : Nat) : Prop := (∀ t, t < n → ∀ q, q < n → LA S (b+6+(t*n+q)) (Wn n) (fun r => decide (r < m) && decide (plc n r t = q))) ∧ (∀ r, r < m → S.I (b+3) r = (rowP n r : Nat)) ∧ LA S (b+2) (Wn n) (fun r => decide (r < m))
def sqp (n k p t q : Nat) : Nat → Bool := fun r => (decide (r < k) && decide (plc n r t = q)) || (decide (r = k) && (decide (q < p) && decide (plc n r t = q)))
theorem kf_put13 {d b c n k : Nat} {Q : Out → MS → Prop} (h3 : 3 ≤ n) (h7 : n ≤ 7) (hk : k < fct n) (hc : b + 7 + 2 * (n * n) ≤ c) : ∀ (j : Nat) {S : MS} {p : Nat}, p + j = n → ALL S b n → ALI S b n → Lk S c n (rat n k) → (∀ t, t < n → ∀ q, q < n → LA S (b+6+(t*n+q)) (Wn n) (sqp n k p t q)) → (∀ r, r < k → S.I (b+3) r = (rowP n r : Nat)) → LA S (b+2) (Wn n) (fun r => decide (r < k)) → (∀ S', Fi (b+2) (b+6+n*n) S S' → CT S' b n (k + 1) → Q (.inl none) S') → VX0_put_13 d Q (j + 1) b (k : Nat) c (lShl 1#64 (iAnd (k : Int) 63)) (pck (fun q => if q < p then rat n k q else 0) n : Nat) (p : Nat) S := by
  have hf := fct_le h3 h7
  have hW := Wn_le h3 h7
  have e6 : iShr (k : Int) 6 = ((k / 64 : Nat) : Int) := iShr_n (k := 6) (by omega) (by decide)
  intro j
  induction j with
  | zero =>
    intro S p hp hA hI hL hT hR hWh h
    have pn : p = n := by omega
    subst pn
    obtain ⟨a1, a3, a4, -⟩ := hA
    have f1 : Fi (b+2) (b+6+p*p) S (S.setI (b+3) k (rowP p k : Nat)) := Fi.sI (by omega)
    unfold VX0_put_13
    rw [hI.1.1, e6, Int.toNat_natCast, Int.toNat_natCast, pck_cong (f := fun q => if q < p then rat p k q else 0) (g := rat p k) (fun q hq => if_pos hq), ← rowP_pck p k (by omega)]
    refine ⟨a1, ⟨(by unfold R32; omega), (by unfold R32; omega)⟩, fun _ => ⟨a1, b+3, a4.1, ⟨a4.2.1, by omega, by rw [a4.2.2]; omega⟩, a1, b+2, a3.1, ⟨a3.2.1, by omega, by show ((k / 64 : Nat) : Int) < S.N (b+2); rw [a3.2.2]; omega⟩, ⟨a3.2.1, by omega, by show ((k / 64 : Nat) : Int) < S.N (b+2); rw [a3.2.2]; omega⟩, fun S3 e3 => ?_⟩, fun c => by omega⟩
    have L1 : LA (S.setI (b+3) k (rowP p k : Nat)) (b+2) (Wn p) (fun r => decide (r < k)) := hWh
    have L2 := L1.put (k := k) (by omega) (by omega)
    have f2 : Fi (b+2) (b+3) (S.setI (b+3) k (rowP p k : Nat)) S3 := by rw [e3]; exact Fi.sJ (by omega)
    refine h S3 (f1.tr (f2.wk (by omega) (by omega))) ⟨fun t ht q hq => ?_, fun r hr => ?_, ?_⟩
    · have f12 : Fi (b+2) (b+4) S S3 := (Fi.sI (by omega) : Fi (b+2) (b+4) S (S.setI (b+3) k (rowP p k : Nat))).tr (f2.wk (by omega) (by omega))
      refine (f12.la (by omega) (hT t ht q hq)).cong (fun r => ?_)
      unfold sqp
      rw [decide_eq_true hq, Bool.true_and]
      by_cases c1 : r < k
      · rw [decide_eq_true c1, decide_eq_true (show r < k + 1 by omega), decide_eq_false (show ¬ r = k by omega)]; simp
      · rw [decide_eq_false c1]
        by_cases c2 : r = k
        · rw [decide_eq_true c2, decide_eq_true (show r < k + 1 by omega)]; simp
        · rw [decide_eq_false c2, decide_eq_false (show ¬ r < k + 1 by omega)]; simp
    · rw [f2.I (by omega), sI_I]
      by_cases c : r = k
      · rw [if_pos ⟨rfl, c⟩, c]
      · rw [if_neg (fun z => c z.2)]
        exact hR r (by omega)
    · rw [e3]
      refine L2.cong (fun r => ?_)
      by_cases c2 : r = k
      · rw [c2]; simp
      · rw [decide_eq_false c2, Bool.or_false]
        exact decide_eq_decide.mpr (by omega)
  | succ j ih =>
    intro S p hp hA hI hL hT hR hWh h
    have hp' : p < n := by omega
    have rl := rat_lt h3 h7 hk hp'
    have pr := plc_rat h3 h7 hk hp'
    have ml := mul_lt hp' rl
    have hA' := hA
    obtain ⟨a1, a3, a4, a5, a6, a6i, -⟩ := hA
    obtain ⟨i1, i2, i3⟩ := a6i _ ml
    unfold VX0_put_13
    simp only [hI.1.1, e6, Int.toNat_natCast, hL.2.2 p hp']
    rw [show ((rat n k p : Nat) : Int) * (n : Int) + (p : Int) = ((rat n k p * n + p : Nat) : Int) by push_cast; rfl, Int.toNat_natCast]
    refine ⟨a1, ⟨(by unfold R32; omega), (by unfold R32; omega)⟩, fun c => by omega, fun _ => ⟨⟨hL.1, by omega, by rw [hL.2.1]; omega⟩, a1, b+5, a6.1, ⟨hL.1, by omega, by rw [hL.2.1]; omega⟩, a1, ⟨a6.2.1, by omega, by omega, by rw [a6.2.2]; omega⟩, _, i1, ⟨i2, by omega, by rw [i3]; omega⟩, ⟨i2, by omega, by rw [i3]; omega⟩, ?_⟩⟩
    rw [pck_put h7 (fun q hq => by show (if q < p then rat n k q else 0) < 8; split; exact rat_8 n k (by omega) (by omega) q hq; omega) (by omega) hp' (if_neg (by omega))]
    have L0 := hT _ rl p hp'
    have L1 := L0.put (k := k) (by omega) (by omega)
    have f1 : ∀ {v : BitVec 64}, Fi (b+6+(rat n k p*n+p)) (b+6+(rat n k p*n+p)+1) S (S.setJ (b+6+(rat n k p*n+p)) (k / 64) v) := Fi.sJ (by omega)
    have f1' : ∀ {v : BitVec 64}, Fi (b+2) (b+6+n*n) S (S.setJ (b+6+(rat n k p*n+p)) (k / 64) v) := Fi.sJ (by omega)
    have := ih (S := S.setJ (b+6+(rat n k p*n+p)) (k / 64) (S.J (b+6+(rat n k p*n+p)) (k / 64) ||| lShl 1#64 (iAnd (k : Int) 63))) (p := p + 1) (by omega) (f1.all hA') (f1'.ali (by omega) (by omega) hI) ⟨hL.1, hL.2.1, fun q hq => hL.2.2 q hq⟩ (fun t ht q hq => ?_) (fun r hr => hR r hr) (f1.la (by omega) hWh) (fun S' f2 => h S' (f1'.tr f2))
    · rw [pck_cong (g := fun q => if q = p then rat n k p else if q < p then rat n k q else 0) (fun q hq => ?_)] at this
      · exact this
      · by_cases c : q = p
        · rw [if_pos c, c, if_pos (by omega)]
        · rw [if_neg c]
          by_cases g : q < p
          · rw [if_pos g, if_pos (by omega)]
          · rw [if_neg g, if_neg (by omega)]
    · by_cases c : t = rat n k p ∧ q = p
      · obtain ⟨c1, c2⟩ := c
        subst c1 c2
        refine L1.cong (fun r => ?_)
        unfold sqp
        by_cases c2 : r = k
        · rw [c2, pr]; simp
        · rw [decide_eq_false c2]; simp
      · have ne : t * n + q ≠ rat n k p * n + p := fun e => c (mul_inj hq hp' e)
        refine (f1.la (by omega) (hT t ht q hq)).cong (fun r => ?_)
        unfold sqp
        congr 1
        by_cases c2 : r = k
        · rw [c2]
          congr 1
          by_cases c3 : plc n k t = q
          · have : q ≠ p := fun e => c ⟨by rw [← e, ← c3, rat_plc h3 h7 hk ht], e⟩
            congr 1
            exact decide_eq_decide.mpr (by omega)
          · rw [decide_eq_false c3, Bool.and_false, Bool.and_false]
        · rw [decide_eq_false c2, Bool.false_and, Bool.false_and]
theorem k_putRow {d b c n k : Nat} {S : MS} {Q : Out → MS → Prop} {x : Int} (hd : 1 ≤ d) (h3 : 3 ≤ n) (h7 : n ≤ 7) (hk : k < fct n) (hc : b + 7 + 2 * (n * n) ≤ c) (ex : x = (k : Int)) (hA : ALL S b n) (hI : ALI S b n) (hL : Lk S c n (rat n k)) (hT : CT S b n k) (h : ∀ S', Fi (b+2) (b+6+n*n) S S' → CT S' b n (k + 1) → Q (.inl none) S') : Mw hX0_put yX0_put d [vA b, vI x, vA c] S Q := by
  subst ex
  obtain ⟨dd, rfl⟩ : ∃ e, d = e + 1 := ⟨d - 1, by omega⟩
  refine MX0_put ?_
  unfold VX0_put_0
  have := kf_put13 (d := dd) (Q := Q) h3 h7 hk hc n (p := 0) (by omega) hA hI hL (fun t ht q hq => (hT.1 t ht q hq).cong (fun r => by unfold sqp; simp)) hT.2.1 hT.2.2 h
  rw [pck_cong (f := fun q => if q < 0 then rat n k q else 0) (g := fun _ => 0) (fun q hq => if_neg (by omega)), pck_0] at this
  exact ⟨_, this⟩
/-! who is heavier -/
def hp_ (n a b' p : Nat) : Nat → Bool := inR n fun r => decide (plc n r a < p) && decide (plc n r b' < plc n r a)
theorem kf_fh32 {d b n s t v : Nat} {Q : Out → MS → Prop} {c17 : Nat → Int → Int → Nat → Int → MS → Prop} (h3 : 3 ≤ n) (h7 : n ≤ 7) (hs : s < n) (ht : t < n) (hvv : v < Wn n) : ∀ (j : Nat) {S : MS} {p : Nat}, p + j = n → ALL S b n → ALI S b n → CT S b n (fct n) → S.J (b+7+n*n+(s*n+t)) v = wdv (hp_ n s t p) v → (∀ S', Fi (b+7+n*n+(s*n+t)) (b+7+n*n+(s*n+t)+1) S S' → (∀ u, u ≠ v → S'.J (b+7+n*n+(s*n+t)) u = S.J (b+7+n*n+(s*n+t)) u) → S'.J (b+7+n*n+(s*n+t)) v = wdv (inR n (hv n s t)) v → c17 b (s : Nat) (t : Nat) (b+7+n*n+(s*n+t)) ((v : Int) + 1) S') → VX0_fillHeavier_32 d c17 Q (j + 1) b (s : Nat) (t : Nat) (b+7+n*n+(s*n+t)) (v : Nat) (wdv (inR n fun r => decide (plc n r t < p)) v) (p : Nat) S := by
  have hW := Wn_le h3 h7
  have mst := mul_lt ht hs
  intro j
  induction j with
  | zero =>
    intro S p hp hA hI hT hJ h
    unfold VX0_fillHeavier_32
    rw [hI.1.1]
    refine ⟨hA.1, ⟨(by unfold R32; omega), (by unfold R32; omega)⟩, fun _ => h S Fi.rf (fun _ _ => rfl) ?_, fun c => by omega⟩
    rw [hJ]
    refine wdv_eq (fun b _ => ?_)
    unfold hp_ inR hv
    dsimp only
    by_cases c : 64 * v + b < fct n
    · have := plc_lt h3 h7 c hs
      rw [decide_eq_true (show plc n (64 * v + b) s < p by omega), Bool.true_and]
    · rw [decide_eq_false c, Bool.false_and, Bool.false_and]
  | succ j ih =>
    intro S p hp hA hI hT hJ h
    have hp' : p < n := by omega
    have m1 := mul_lt hp' hs
    have m2 := mul_lt hp' ht
    have hA' := hA
    obtain ⟨a1, a3, a4, a5, a6, a6i, a7, a7i, -⟩ := hA
    obtain ⟨i1, i2, i3⟩ := a6i _ m1
    obtain ⟨j1, j2, j3⟩ := a6i _ m2
    obtain ⟨k1, k2, k3⟩ := a7i _ mst
    have f1 : ∀ {z : BitVec 64}, Fi (b+7+n*n+(s*n+t)) (b+7+n*n+(s*n+t)+1) S (S.setJ (b+7+n*n+(s*n+t)) v z) := Fi.sJ (by omega)
    unfold VX0_fillHeavier_32
    have eN : ∀ z, (S.setJ (b+7+n*n+(s*n+t)) v z).I b 0 = (n : Int) := fun z => hI.1.1
    have eN' : S.I b 0 = (n : Int) := hI.1.1
    simp only [sJ_I, eN']
    rw [Int.toNat_natCast, show ((s : Nat) : Int) * (n : Int) + (p : Int) = ((s * n + p : Nat) : Int) by push_cast; rfl, Int.toNat_natCast, show ((t : Nat) : Int) * (n : Int) + (p : Int) = ((t * n + p : Nat) : Int) by push_cast; rfl, Int.toNat_natCast]
    refine ⟨a1, ⟨(by unfold R32; omega), (by unfold R32; omega)⟩, fun c => by omega, fun _ => ⟨⟨k2, by omega, by rw [k3]; omega⟩, a1, b+5, a6.1, a1, ⟨a6.2.1, by omega, by omega, by rw [a6.2.2]; omega⟩, _, i1, ⟨i2, by omega, by rw [i3]; omega⟩, ⟨k2, by omega, by rw [k3]; omega⟩, a1, b+5, a6.1, a1, ⟨a6.2.1, by omega, by omega, by show ((t * n + p : Nat) : Int) < S.N (b+5); rw [a6.2.2]; omega⟩, _, j1, ⟨j2, by omega, by show (v : Int) < S.N (b+6+(t*n+p)); rw [j3]; omega⟩, ?_⟩⟩
    rw [sJ_Ja (by omega), (hT.1 t ht p hp').2.2 v hvv, (hT.1 s hs p hp').2.2 v hvv, hJ, wdv_and, wdv_or, wdv_or]
    have := ih (S := S.setJ (b+7+n*n+(s*n+t)) v (wdv (fun r => hp_ n s t p r || (decide (r < fct n) && decide (plc n r s = p) && inR n (fun r => decide (plc n r t < p)) r)) v)) (p := p + 1) (by omega) (f1.all hA') (f1.ali (by omega) (by omega) hI) ⟨fun t' ht' q hq => by have := mul_lt hq ht'; exact f1.la (by omega) (hT.1 t' ht' q hq), hT.2.1, f1.la (by omega) hT.2.2⟩ (by
      rw [sJ_J, if_pos ⟨rfl, rfl⟩]
      refine wdv_eq (fun b _ => ?_)
      unfold hp_ inR
      dsimp only
      by_cases c : 64 * v + b < fct n
      · rw [decide_eq_true c, Bool.true_and, Bool.true_and, Bool.true_and, Bool.true_and]
        by_cases c1 : plc n (64 * v + b) s < p
        · rw [decide_eq_true c1, decide_eq_true (show plc n (64 * v + b) s < p + 1 by omega), decide_eq_false (show ¬ plc n (64 * v + b) s = p by omega)]; simp
        · rw [decide_eq_false c1]
          by_cases c2 : plc n (64 * v + b) s = p
          · rw [c2, decide_eq_true (show p < p + 1 by omega)]; simp
          · rw [decide_eq_false c2, decide_eq_false (show ¬ plc n (64 * v + b) s < p + 1 by omega)]; simp
      · rw [decide_eq_false c]; simp) (fun S' f2 g2 g3 => h S' (f1.tr f2) (fun u hu => by rw [g2 u hu, sJ_J, if_neg (fun z => hu z.2)]) g3)
    rw [wdv_eq (p := inR n fun r => decide (plc n r t < p + 1)) (q := fun r => inR n (fun r => decide (plc n r t < p)) r || (decide (r < fct n) && decide (plc n r t = p))) (w := v) (fun b _ => ?_)] at this
    · exact this
    · unfold inR
      by_cases c : 64 * v + b < fct n
      · rw [decide_eq_true c, Bool.true_and, Bool.true_and, Bool.true_and, Bool.eq_iff_iff]
        simp
        omega
      · rw [decide_eq_false c]; simp
theorem kf_fh17 {d b n s t : Nat} {Q : Out → MS → Prop} (h3 : 3 ≤ n) (h7 : n ≤ 7) (hs : s < n) (ht : t < n) : ∀ (j : Nat) {S : MS} {v : Nat}, v + j = Wn n → ALL S b n → ALI S b n → CT S b n (fct n) → (∀ u, u < Wn n → S.J (b+7+n*n+(s*n+t)) u = if u < v then wdv (inR n (hv n s t)) u else 0#64) → (∀ S', Fi (b+7+n*n+(s*n+t)) (b+7+n*n+(s*n+t)+1) S S' → LA S' (b+7+n*n+(s*n+t)) (Wn n) (inR n (hv n s t)) → Q (.inl none) S') → VX0_fillHeavier_17 d Q (j + 1) b (s : Nat) (t : Nat) (b+7+n*n+(s*n+t)) (v : Nat) S := by
  have hW := Wn_le h3 h7
  have mst := mul_lt ht hs
  intro j
  induction j with
  | zero =>
    intro S v hvv hA hI hT hJ h
    obtain ⟨k1, k2, k3⟩ := hA.2.2.2.2.2.2.2.1 _ mst
    unfold VX0_fillHeavier_17
    rw [hI.1.2.2]
    refine ⟨hA.1, ⟨(by unfold R32; omega), (by unfold R32; omega)⟩, fun _ => h S Fi.rf ⟨k2, k3, fun u hu => by rw [hJ u hu, if_pos (by omega)]⟩, fun c => by omega⟩
  | succ j ih =>
    intro S v hvv hA hI hT hJ h
    unfold VX0_fillHeavier_17
    rw [hI.1.2.2]
    refine ⟨hA.1, ⟨(by unfold R32; omega), (by unfold R32; omega)⟩, fun c => by omega, fun _ => ⟨n + 1, ?_⟩⟩
    have := kf_fh32 (d := d) (Q := Q) (c17 := VX0_fillHeavier_17 d Q (j + 1)) h3 h7 hs ht (show v < Wn n by omega) n (S := S) (p := 0) (by omega) hA hI hT (by
      rw [hJ v (by omega), if_neg (by omega), ← wdv_no v]
      exact wdv_eq (fun b _ => by unfold hp_ inR; simp)) (fun S' f1 g1 g2 => ih (v := v + 1) (by omega) (f1.all hA) (f1.ali (by omega) (by omega) hI) ⟨fun t' ht' q hq => by have := mul_lt hq ht'; exact f1.la (by omega) (hT.1 t' ht' q hq), by rw [f1.I (by omega)]; exact hT.2.1, f1.la (by omega) hT.2.2⟩ (fun u hu => by
        by_cases c : u = v
        · rw [c, g2, if_pos (by omega)]
        · rw [g1 u c, hJ u hu]
          by_cases g : u < v
          · rw [if_pos g, if_pos (by omega)]
          · rw [if_neg g, if_neg (by omega)]) (fun S'' f2 => h S'' (f1.tr f2)))
    rw [wdv_eq (p := inR n fun r => decide (plc n r t < 0)) (q := fun _ => false) (w := v) (fun b _ => by unfold inR; simp), wdv_no] at this
    exact this
theorem k_fillHeavier {d b n s t : Nat} {S : MS} {Q : Out → MS → Prop} {x y : Int} (hd : 1 ≤ d) (h3 : 3 ≤ n) (h7 : n ≤ 7) (hs : s < n) (ht : t < n) (ex : x = (s : Int)) (ey : y = (t : Int)) (hA : ALL S b n) (hI : ALI S b n) (hT : CT S b n (fct n)) (hJ : LA S (b+7+n*n+(s*n+t)) (Wn n) (fun _ => false)) (h : ∀ S', Fi (b+7+n*n+(s*n+t)) (b+7+n*n+(s*n+t)+1) S S' → LA S' (b+7+n*n+(s*n+t)) (Wn n) (inR n (hv n s t)) → Q (.inl none) S') : Mw hX0_fillHeavier yX0_fillHeavier d [vA b, vI x, vI y] S Q := by
  subst ex ey
  have mst := mul_lt ht hs
  obtain ⟨k1, k2, k3⟩ := hA.2.2.2.2.2.2.2.1 _ mst
  obtain ⟨a7, a72, a73⟩ := hA.2.2.2.2.2.2.1
  obtain ⟨dd, rfl⟩ : ∃ e, d = e + 1 := ⟨d - 1, by omega⟩
  refine MX0_fillHeavier ?_
  unfold VX0_fillHeavier_0
  rw [hI.1.1, show ((s : Nat) : Int) * (n : Int) + (t : Int) = ((s * n + t : Nat) : Int) by push_cast; rfl, Int.toNat_natCast]
  refine ⟨hA.1, b+6+n*n, a7, hA.1, ⟨a72, by omega, by omega, by rw [a73]; omega⟩, _, k1, Wn n + 1, ?_⟩
  exact kf_fh17 h3 h7 hs ht (Wn n) (v := 0) (by omega) hA hI hT (fun u hu => by rw [hJ.2.2 u hu, if_neg (by omega), wdv_no]) h
