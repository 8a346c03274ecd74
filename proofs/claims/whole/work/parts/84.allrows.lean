/-! all rows of n things -/
def Wn (n : Nat) : Nat := (fct n + 63) / 64
def inR (n : Nat) (q : Nat → Bool) : Nat → Bool := fun r => decide (r < fct n) && q r
theorem Wn_le {n : Nat} (h3 : 3 ≤ n) (h7 : n ≤ 7) : Wn n ≤ 79 ∧ fct n ≤ 64 * Wn n ∧ 1 ≤ Wn n := by
  have := fct_le h3 h7
  have := fct_pos h3 h7
  unfold Wn
  omega
/-- the layings of one kind -/
def LY (S : MS) (y n k lo hi li : Nat) : Prop :=
  (S.K y = 2 ∧ (lo ≤ y ∧ y < hi) ∧ S.I y 0 = (pansK k : Nat) ∧ S.I y 4 = (k : Int) ∧ S.I y 5 = (n : Int)) ∧
  (∃ c, S.R y 1 = some c ∧ (lo ≤ c ∧ c < hi) ∧ c ≠ li ∧ S.K c = 13 ∧ S.N c = (cmb n n (pansK k)).length ∧ ∀ i, i < (cmb n n (pansK k)).length → S.I c i = ((cmb n n (pansK k)).getD i 0 : Nat)) ∧
  (∃ c, S.R y 6 = some c ∧ (lo ≤ c ∧ c < hi) ∧ c ≠ li ∧ S.K c = 13 ∧ S.N c = 2 ^ n ∧ ∀ i, i < (cmb n n (pansK k)).length → S.I c ((cmb n n (pansK k)).getD i 0) = (i : Int)) ∧
  (∃ c, S.R y 7 = some c ∧ (S.K c = 20 ∧ lo ≤ c ∧ c < hi) ∧ S.N c = (cmb n n (pansK k)).length * pansK k ∧ ∀ i, i < (cmb n n (pansK k)).length → ∀ j, j < pansK k → ∃ e, S.R c (i * pansK k + j) = some e ∧ (lo ≤ e ∧ e < hi) ∧ LA S e (Wn n) (inR n fun r => decide (rsN n k ((cmb n n (pansK k)).getD i 0) r = mbN ((cmb n n (pansK k)).getD i 0) j))) ∧
  (∃ e, S.R y 8 = some e ∧ (lo ≤ e ∧ e < hi) ∧ LA S e (Wn n) (fun _ => false))
def AR (S : MS) (b n lo hi li : Nat) : Prop :=
  (S.K b = 0 ∧ (lo ≤ b ∧ b < hi) ∧ S.I b 0 = (n : Int) ∧ S.I b 1 = (fct n : Int) ∧ S.I b 2 = (Wn n : Int)) ∧
  (∃ c, S.R b 3 = some c ∧ (lo ≤ c ∧ c < hi) ∧ LA S c (Wn n) (inR n fun _ => true)) ∧
  (∃ c, S.R b 4 = some c ∧ (lo ≤ c ∧ c < hi) ∧ c ≠ li ∧ S.K c = 13 ∧ S.N c = fct n ∧ ∀ r, r < fct n → S.I c r = (rowP n r : Nat)) ∧
  (S.R b 5 = some li ∧ (lo ≤ li ∧ li < hi) ∧ S.K li = 13 ∧ S.N li = fct n) ∧
  (∃ c, S.R b 6 = some c ∧ (S.K c = 20 ∧ lo ≤ c ∧ c < hi) ∧ S.N c = n * n ∧ ∀ t, t < n → ∀ p, p < n → ∃ e, S.R c (t * n + p) = some e ∧ (lo ≤ e ∧ e < hi) ∧ LA S e (Wn n) (inR n fun r => decide (plc n r t = p))) ∧
  (∃ c, S.R b 7 = some c ∧ (S.K c = 20 ∧ lo ≤ c ∧ c < hi) ∧ S.N c = n * n ∧ ∀ s, s < n → ∀ t, t < n → ∃ e, S.R c (s * n + t) = some e ∧ (lo ≤ e ∧ e < hi) ∧ LA S e (Wn n) (inR n (hv n s t))) ∧
  (∃ c, S.R b 8 = some c ∧ (S.K c = 18 ∧ lo ≤ c ∧ c < hi) ∧ S.N c = 3 ∧ ∀ k, k < 3 → ∃ y, S.R c k = some y ∧ LY S y n k lo hi li)
/-- what leaves all rows be: no more than the list and a laying's two measures change -/
def Fz (lo hi li : Nat) (S S1 : MS) : Prop := S1.K = S.K ∧ S1.N = S.N ∧ S1.R = S.R ∧ ∀ a, lo ≤ a → a < hi → (a ≠ li → S1.J a = S.J a) ∧ (a ≠ li → ∀ k, (S.K a = 2 → k ≠ 2 ∧ k ≠ 3) → S1.I a k = S.I a k)
theorem Fz.la {lo hi li e W : Nat} {q : Nat → Bool} {S S1 : MS} (h : Fz lo hi li S S1) (hK : S.K li = 13) (he : lo ≤ e ∧ e < hi) (k : LA S e W q) : LA S1 e W q := by
  have ne : e ≠ li := fun z => by
    have := k.1
    rw [z, hK] at this
    exact absurd this (by decide)
  unfold LA
  rw [h.1, h.2.1, (h.2.2.2 e he.1 he.2).1 ne]
  exact k
theorem Fz.ly {lo hi li y n k : Nat} {S S1 : MS} (h : Fz lo hi li S S1) (hK : S.K li = 13) (a : LY S y n k lo hi li) : LY S1 y n k lo hi li := by
  obtain ⟨⟨a1, a2, a3, a4, a5⟩, ⟨c, b1, b2, b3, b4, b5, b6⟩, ⟨e, c1, c2, c3, c4, c5, c6⟩, ⟨f, d1, d2, d3, d4⟩, ⟨g, e1, e2, e3⟩⟩ := a
  have ny : y ≠ li := fun e => by rw [e, hK] at a1; exact absurd a1 (by decide)
  have fI := fun (q : Nat) (hq : q ≠ 2 ∧ q ≠ 3) => (h.2.2.2 y a2.1 a2.2).2 ny q (fun _ => hq)
  unfold LY
  rw [h.1, h.2.1, h.2.2.1, fI 0 (by decide), fI 4 (by decide), fI 5 (by decide)]
  refine ⟨⟨a1, a2, a3, a4, a5⟩, ⟨c, b1, b2, b3, b4, b5, fun i hi => ?_⟩, ⟨e, c1, c2, c3, c4, c5, fun i hi => ?_⟩, ⟨f, d1, d2, d3, fun i hi j hj => ?_⟩, ⟨g, e1, e2, h.la hK e2 e3⟩⟩
  · rw [(h.2.2.2 c b2.1 b2.2).2 b3 i (fun z => by rw [b4] at z; exact absurd z (by decide))]
    exact b6 i hi
  · rw [(h.2.2.2 e c2.1 c2.2).2 c3 _ (fun z => by rw [c4] at z; exact absurd z (by decide))]
    exact c6 i hi
  · obtain ⟨g, g1, g2, g3⟩ := d4 i hi j hj
    exact ⟨g, g1, g2, h.la hK g2 g3⟩
theorem Fz.ar {lo hi li b n : Nat} {S S1 : MS} (h : Fz lo hi li S S1) (a : AR S b n lo hi li) : AR S1 b n lo hi li := by
  obtain ⟨⟨a1, a2, a3, a4, a5⟩, ⟨c, b1, b2, b3⟩, ⟨e, c1, c2, c3, c4, c5, c6⟩, ⟨d1, d2, d3, d4⟩, ⟨f, e1, e2, e3, e4⟩, ⟨g, f1, f2, f3, f4⟩, ⟨j, g1, g2, g3, g4⟩⟩ := a
  have ny : b ≠ li := fun e => by rw [e, d3] at a1; exact absurd a1 (by decide)
  have fI := fun (q : Nat) => (h.2.2.2 b a2.1 a2.2).2 ny q (fun z => by rw [a1] at z; exact absurd z (by decide))
  unfold AR
  rw [h.1, h.2.1, h.2.2.1, fI 0, fI 1, fI 2]
  refine ⟨⟨a1, a2, a3, a4, a5⟩, ⟨c, b1, b2, h.la d3 b2 b3⟩, ⟨e, c1, c2, c3, c4, c5, fun r hr => ?_⟩, ⟨d1, d2, d3, d4⟩, ⟨f, e1, e2, e3, fun t ht p hp => ?_⟩, ⟨g, f1, f2, f3, fun t ht p hp => ?_⟩, ⟨j, g1, g2, g3, fun k hk => ?_⟩⟩
  · rw [(h.2.2.2 e c2.1 c2.2).2 c3 r (fun z => by rw [c4] at z; exact absurd z (by decide))]
    exact c6 r hr
  · obtain ⟨g, g1, g2, g3⟩ := e4 t ht p hp
    exact ⟨g, g1, g2, h.la d3 g2 g3⟩
  · obtain ⟨g, g1, g2, g3⟩ := f4 t ht p hp
    exact ⟨g, g1, g2, h.la d3 g2 g3⟩
  · obtain ⟨y, y1, y2⟩ := g4 k hk
    exact ⟨y, y1, h.ly d3 y2⟩
theorem Fi.fz {l h lo hi li : Nat} {S S1 : MS} (f : Fi l h S S1) (hd : hi ≤ l ∨ h ≤ lo) : Fz lo hi li S S1 := ⟨f.1, f.2.1, f.2.2.1, fun a h1 h2 => ⟨fun _ => f.J (by omega), fun _ k _ => by rw [f.I (by omega)]⟩⟩
theorem Fi.fzl {lo hi li : Nat} {S S1 : MS} (f : Fi li (li+1) S S1) : Fz lo hi li S S1 := ⟨f.1, f.2.1, f.2.2.1, fun a h1 h2 => ⟨fun c => f.J (by omega), fun c k _ => by rw [f.I (by omega)]⟩⟩
theorem Fz.rf {lo hi li : Nat} {S : MS} : Fz lo hi li S S := ⟨rfl, rfl, rfl, fun _ _ _ => ⟨fun _ => rfl, fun _ _ _ => rfl⟩⟩
theorem Fz.tr {lo hi li : Nat} {S S1 S2 : MS} (f : Fz lo hi li S S1) (g : Fz lo hi li S1 S2) : Fz lo hi li S S2 := ⟨g.1.trans f.1, g.2.1.trans f.2.1, g.2.2.1.trans f.2.2.1, fun a h1 h2 => ⟨fun c => ((g.2.2.2 a h1 h2).1 c).trans ((f.2.2.2 a h1 h2).1 c), fun n k z => ((g.2.2.2 a h1 h2).2 n k (fun y => z (by rw [← f.1]; exact y))).trans ((f.2.2.2 a h1 h2).2 n k z)⟩⟩
theorem Fz.sy {lo hi li y k : Nat} {v : Int} {S : MS} (hy : S.K y = 2) (hk : k = 2 ∨ k = 3) : Fz lo hi li S (S.setI y k v) := ⟨rfl, rfl, rfl, fun a _ _ => ⟨fun _ => rfl, fun _ j z => by
  rw [sI_I]
  by_cases c : a = y ∧ j = k
  · have := z (by rw [c.1]; exact hy)
    omega
  · rw [if_neg c]⟩⟩
/-- a reference written outside leaves all rows be -/
theorem ly_setR {lo hi li y n k ro i : Nat} {v : Option Nat} {S : MS} (hro : ro < lo ∨ hi ≤ ro) (a : LY S y n k lo hi li) : LY (S.setR ro i v) y n k lo hi li := by
  obtain ⟨⟨a1, a2, a3, a4, a5⟩, ⟨c, b1, b2, b3, b4, b5, b6⟩, ⟨e, c1, c2, c3, c4, c5, c6⟩, ⟨f, d1, d2, d3, d4⟩, ⟨g, e1, e2, e3⟩⟩ := a
  have ry : (S.setR ro i v).R y = S.R y := sR_Ra (by omega)
  have rf : (S.setR ro i v).R f = S.R f := sR_Ra (by omega)
  unfold LY
  rw [ry]
  refine ⟨⟨a1, a2, a3, a4, a5⟩, ⟨c, b1, b2, b3, b4, b5, b6⟩, ⟨e, c1, c2, c3, c4, c5, c6⟩, ⟨f, d1, d2, d3, fun i' hi' j hj => ?_⟩, ⟨g, e1, e2, e3⟩⟩
  rw [rf]
  exact d4 i' hi' j hj
theorem ar_setR {lo hi li b n ro i : Nat} {v : Option Nat} {S : MS} (hro : ro < lo ∨ hi ≤ ro) (a : AR S b n lo hi li) : AR (S.setR ro i v) b n lo hi li := by
  obtain ⟨⟨a1, a2, a3, a4, a5⟩, ⟨c, b1, b2, b3⟩, ⟨e, c1, c2, c3, c4, c5, c6⟩, ⟨d1, d2, d3, d4⟩, ⟨f, e1, e2, e3, e4⟩, ⟨g, f1, f2, f3, f4⟩, ⟨j, g1, g2, g3, g4⟩⟩ := a
  have rb : (S.setR ro i v).R b = S.R b := sR_Ra (by omega)
  have rf : (S.setR ro i v).R f = S.R f := sR_Ra (by omega)
  have rg : (S.setR ro i v).R g = S.R g := sR_Ra (by omega)
  have rj : (S.setR ro i v).R j = S.R j := sR_Ra (by omega)
  unfold AR
  rw [rb]
  refine ⟨⟨a1, a2, a3, a4, a5⟩, ⟨c, b1, b2, b3⟩, ⟨e, c1, c2, c3, c4, c5, c6⟩, ⟨d1, d2, d3, d4⟩, ⟨f, e1, e2, e3, fun t ht p hp => ?_⟩, ⟨g, f1, f2, f3, fun t ht p hp => ?_⟩, ⟨j, g1, g2, g3, fun k hk => ?_⟩⟩
  · rw [rf]; exact e4 t ht p hp
  · rw [rg]; exact f4 t ht p hp
  · rw [rj]
    obtain ⟨y, y1, y2⟩ := g4 k hk
    exact ⟨y, y1, ly_setR hro y2⟩
/-! asking all rows -/
theorem k_layings {d b n lo hi li k : Nat} {S : MS} {Q : Out → MS → Prop} {x : Int} (hd : 1 ≤ d) (hA : AR S b n lo hi li) (hx : x = (k : Int)) (hk : k < 3) (h : ∀ y, LY S y n k lo hi li → Q (.inl (some (vA y))) S) : Mw hX0_layings yX0_layings d [vA b, vI x] S Q := by
  subst hx
  obtain ⟨⟨a1, -⟩, -, -, -, -, -, ⟨j, g1, g2, g3, g4⟩⟩ := hA
  obtain ⟨y, y1, y2⟩ := g4 k hk
  obtain ⟨dd, rfl⟩ : ∃ e, d = e + 1 := ⟨d - 1, by omega⟩
  refine MX0_layings ?_
  unfold VX0_layings_0
  rw [show max (0 : Int) (min (2 : Int) (k : Int)) = (k : Int) by omega, Int.toNat_natCast]
  exact ⟨a1, j, g1, ⟨(by unfold R32; omega), (by unfold R32; omega)⟩, ⟨(by unfold R32; omega), (by unfold R32; omega)⟩, ⟨g2.1, ⟨by omega, by omega⟩, by omega, by rw [g3]; omega⟩, y, y1, h y y2⟩
theorem k_standing {d b n lo hi li t p : Nat} {S : MS} {Q : Out → MS → Prop} {x y : Int} (hd : 1 ≤ d) (hA : AR S b n lo hi li) (hx : x = (t : Int)) (hy : y = (p : Int)) (ht : t < n) (hp : p < n) (h : ∀ e, (lo ≤ e ∧ e < hi) → LA S e (Wn n) (inR n fun r => decide (plc n r t = p)) → Q (.inl (some (vA e))) S) : Mw hX0_standing yX0_standing d [vA b, vI x, vI y] S Q := by
  subst hx hy
  obtain ⟨⟨a1, -, a3, -⟩, -, -, -, ⟨f, e1, e2, e3, e4⟩, -⟩ := hA
  obtain ⟨e, g1, g2, g3⟩ := e4 t ht p hp
  have : t * n + p < n * n := by
    have := Nat.mul_le_mul_right n (show t + 1 ≤ n from ht)
    rw [Nat.add_mul, Nat.one_mul] at this
    omega
  obtain ⟨dd, rfl⟩ : ∃ e, d = e + 1 := ⟨d - 1, by omega⟩
  refine MX0_standing ?_
  unfold VX0_standing_0
  rw [a3, show (t : Int) * (n : Int) + (p : Int) = ((t * n + p : Nat) : Int) by push_cast; rfl, Int.toNat_natCast]
  exact ⟨a1, f, e1, a1, ⟨e2.1, ⟨by omega, by omega⟩, Int.natCast_nonneg _, by rw [e3]; exact Int.ofNat_lt.mpr this⟩, e, g1, h e g2 g3⟩
theorem k_heavier {d b n lo hi li t p : Nat} {S : MS} {Q : Out → MS → Prop} {x y : Int} (hd : 1 ≤ d) (hA : AR S b n lo hi li) (hx : x = (t : Int)) (hy : y = (p : Int)) (ht : t < n) (hp : p < n) (h : ∀ e, (lo ≤ e ∧ e < hi) → LA S e (Wn n) (inR n (hv n t p)) → Q (.inl (some (vA e))) S) : Mw hX0_heavierThan yX0_heavierThan d [vA b, vI x, vI y] S Q := by
  subst hx hy
  obtain ⟨⟨a1, -, a3, -⟩, -, -, -, -, ⟨f, e1, e2, e3, e4⟩, -⟩ := hA
  obtain ⟨e, g1, g2, g3⟩ := e4 t ht p hp
  have : t * n + p < n * n := by
    have := Nat.mul_le_mul_right n (show t + 1 ≤ n from ht)
    rw [Nat.add_mul, Nat.one_mul] at this
    omega
  obtain ⟨dd, rfl⟩ : ∃ e, d = e + 1 := ⟨d - 1, by omega⟩
  refine MX0_heavierThan ?_
  unfold VX0_heavierThan_0
  rw [a3, show (t : Int) * (n : Int) + (p : Int) = ((t * n + p : Nat) : Int) by push_cast; rfl, Int.toNat_natCast]
  exact ⟨a1, f, e1, a1, ⟨e2.1, ⟨by omega, by omega⟩, Int.natCast_nonneg _, by rw [e3]; exact Int.ofNat_lt.mpr this⟩, e, g1, h e g2 g3⟩
theorem k_packed {d b n lo hi li r : Nat} {S : MS} {Q : Out → MS → Prop} {x : Int} (hd : 1 ≤ d) (h3 : 3 ≤ n) (h7 : n ≤ 7) (hA : AR S b n lo hi li) (hx : x = (r : Int)) (hr : r < fct n) (h : Q (.inl (some (vI (rowP n r : Nat)))) S) : Mw hX0_packed yX0_packed d [vA b, vI x] S Q := by
  subst hx
  obtain ⟨⟨a1, -⟩, -, ⟨c, c1, c2, c3, c4, c5, c6⟩, -⟩ := hA
  have hf := fct_le h3 h7
  have hl := And.intro a1 (And.intro c1 (And.intro c4 c5))
  obtain ⟨dd, rfl⟩ : ∃ e, d = e + 1 := ⟨d - 1, by omega⟩
  refine MX0_packed ?_
  unfold VX0_packed_0
  simp only [hl, sI_K, sI_N, sI_R, sI_J, sJ_K, sJ_N, sJ_R, sJ_I, sR_K, sR_N, sR_I, sR_J, Option.some.injEq, exists_eq_left', true_and, and_true, and_self_left, Int.toNat_natCast, Int.toNat_zero, Int.reduceToNat, Int.reduceLT, Int.reduceLE, Nat.reduceLeDiff, Nat.reduceLT, Int.cast_ofNat_Int, forall_eq, ge_iff_le, Int.reduceNeg, Int.reduceAdd, Int.reduceSub, Int.reduceMul, Int.reduceEq, r32_0, r32_1, r32_m1, b01_0, b01_1, not_true_eq_false, not_false_eq_true, false_implies, true_implies, implies_true, forall_const]
  rw [c6 r hr]
  exact ⟨(by unfold R32; omega), fun c => by omega, fun _ => ⟨⟨(by unfold R32; omega), (by unfold R32; omega)⟩, fun c => by omega, fun _ => ⟨by omega, h⟩⟩⟩
theorem rowP_sm {n r : Nat} (h3 : 3 ≤ n) (h7 : n ≤ 7) : rowP n r < 2097152 := by
  rw [rowP_pck n r (by omega)]
  exact pck_sm h7 (rat_8 n r (by omega) (by omega))
theorem eqc_ge {f : Nat → Nat} {v : Nat} : ∀ {k : Nat}, (∃ q, q < k ∧ f q = v) → 1 ≤ eqc f v k
  | 0, h => by obtain ⟨q, h, -⟩ := h; exact absurd h (Nat.not_lt_zero q)
  | k + 1, h => by
    show 1 ≤ eqc f v k + _
    obtain ⟨q, h1, h2⟩ := h
    by_cases c : q = k
    · rw [c] at h2
      rw [if_pos h2]
      omega
    · have := eqc_ge (f := f) (v := v) (k := k) ⟨q, by omega, h2⟩
      omega
/-- how many lesser ones stand ahead, counted in a mask -/
theorem pc_less {f : Nat → Nat} {n p v : Nat} (h7 : n ≤ 7) (hP : Prm n f) (hp : p ≤ n) (hv : v ≤ n) : pc (mskN (fun t => (List.range p).any (fun q => decide (f q = t))) n % 2 ^ v) = lsr f v 0 p := by
  rw [lsr_cnt]
  simp only [Nat.zero_add]
  rw [cntB_img (f := f) (q := fun u => decide (u < v)) (b := 7) (fun q hq => by have := hP.1 q (by omega); omega)]
  unfold pc
  rw [← smB_cnt]
  refine smB_cong (fun t ht => ?_)
  have e : (mskN (fun t => (List.range p).any (fun q => decide (f q = t))) n % 2 ^ v).testBit t = (decide (t < v) && (List.range p).any (fun q => decide (f q = t))) := by
    rw [Nat.testBit_mod_two_pow, mskN_bit]
    by_cases c : t < v
    · rw [decide_eq_true c, decide_eq_true (show t < n by omega)]; simp
    · rw [decide_eq_false c]; simp
  rw [e]
  by_cases c : t < v
  · rw [decide_eq_true c, Bool.true_and, if_pos rfl]
    by_cases g : (List.range p).any (fun q => decide (f q = t)) = true
    · rw [if_pos g]
      have a := eqc_le (v := t) hP.2 p hp
      rw [List.any_eq_true] at g
      obtain ⟨q, q1, q2⟩ := g
      have b := eqc_ge (f := f) (v := t) (k := p) ⟨q, List.mem_range.mp q1, of_decide_eq_true q2⟩
      omega
    · rw [if_neg g, eqc_0]
      intro q hq e
      exact g (List.any_eq_true.mpr ⟨q, List.mem_range.mpr hq, decide_eq_true e⟩)
  · rw [decide_eq_false c, Bool.false_and, if_neg (by decide), if_neg (by decide)]
/-- a packed row's number -/
theorem kf_number {d b n lo hi li x : Nat} {S : MS} {Q : Out → MS → Prop} (hd : 1 ≤ d) (h3 : 3 ≤ n) (h7 : n ≤ 7) (hA : AR S b n lo hi li) (hx : x < 2147483648) (hP : Prm n (dig x)) (h : Q (.inl (some (vI (rnk n (dig x) n : Nat)))) S) : ∀ (j : Nat) {p : Nat}, p + j = n → VX0_numberOf_7 d Q (j + 1) b (x : Nat) (rnk n (dig x) p : Nat) (mskN (fun t => (List.range p).any (fun q => decide (dig x q = t))) n : Nat) (p : Nat) S := by
  obtain ⟨⟨a1, -, a3, -⟩, -⟩ := hA
  have p7 := p2_7 h7
  intro j
  induction j with
  | zero =>
    intro p hp
    unfold VX0_numberOf_7
    rw [a3, show p = n by omega]
    exact ⟨a1, ⟨(by unfold R32; omega), (by unfold R32; omega)⟩, fun _ => h, fun c => by omega⟩
  | succ j ih =>
    intro p hp
    have hp' : p < n := by omega
    have dl := hP.1 p hp'
    have ml := mskN_lt (fun t => (List.range p).any (fun q => decide (dig x q = t))) n
    unfold VX0_numberOf_7
    rw [a3]
    refine ⟨a1, ⟨(by unfold R32; omega), (by unfold R32; omega)⟩, fun c => by omega, fun _ => c_kAt hd rfl rfl hx (by omega) (oI_i ?_)⟩
    have q1 : 2 ^ dig x p < 2 ^ n := Nat.pow_lt_pow_right (by decide) dl
    have q0 := Nat.two_pow_pos (dig x p)
    rw [i1_shl (by omega), show ((2 ^ dig x p : Nat) : Int) - 1 = ((2 ^ dig x p - 1 : Nat) : Int) by omega, iAnd_n (by omega) (by omega), Nat.and_two_pow_sub_one_eq_mod]
    have lm : mskN (fun t => (List.range p).any (fun q => decide (dig x q = t))) n % 2 ^ dig x p < 2 ^ dig x p := Nat.mod_lt _ q0
    refine c_bitCount hd rfl (by omega) (oI_i ⟨a1, ?_⟩)
    have e1 : pc (mskN (fun t => (List.range p).any (fun q => decide (dig x q = t))) n % 2 ^ dig x p) = lsr (dig x) (dig x p) 0 p := pc_less h7 hP (by omega) (by omega)
    have e2 := lsr_left hP hp'
    rw [e1, a3, iOr_n (by omega) (by omega), mskN_or _ dl]
    have := ih (p := p + 1) (by omega)
    rw [mskN_cong (q := fun u => (List.range p).any (fun q => decide (dig x q = u)) || decide (u = dig x p)) (fun u hu => ?_)] at this
    · have en : ((rnk n (dig x) (p + 1) : Nat) : Int) = (rnk n (dig x) p : Int) * ((n : Int) - (p : Int)) + ((dig x p : Int) - (lsr (dig x) (dig x p) 0 p : Int)) := by
        show ((rnk n (dig x) p * (n - p) + lsr (dig x) (dig x p) (p + 1) (n - 1 - p) : Nat) : Int) = _
        push_cast
        rw [show ((n - p : Nat) : Int) = (n : Int) - (p : Int) by omega]
        omega
      rw [en] at this
      exact this
    · rw [List.range_succ, List.any_append]
      simp only [List.any_cons, List.any_nil, Bool.or_false]
      congr 1
      exact decide_eq_decide.mpr ⟨Eq.symm, Eq.symm⟩
theorem k_numberOf {d b n lo hi li r : Nat} {S : MS} {Q : Out → MS → Prop} {x : Int} (hd : 2 ≤ d) (h3 : 3 ≤ n) (h7 : n ≤ 7) (hA : AR S b n lo hi li) (hx : x = (rowP n r : Nat)) (hr : r < fct n) (h : Q (.inl (some (vI (r : Nat)))) S) : Mw hX0_numberOf yX0_numberOf d [vA b, vI x] S Q := by
  subst hx
  have sm := rowP_sm (r := r) h3 h7
  have hP : Prm n (dig (rowP n r)) := rat_prm h3 h7 hr
  have e : rnk n (dig (rowP n r)) n = r := (rowOk h3 h7 hr).2.1
  obtain ⟨dd, rfl⟩ : ∃ e, d = e + 1 := ⟨d - 1, by omega⟩
  refine MX0_numberOf ?_
  unfold VX0_numberOf_0
  have := kf_number (d := dd) (Q := Q) (by omega) h3 h7 hA (show rowP n r < 2147483648 by omega) hP (by rw [e]; exact h) n (p := 0) (by omega)
  rw [mskN_cong (p := fun t => (List.range 0).any (fun q => decide (dig (rowP n r) q = t))) (q := fun _ => false) (fun u _ => rfl), mskN_no] at this
  exact ⟨_, this⟩
theorem mrF_prm {n r : Nat} (h3 : 3 ≤ n) (h7 : n ≤ 7) (hr : r < fct n) : Prm n (mrF n r) := by
  refine ⟨fun p hp => rat_lt h3 h7 hr (by omega), fun p q hp hq e => ?_⟩
  have := rat_inj h3 h7 hr (show n - 1 - p < n by omega) (show n - 1 - q < n by omega) e
  omega
theorem mir_row {n r : Nat} (h3 : 3 ≤ n) (h7 : n ≤ 7) (hr : r < fct n) : mir n r < fct n ∧ rowP n (mir n r) = pck (mrF n r) n := by
  have := row_of h3 h7 (mrF_prm h3 h7 hr)
  refine ⟨this.1, ?_⟩
  rw [rowP_pck n _ (by omega)]
  exact pck_cong this.2
def mrG (n r p q : Nat) : Nat := if n - p ≤ q then rat n r (n - 1 - q) else 0
theorem kf_mirror {d b n lo hi li r : Nat} {S : MS} {Q : Out → MS → Prop} (hd : 1 ≤ d) (h3 : 3 ≤ n) (h7 : n ≤ 7) (hA : AR S b n lo hi li) (hr : r < fct n) (h : Q (.inl (some (vI (rowP n (mir n r) : Nat)))) S) : ∀ (j : Nat) {p : Nat}, p + j = n → VX0_mirror_4 d Q (j + 1) b (rowP n r : Nat) (pck (mrG n r p) n : Nat) (p : Nat) S := by
  obtain ⟨⟨a1, -, a3, -⟩, -⟩ := hA
  have sm := rowP_sm (r := r) h3 h7
  intro j
  induction j with
  | zero =>
    intro p hp
    rw [(mir_row h3 h7 hr).2] at h
    unfold VX0_mirror_4
    rw [a3, show p = n by omega, pck_cong (f := mrG n r n) (g := mrF n r) (fun q hq => by unfold mrG mrF; rw [if_pos (by omega)])]
    exact ⟨a1, ⟨(by unfold R32; omega), (by unfold R32; omega)⟩, fun _ => h, fun c => by omega⟩
  | succ j ih =>
    intro p hp
    have hp' : p < n := by omega
    have dl := rat_lt h3 h7 hr hp'
    unfold VX0_mirror_4
    rw [a3]
    refine ⟨a1, ⟨(by unfold R32; omega), (by unfold R32; omega)⟩, fun c => by omega, fun _ => c_kAt hd rfl rfl (by omega) (by omega) (oI_i ⟨a1, ?_⟩)⟩
    show VX0_mirror_4 d Q (j + 1) b (rowP n r : Nat) (iOr (pck (mrG n r p) n : Nat) (iShl (rat n r p : Nat) (3 * (S.I b 0 - 1 - (p : Int))))) ((p : Int) + 1) S
    rw [a3, show (n : Int) - 1 - (p : Int) = ((n - 1 - p : Nat) : Int) by omega, pck_put h7 (fun q hq => by unfold mrG; split; exact rat_8 n r (by omega) (by omega) _ (by omega); omega) (by omega) (by omega) (by unfold mrG; rw [if_neg (by omega)])]
    have := ih (p := p + 1) (by omega)
    rw [pck_cong (g := fun q => if q = n - 1 - p then rat n r p else mrG n r p q) (fun q hq => ?_)] at this
    · exact this
    · unfold mrG
      by_cases c : q = n - 1 - p
      · rw [if_pos c, if_pos (by omega), show n - 1 - q = p by omega]
      · rw [if_neg c]
        by_cases g : n - p ≤ q
        · rw [if_pos g, if_pos (by omega)]
        · rw [if_neg g, if_neg (by omega)]
theorem k_mirror {d b n lo hi li r : Nat} {S : MS} {Q : Out → MS → Prop} {x : Int} (hd : 2 ≤ d) (h3 : 3 ≤ n) (h7 : n ≤ 7) (hA : AR S b n lo hi li) (hx : x = (rowP n r : Nat)) (hr : r < fct n) (h : Q (.inl (some (vI (rowP n (mir n r) : Nat)))) S) : Mw hX0_mirror yX0_mirror d [vA b, vI x] S Q := by
  subst hx
  obtain ⟨dd, rfl⟩ : ∃ e, d = e + 1 := ⟨d - 1, by omega⟩
  refine MX0_mirror ?_
  unfold VX0_mirror_0
  have := kf_mirror (d := dd) (Q := Q) (by omega) h3 h7 hA hr h n (p := 0) (by omega)
  rw [pck_cong (f := mrG n r 0) (g := fun _ => 0) (fun q hq => by unfold mrG; rw [if_neg (by omega)]), pck_0] at this
  exact ⟨_, this⟩
theorem rowP_inj {n r s : Nat} (h3 : 3 ≤ n) (h7 : n ≤ 7) (hr : r < fct n) (hs : s < fct n) (e : rowP n r = rowP n s) : r = s := row_eq h3 h7 hr hs (fun p _ => by unfold rat; rw [e])
theorem mir_iff {n a b : Nat} (h3 : 3 ≤ n) (h7 : n ≤ 7) (ha : a < fct n) (hb : b < fct n) : rowP n (mir n a) = rowP n b ↔ Mir n a b := by
  have m := row_of h3 h7 (mrF_prm h3 h7 ha)
  constructor
  · intro e k hk
    have e' : mir n a = b := rowP_inj h3 h7 m.1 hb e
    rw [← e']
    have := m.2 (n - 1 - k) (by omega)
    show rat n a k = rat n (rnk n (mrF n a) n) (n - 1 - k)
    rw [this]
    unfold mrF
    rw [show n - 1 - (n - 1 - k) = k by omega]
  · intro h
    have : mir n a = b := by
      refine row_eq h3 h7 m.1 hb (fun p hp => ?_)
      have k := h (n - 1 - p) (by omega)
      rw [show n - 1 - (n - 1 - p) = p by omega] at k
      show rat n (rnk n (mrF n a) n) p = _
      rw [m.2 p hp]
      exact k
    rw [this]
/-- some of all rows -/
def PS (n : Nat) (p : Nat → Bool) : Prop := ∀ r, fct n ≤ r → p r = false
theorem PS.a {n : Nat} {p : Nat → Bool} (h : PS n p) (h3 : 3 ≤ n) (h7 : n ≤ 7) : (∀ r, 5056 ≤ r → p r = false) ∧ (∀ r, 64 * Wn n ≤ r → p r = false) := by
  have := fct_le h3 h7
  have := Wn_le h3 h7
  exact ⟨fun r hr => h r (by omega), fun r hr => h r (by omega)⟩
theorem PS.m {n : Nat} {p : Nat → Bool} (h : PS n p) : ∀ r ∈ lsR p 5056, r < fct n ∧ p r = true := by
  intro r hr
  unfold lsR at hr
  rw [List.mem_filter] at hr
  refine ⟨?_, hr.2⟩
  rcases Nat.lt_or_ge r (fct n) with c | c
  · exact c
  · rw [h r c] at hr
    exact absurd hr.2 (by decide)
theorem k_areKnown {d b n lo hi li a : Nat} {p : Nat → Bool} {S : MS} {Q : Out → MS → Prop} (hd : 4 ≤ d) (h3 : 3 ≤ n) (h7 : n ≤ 7) (hA : AR S b n lo hi li) (hR : RS_ S a p) (hp : PS n p) (h : ∀ q, BI q (Known n (lsR p 5056)) → Q (.inl (some (vI q))) S) : Mw hX0_areKnown yX0_areKnown d [vA b, vA a] S Q := by
  have ha := hp.a h3 h7
  have hm := hp.m
  have sz : S.I a 0 = ((lsR p 5056).length : Nat) := by rw [lsR_len]; exact hR.2.2.2.2
  have b5 : (lsR p 5056).length ≤ 5056 := by rw [lsR_len]; exact cntB_le _ _
  have a1 := hA.1.1
  obtain ⟨dd, rfl⟩ : ∃ e, d = e + 1 := ⟨d - 1, by omega⟩
  refine MX0_areKnown ?_
  unfold VX0_areKnown_0
  rw [sz]
  unfold Known at h
  refine ⟨hR.1.1, ⟨(by unfold R32; omega), (by unfold R32; omega)⟩, fun c => ⟨hR.1.1, c_rNumAt (by omega) hR ha.1 (by unfold R32; omega) (oI_i ?_)⟩, fun c => ⟨hR.1.1, ⟨(by unfold R32; omega), (by unfold R32; omega)⟩, fun c2 => ⟨b01_0, h _ (.n (by omega))⟩, fun c2 => ⟨b01_1, h _ (.y (by omega))⟩⟩⟩
  have m0 := hm _ (getD_mem (L := lsR p 5056) (k := 0) (by omega))
  have m1 := hm _ (getD_mem (L := lsR p 5056) (k := 1) (by omega))
  rw [if_pos (by omega), show Int.toNat 0 = 0 from rfl]
  refine ⟨a1, k_packed (by omega) h3 h7 hA rfl m0.1 (oI_i ⟨a1, k_mirror (by omega) h3 h7 hA rfl m0.1 (oI_i ⟨hR.1.1, c_rNumAt (by omega) hR ha.1 (by unfold R32; omega) (oI_i ?_)⟩)⟩)⟩
  rw [if_pos (by omega), show Int.toNat 1 = 1 from rfl]
  refine ⟨a1, k_packed (by omega) h3 h7 hA rfl m1.1 (oI_i ?_)⟩
  have s0 := rowP_sm (n := n) (r := mir n ((lsR p 5056).getD 0 0)) h3 h7
  have s1 := rowP_sm (n := n) (r := (lsR p 5056).getD 1 0) h3 h7
  have i := mir_iff h3 h7 m0.1 m1.1
  refine ⟨⟨(by unfold R32; omega), (by unfold R32; omega)⟩, fun c2 => ⟨b01_0, h _ (.n ?_)⟩, fun c2 => ⟨b01_1, h _ (.y ?_)⟩⟩
  · rintro (k | ⟨-, k⟩)
    · omega
    · exact c2 (by rw [i.mpr k])
  · exact Or.inr ⟨by omega, i.mp (by omega)⟩
theorem any_iff {n : Nat} {p q : Nat → Bool} (h3 : 3 ≤ n) (h7 : n ≤ 7) (hp : PS n p) : (lsR p 5056).any q = true ↔ ∃ r, p r = true ∧ inR n q r = true := by
  have hf := fct_le h3 h7
  rw [List.any_eq_true]
  constructor
  · rintro ⟨r, r1, r2⟩
    have := hp.m r r1
    exact ⟨r, this.2, by unfold inR; rw [decide_eq_true this.1, r2]; rfl⟩
  · rintro ⟨r, r1, r2⟩
    unfold inR at r2
    rw [Bool.and_eq_true] at r2
    have := of_decide_eq_true r2.1
    refine ⟨r, ?_, r2.2⟩
    unfold lsR
    rw [List.mem_filter, List.mem_range]
    exact ⟨by omega, r1⟩
def upTo (k : Nat) (q : Nat → Bool) : Nat → Bool := fun u => decide (u < k) && q u
theorem upTo_y {k m : Nat} {q : Nat → Bool} (hk : k < m) (hq : q k = true) : mskN (upTo k q) m ||| 2 ^ k = mskN (upTo (k + 1) q) m := by
  rw [mskN_or _ hk]
  refine mskN_cong (fun u _ => ?_)
  unfold upTo
  by_cases c : u = k
  · rw [c, decide_eq_true (p := k = k) rfl, decide_eq_true (p := k < k + 1) (by omega), hq]; simp
  · rw [decide_eq_false c, Bool.or_false]
    congr 1
    exact decide_eq_decide.mpr (by omega)
theorem upTo_n {k m : Nat} {q : Nat → Bool} (hq : q k = false) : mskN (upTo k q) m = mskN (upTo (k + 1) q) m := by
  refine mskN_cong (fun u _ => ?_)
  unfold upTo
  by_cases c : u = k
  · rw [c, hq, Bool.and_false, Bool.and_false]
  · congr 1
    exact decide_eq_decide.mpr (by omega)
theorem upTo_0 {m : Nat} {q : Nat → Bool} : mskN (upTo 0 q) m = 0 := by
  rw [mskN_cong (q := fun _ => false) (fun u _ => by unfold upTo; rw [decide_eq_false (by omega)]; rfl), mskN_no]
/-- one more bit, or none -/
theorem or_upTo {k m : Nat} {q : Nat → Bool} {v : Int} (hk : k < m) (hm : m ≤ 30) (hv : (q k = true ∧ v = iShl 1 (k : Int)) ∨ (q k = false ∧ v = 0)) : iOr (mskN (upTo k q) m : Nat) v = (mskN (upTo (k + 1) q) m : Nat) := by
  have l := mskN_lt (upTo k q) m
  have l2 : 2 ^ m ≤ 2 ^ 30 := Nat.pow_le_pow_right (by decide) hm
  have l3 : 2 ^ k ≤ 2 ^ 30 := Nat.pow_le_pow_right (by decide) (by omega)
  rcases hv with ⟨h1, rfl⟩ | ⟨h1, rfl⟩
  · rw [i1_shl (by omega), iOr_n (by omega) (by omega), upTo_y hk h1]
  · rw [iOr_m1 (by omega), upTo_n h1]
def anyB (n : Nat) (p : Nat → Bool) (g : Nat → Nat) (u : Nat) : Bool := (lsR p 5056).any (fun r => decide (g r = u))
theorem kf_places {d b n lo hi li a t : Nat} {p : Nat → Bool} {S : MS} {Q : Out → MS → Prop} (hd : 2 ≤ d) (h3 : 3 ≤ n) (h7 : n ≤ 7) (hA : AR S b n lo hi li) (hR : RS_ S a p) (hp : PS n p) (ht : t < n) (h : Q (.inl (some (vI (plM n t (lsR p 5056) : Nat)))) S) : ∀ (j : Nat) {k : Nat}, k + j = n → VX0_placesOf_5 d Q (j + 1) b a (t : Nat) (mskN (upTo k (anyB n p (fun r => plc n r t))) 7 : Nat) (k : Nat) S := by
  have hA' := hA
  have ha := hp.a h3 h7
  have hW := Wn_le h3 h7
  obtain ⟨⟨a1, -, a3, -⟩, -⟩ := hA
  intro j
  induction j with
  | zero =>
    intro k hk
    unfold VX0_placesOf_5
    rw [a3]
    refine ⟨a1, ⟨(by unfold R32; omega), (by unfold R32; omega)⟩, fun _ => ?_, fun c => by omega⟩
    rw [mskN_cong (q := anyB n p (fun r => plc n r t)) (fun u hu => ?_)]
    · exact h
    · unfold upTo
      by_cases c : u < k
      · rw [decide_eq_true c, Bool.true_and]
      · rw [decide_eq_false c]
        cases e : anyB n p (fun r => plc n r t) u
        · rfl
        · unfold anyB at e
          rw [List.any_eq_true] at e
          obtain ⟨r, r1, r2⟩ := e
          have := plc_lt h3 h7 (hp.m r r1).1 ht
          have e2 : plc n r t = u := of_decide_eq_true r2
          omega
  | succ j ih =>
    intro k hk
    unfold VX0_placesOf_5 VX0_placesOf_37
    rw [a3]
    refine ⟨a1, ⟨(by unfold R32; omega), (by unfold R32; omega)⟩, fun c => by omega, fun _ => ⟨a1, k_standing (by omega) hA' rfl rfl ht (by omega) (fun e _ he => oA_i ⟨hR.1.1, c_rMeets hd hW.1 ha.2 hR he (fun v hv => oI_i ⟨hv.r, fun c => ?_, fun c => ?_⟩)⟩)⟩⟩
    · rw [or_upTo (by omega) (by omega) (Or.inr ⟨?_, rfl⟩)]
      · exact ih (k := k + 1) (by omega)
      · rcases hv with ⟨rfl, -⟩ | ⟨-, k2⟩
        · exact absurd c (by decide)
        · cases e : anyB n p (fun r => plc n r t) k
          · rfl
          · unfold anyB at e
            exact absurd ((any_iff h3 h7 hp).mp e) k2
    · rw [or_upTo (by omega) (by omega) (Or.inl ⟨?_, rfl⟩)]
      · exact ih (k := k + 1) (by omega)
      · rcases hv with ⟨-, k2⟩ | ⟨rfl, -⟩
        · unfold anyB
          exact (any_iff h3 h7 hp).mpr k2
        · exact absurd rfl c
theorem k_placesOf {d b n lo hi li a t : Nat} {p : Nat → Bool} {S : MS} {Q : Out → MS → Prop} {x : Int} (hd : 3 ≤ d) (h3 : 3 ≤ n) (h7 : n ≤ 7) (hA : AR S b n lo hi li) (hR : RS_ S a p) (hp : PS n p) (hx : x = (t : Int)) (ht : t < n) (h : Q (.inl (some (vI (plM n t (lsR p 5056) : Nat)))) S) : Mw hX0_placesOf yX0_placesOf d [vA b, vA a, vI x] S Q := by
  subst hx
  obtain ⟨dd, rfl⟩ : ∃ e, d = e + 1 := ⟨d - 1, by omega⟩
  refine MX0_placesOf ?_
  unfold VX0_placesOf_0
  have := kf_places (d := dd) (by omega) h3 h7 hA hR hp ht h n (k := 0) (by omega)
  rw [upTo_0] at this
  exact ⟨_, this⟩
theorem eo_iff {n r a b : Nat} (h3 : 3 ≤ n) (h7 : n ≤ 7) (hr : r < fct n) (ha : a < n) (hb : b < n) (hab : a ≠ b) : eo n r = 2 ^ a ||| 2 ^ b ↔ (plc n r a = 0 ∧ plc n r b = n - 1) ∨ (plc n r b = 0 ∧ plc n r a = n - 1) := by
  have e : ∀ t, (eo n r).testBit t = (decide (rat n r 0 = t) || decide (rat n r (n - 1) = t)) := fun t => by
    unfold eo
    rw [Nat.testBit_or, Nat.testBit_two_pow, Nat.testBit_two_pow]
  have e2 : ∀ t, (2 ^ a ||| 2 ^ b).testBit t = (decide (a = t) || decide (b = t)) := fun t => by rw [Nat.testBit_or, Nat.testBit_two_pow, Nat.testBit_two_pow]
  have pa : ∀ t q, t < n → q < n → (plc n r t = q ↔ rat n r q = t) := fun t q ht hq => by
    constructor
    · intro k; rw [← k]; exact rat_plc h3 h7 hr ht
    · intro k; rw [← k]; exact plc_rat h3 h7 hr hq
  rw [pa a 0 ha (by omega), pa b (n - 1) hb (by omega), pa b 0 hb (by omega), pa a (n - 1) ha (by omega)]
  constructor
  · intro k
    have x1 := e a
    rw [k, e2] at x1
    have x2 := e b
    rw [k, e2] at x2
    simp at x1 x2
    rcases x1 with y1 | y1
    · rcases x2 with y2 | y2
      · omega
      · exact Or.inl ⟨y1, y2⟩
    · rcases x2 with y2 | y2
      · exact Or.inr ⟨y2, y1⟩
      · omega
  · intro k
    unfold eo
    rcases k with ⟨k1, k2⟩ | ⟨k1, k2⟩
    · rw [k1, k2]
    · rw [k1, k2, Nat.or_comm]
theorem k_mayEnd {d b n lo hi li a s t : Nat} {p : Nat → Bool} {S : MS} {Q : Out → MS → Prop} {x y : Int} (hd : 2 ≤ d) (h3 : 3 ≤ n) (h7 : n ≤ 7) (hA : AR S b n lo hi li) (hR : RS_ S a p) (hp : PS n p) (hx : x = (s : Int)) (hy : y = (t : Int)) (hs : s < n) (ht : t < n) (hst : s ≠ t) (h : ∀ q, BI q (enP n (lsR p 5056) s t = true) → Q (.inl (some (vI q))) S) : Mw hX0_mayEnd yX0_mayEnd d [vA b, vA a, vI x, vI y] S Q := by
  subst hx hy
  have ha := hp.a h3 h7
  have hW := Wn_le h3 h7
  have hf := fct_le h3 h7
  have a1 := hA.1.1
  have a3 := hA.1.2.2.1
  have key : enP n (lsR p 5056) s t = true ↔ (Me p (inR n fun r => decide (plc n r s = 0)) (inR n fun r => decide (plc n r t = n - 1)) ∨ Me p (inR n fun r => decide (plc n r t = 0)) (inR n fun r => decide (plc n r s = n - 1))) := by
    unfold enP enB Me inR
    rw [List.any_eq_true]
    constructor
    · rintro ⟨r, r1, r2⟩
      have m := hp.m r r1
      have e := (eo_iff h3 h7 m.1 hs ht hst).mp (of_decide_eq_true r2)
      rcases e with ⟨e1, e2⟩ | ⟨e1, e2⟩
      · exact Or.inl ⟨r, m.2, by simp [m.1, e1], by simp [m.1, e2]⟩
      · exact Or.inr ⟨r, m.2, by simp [m.1, e1], by simp [m.1, e2]⟩
    · rintro (⟨r, r1, r2, r3⟩ | ⟨r, r1, r2, r3⟩) <;> simp at r2 r3 <;> refine ⟨r, ?_, decide_eq_true ((eo_iff h3 h7 r2.1 hs ht hst).mpr ?_)⟩
      · unfold lsR; rw [List.mem_filter, List.mem_range]; exact ⟨by omega, r1⟩
      · exact Or.inl ⟨r2.2, r3.2⟩
      · unfold lsR; rw [List.mem_filter, List.mem_range]; exact ⟨by omega, r1⟩
      · exact Or.inr ⟨r2.2, r3.2⟩
  obtain ⟨dd, rfl⟩ : ∃ e, d = e + 1 := ⟨d - 1, by omega⟩
  refine MX0_mayEnd ?_
  unfold VX0_mayEnd_0
  unfold VX0_mayEnd_48
  refine ⟨a1, k_standing (p := 0) (by omega) hA rfl rfl hs (by omega) (fun e1 _ he1 => oA_i ⟨a1, a1, k_standing (p := n - 1) (by omega) hA rfl (by rw [a3]; omega) ht (by omega) (fun e2 _ he2 => oA_i ⟨hR.1.1, c_rMeetsB (by omega) hW.1 ha.2 hR he1 he2 (fun v hv => oI_i ⟨hv.r, fun c => ⟨b01_1, h _ (.y (key.mpr (Or.inl ?_)))⟩, fun c => ⟨a1, k_standing (p := 0) (by omega) hA rfl rfl ht (by omega) (fun e3 _ he3 => oA_i ⟨a1, a1, ?_⟩)⟩⟩)⟩)⟩)⟩
  · rcases hv with ⟨-, k⟩ | ⟨rfl, -⟩
    · exact k
    · exact absurd rfl c
  · have k1 : ¬ Me p (inR n fun r => decide (plc n r s = 0)) (inR n fun r => decide (plc n r t = n - 1)) := by
      rcases hv with ⟨rfl, -⟩ | ⟨-, k⟩
      · exact absurd c (by decide)
      · exact k
    refine k_standing (p := n - 1) (by omega) hA rfl (by rw [a3]; omega) hs (by omega) (fun e4 _ he4 => oA_i ⟨hR.1.1, c_rMeetsB (by omega) hW.1 ha.2 hR he3 he4 (fun v2 hv2 => oI_i ⟨hv2.r, fun c2 => ⟨b01_0, h _ (.n ?_)⟩, fun c2 => ⟨b01_1, h _ (.y (key.mpr (Or.inr ?_)))⟩⟩)⟩)
    · intro z
      rcases key.mp z with z | z
      · exact k1 z
      · rcases hv2 with ⟨rfl, -⟩ | ⟨-, k⟩
        · exact absurd c2 (by decide)
        · exact k z
    · rcases hv2 with ⟨-, k⟩ | ⟨rfl, -⟩
      · exact k
      · exact absurd rfl c2
