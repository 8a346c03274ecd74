/-! the class's own object -/
/-- the cells of a range stay -/
def Sm (lo hi : Nat) (S S' : MS) : Prop := ∀ a, lo ≤ a → a < hi → S'.K a = S.K a ∧ S'.N a = S.N a ∧ S'.I a = S.I a ∧ S'.J a = S.J a ∧ S'.R a = S.R a
theorem Sm.tr {lo hi : Nat} {S S1 S2 : MS} (f : Sm lo hi S S1) (g : Sm lo hi S1 S2) : Sm lo hi S S2 := fun a h h' => by
  obtain ⟨a1, a2, a3, a4, a5⟩ := f a h h'
  obtain ⟨b1, b2, b3, b4, b5⟩ := g a h h'
  exact ⟨b1.trans a1, b2.trans a2, b3.trans a3, b4.trans a4, b5.trans a5⟩
theorem Sm.wk {lo hi lo' hi' : Nat} {S S1 : MS} (f : Sm lo hi S S1) (h1 : lo ≤ lo') (h2 : hi' ≤ hi) : Sm lo' hi' S S1 := fun a h h' => f a (by omega) (by omega)
theorem Fi.sm {l h lo hi : Nat} {S S1 : MS} (f : Fi l h S S1) (hd : hi ≤ l ∨ h ≤ lo) : Sm lo hi S S1 := fun a h1 h2 => ⟨by rw [f.1], by rw [f.2.1], f.I (by omega), f.J (by omega), by rw [f.2.2.1]⟩
theorem Fo.sm {o lo hi : Nat} {S S1 : MS} (f : Fo o S S1) (hd : hi ≤ o) : Sm lo hi S S1 := fun a _ h2 => f.2 a (by omega)
theorem ss_sm {s n : Nat} {w : Nat → Int} {S S1 : MS} (f : Sm s (s+8) S S1) (h : SS S s n w) : SS S1 s n w := by
  have g := fun a (h1 : s ≤ a) (h2 : a < s + 8) => f a h1 h2
  have h0 := g s (by omega) (by omega)
  have h1 := g (s+1) (by omega) (by omega)
  have h2 := g (s+2) (by omega) (by omega)
  have h3 := g (s+3) (by omega) (by omega)
  have h4 := g (s+4) (by omega) (by omega)
  have h5 := g (s+5) (by omega) (by omega)
  have h6 := g (s+6) (by omega) (by omega)
  have h7 := g (s+7) (by omega) (by omega)
  unfold SS SY SW
  rw [h0.1, h0.2.2.2.2, h1.1, h2.1, h3.1, h4.1, h5.1, h6.1, h7.1, h1.2.1, h2.2.1, h3.2.1, h4.2.1, h5.2.1, h6.2.1, h7.2.1, h0.2.2.1, h1.2.2.1, h2.2.2.1, h3.2.2.1, h4.2.2.1, h5.2.2.1, h6.2.2.1, h7.2.2.1]
  exact h
theorem rs_sm {a : Nat} {p : Nat → Bool} {S S1 : MS} (f : Sm a (a+3) S S1) (h : RS_ S a p) : RS_ S1 a p := by
  have h0 := f a (by omega) (by omega)
  have h1 := f (a+1) (by omega) (by omega)
  have h2 := f (a+2) (by omega) (by omega)
  unfold RS_ RY RC
  rw [h0.1, h0.2.2.2.2, h1.1, h1.2.1, h2.1, h2.2.1, h1.2.2.2.1, h0.2.2.1, h2.2.2.1]
  exact h
theorem lvl_sm {lv lb : Nat} {S S1 : MS} (f : Sm lv (lv+1) S S1) (g : Sm lb (lb+120) S S1) (h : LVL S lv lb) : LVL S1 lv lb := by
  have h0 := f lv (by omega) (by omega)
  refine ⟨by rw [h0.1]; exact h.1, by rw [h0.2.1]; exact h.2.1, fun i hi => ⟨by rw [h0.2.2.2.2]; exact (h.2.2 i hi).1, ?_⟩⟩
  obtain ⟨q, hq⟩ := (h.2.2 i hi).2
  exact ⟨q, rs_sm (g.wk (by omega) (by omega)) hq⟩
theorem la_sm {e W lo hi : Nat} {q : Nat → Bool} {S S1 : MS} (f : Sm lo hi S S1) (he : lo ≤ e ∧ e < hi) (h : LA S e W q) : LA S1 e W q := by
  have h0 := f e he.1 he.2
  unfold LA
  rw [h0.1, h0.2.1, h0.2.2.2.1]
  exact h
theorem ly_sm {lo hi li y n k : Nat} {S S1 : MS} (f : Sm lo hi S S1) (a : LY S y n k lo hi li) : LY S1 y n k lo hi li := by
  obtain ⟨⟨a1, a2, a3, a4, a5⟩, ⟨c, b1, b2, b3, b4, b5, b6⟩, ⟨e, c1, c2, c3, c4, c5, c6⟩, ⟨g, d1, d2, d3, d4⟩, ⟨q, e1, e2, e3⟩⟩ := a
  have hy := f y a2.1 a2.2
  have hc := f c b2.1 b2.2
  have he := f e c2.1 c2.2
  have hg := f g d2.2.1 d2.2.2
  unfold LY
  rw [hy.1, hy.2.2.1, hy.2.2.2.2]
  refine ⟨⟨a1, a2, a3, a4, a5⟩, ⟨c, b1, b2, b3, by rw [hc.1]; exact b4, by rw [hc.2.1]; exact b5, by rw [hc.2.2.1]; exact b6⟩, ⟨e, c1, c2, c3, by rw [he.1]; exact c4, by rw [he.2.1]; exact c5, by rw [he.2.2.1]; exact c6⟩, ⟨g, d1, ⟨by rw [hg.1]; exact d2.1, d2.2⟩, by rw [hg.2.1]; exact d3, fun i hi j hj => ?_⟩, ⟨q, e1, e2, la_sm f e2 e3⟩⟩
  obtain ⟨v, v1, v2, v3⟩ := d4 i hi j hj
  exact ⟨v, by rw [hg.2.2.2.2]; exact v1, v2, la_sm f v2 v3⟩
theorem ar_sm {lo hi li b n : Nat} {S S1 : MS} (f : Sm lo hi S S1) (a : AR S b n lo hi li) : AR S1 b n lo hi li := by
  obtain ⟨⟨a1, a2, a3, a4, a5⟩, ⟨c, b1, b2, b3⟩, ⟨e, c1, c2, c3, c4, c5, c6⟩, ⟨d1, d2, d3, d4⟩, ⟨g, e1, e2, e3, e4⟩, ⟨q, f1, f2, f3, f4⟩, ⟨j, g1, g2, g3, g4⟩⟩ := a
  have hb := f b a2.1 a2.2
  have he := f e c2.1 c2.2
  have hl := f li d2.1 d2.2
  have hg := f g e2.2.1 e2.2.2
  have hq := f q f2.2.1 f2.2.2
  have hj := f j g2.2.1 g2.2.2
  unfold AR
  rw [hb.1, hb.2.2.1, hb.2.2.2.2]
  refine ⟨⟨a1, a2, a3, a4, a5⟩, ⟨c, b1, b2, la_sm f b2 b3⟩, ⟨e, c1, c2, c3, by rw [he.1]; exact c4, by rw [he.2.1]; exact c5, by rw [he.2.2.1]; exact c6⟩, ⟨d1, d2, by rw [hl.1]; exact d3, by rw [hl.2.1]; exact d4⟩, ⟨g, e1, ⟨by rw [hg.1]; exact e2.1, e2.2⟩, by rw [hg.2.1]; exact e3, fun t ht p hp => ?_⟩, ⟨q, f1, ⟨by rw [hq.1]; exact f2.1, f2.2⟩, by rw [hq.2.1]; exact f3, fun t ht p hp => ?_⟩, ⟨j, g1, ⟨by rw [hj.1]; exact g2.1, g2.2⟩, by rw [hj.2.1]; exact g3, fun k hk => ?_⟩⟩
  · obtain ⟨v, v1, v2, v3⟩ := e4 t ht p hp
    exact ⟨v, by rw [hg.2.2.2.2]; exact v1, v2, la_sm f v2 v3⟩
  · obtain ⟨v, v1, v2, v3⟩ := f4 t ht p hp
    exact ⟨v, by rw [hq.2.2.2.2]; exact v1, v2, la_sm f v2 v3⟩
  · obtain ⟨y, y1, y2⟩ := g4 k hk
    exact ⟨y, by rw [hj.2.2.2.2]; exact y1, ly_sm f y2⟩
/-- how the class's cells lie -/
def CX (S : MS) (x : Nat) : Prop := S.K x = 10 ∧ (S.R x 0 = some (x+1) ∧ S.R x 1 = some (x+2) ∧ S.R x 2 = some (x+12) ∧ S.R x 3 = some (x+20) ∧ S.R x 4 = some (x+28) ∧ S.R x 5 = some (x+29) ∧ S.R x 6 = some (x+47) ∧ S.R x 7 = some (x+50) ∧ S.R x 8 = some (x+51) ∧ S.R x 9 = some (x+52) ∧ S.R x 10 = some (x+53) ∧ S.R x 11 = some (x+55)) ∧ (S.K (x+1) = 4 ∧ S.R (x+1) 0 = some (x+2) ∧ S.R (x+1) 1 = some (x+4)) ∧ SY S (x+4) ∧ TY S (x+2) ∧ SY S (x+20) ∧ (S.K (x+28) = 17 ∧ S.N (x+28) = 5) ∧ FT S (x+29) ∧ (S.K (x+51) = 9 ∧ S.K (x+52) = 3) ∧ QY S (x+53) ∧ (S.K (x+55) = 13 ∧ S.N (x+55) = 33)
theorem CX.mv {x : Nat} {S S1 : MS} (h : CX S x) (k : ∀ a, x ≤ a → a < x + 176 → S1.K a = S.K a ∧ S1.N a = S.N a) (r : ∀ a, x ≤ a → a < x + 176 → a ≠ x + 28 → a ≠ x + 30 → S1.R a = S.R a) : CX S1 x := by
  have kk := fun a (h1 : x ≤ a) (h2 : a < x + 176) => (k a h1 h2).1
  have nn := fun a (h1 : x ≤ a) (h2 : a < x + 176) => (k a h1 h2).2
  unfold CX SY TY FT QY
  rw [r x (by omega) (by omega) (by omega) (by omega), r (x+1) (by omega) (by omega) (by omega) (by omega), r (x+4) (by omega) (by omega) (by omega) (by omega), r (x+2) (by omega) (by omega) (by omega) (by omega), r (x+20) (by omega) (by omega) (by omega) (by omega), r (x+29) (by omega) (by omega) (by omega) (by omega), r (x+53) (by omega) (by omega) (by omega) (by omega)]
  rw [kk x (by omega) (by omega), kk (x+1) (by omega) (by omega), kk (x+4) (by omega) (by omega), kk (x+4+1) (by omega) (by omega), kk (x+4+2) (by omega) (by omega), kk (x+4+3) (by omega) (by omega), kk (x+4+4) (by omega) (by omega), kk (x+4+5) (by omega) (by omega), kk (x+4+6) (by omega) (by omega), kk (x+4+7) (by omega) (by omega), kk (x+2) (by omega) (by omega), kk (x+2+1) (by omega) (by omega), kk (x+20) (by omega) (by omega), kk (x+20+1) (by omega) (by omega), kk (x+20+2) (by omega) (by omega), kk (x+20+3) (by omega) (by omega), kk (x+20+4) (by omega) (by omega), kk (x+20+5) (by omega) (by omega), kk (x+20+6) (by omega) (by omega), kk (x+20+7) (by omega) (by omega), kk (x+28) (by omega) (by omega), kk (x+29) (by omega) (by omega), kk (x+29+1) (by omega) (by omega), kk (x+51) (by omega) (by omega), kk (x+52) (by omega) (by omega), kk (x+53) (by omega) (by omega), kk (x+53+1) (by omega) (by omega), kk (x+55) (by omega) (by omega)]
  rw [nn (x+4+1) (by omega) (by omega), nn (x+4+2) (by omega) (by omega), nn (x+4+3) (by omega) (by omega), nn (x+4+4) (by omega) (by omega), nn (x+4+5) (by omega) (by omega), nn (x+4+6) (by omega) (by omega), nn (x+4+7) (by omega) (by omega), nn (x+2+1) (by omega) (by omega), nn (x+20+1) (by omega) (by omega), nn (x+20+2) (by omega) (by omega), nn (x+20+3) (by omega) (by omega), nn (x+20+4) (by omega) (by omega), nn (x+20+5) (by omega) (by omega), nn (x+20+6) (by omega) (by omega), nn (x+20+7) (by omega) (by omega), nn (x+28) (by omega) (by omega), nn (x+29+1) (by omega) (by omega), nn (x+53+1) (by omega) (by omega), nn (x+55) (by omega) (by omega)]
  exact h
/-- the worlds: each made one is all rows, and they lie apart -/
def WB (S : MS) (x : Nat) (B : Nat → Nat) : Prop := (∀ k, k < 5 → S.R (x+28) k = none ∨ (S.R (x+28) k = some (B k) ∧ x + 197 ≤ B k ∧ yk (k+3) (B k) 3 ≤ S.nx ∧ AR S (B k) (k+3) (B k) (yk (k+3) (B k) 3) (B k + 4))) ∧ ∀ k k', k < 5 → k' < 5 → k ≠ k' → S.R (x+28) k ≠ none → S.R (x+28) k' ≠ none → yk (k+3) (B k) 3 ≤ B k' ∨ yk (k'+3) (B k') 3 ≤ B k
def WL (S : MS) (x : Nat) : Prop := x + 197 ≤ S.nx ∧ ∃ B, WB S x B
/-- kept answers are right -/
def AN (S : MS) (x n : Nat) (L : List Nat) : Prop := (∀ k, k < 3 → S.I (x+55) k = -3 ∨ (S.I (x+55) k = ((wkA n k (-1) L).1 : Nat) ∧ S.I (x+55) (3 + k) = ((wkA n k (-1) L).2.1 : Nat) ∧ S.I (x+55) (6 + k) = (if (wkA n k (-1) L).2.2 then 1 else 0 : Int))) ∧ (∀ k, k < 3 → S.I (x+55) (9 + k) = -3 ∨ S.I (x+55) (9 + k) = fwF n k L 9 0 0) ∧ (∀ k, k < 3 → ∀ t, t < n → S.I (x+55) (12 + 7 * k + t) = -3 ∨ S.I (x+55) (12 + 7 * k + t) = ((wkA n k (t : Int) L).1 : Nat))
/-- if fresh, the rows left are the reference's -/
def FR (S : MS) (x n : Nat) (w : Nat → Int) : Prop := (S.I x 12 = 0 ∨ S.I x 12 = 1) ∧ (S.I x 12 = 1 → S.R (x+28) (n - 3) ≠ none ∧ (∃ p, RS_ S (x+47) p ∧ PS n p ∧ lsR p 5056 = rowsL n w 0) ∧ AN S x n (rowsL n w 0))
def CI (S : MS) (x n : Nat) (w : Nat → Int) : Prop := CX S x ∧ SS S (x+12) n w ∧ ((∃ p, RS_ S (x+47) p) ∧ LVL S (x+50) (x+56)) ∧ WL S x ∧ FR S x n w
/-- how much room may still be used by worlds -/
def wn0 (S : MS) (x : Nat) : Nat := cntB (fun k => (S.R (x+28) k).isNone) 5
def Pn (x : Nat) (S S' : MS) : Prop := S'.nx + 1000 * wn0 S' x ≤ S.nx + 1000 * wn0 S x ∧ S'.us + 100000 * wn0 S' x ≤ S.us + 100000 * wn0 S x
/-- a world, once made, stays -/
def Wm (x : Nat) (S S' : MS) : Prop := ∀ k b, S.R (x+28) k = some b → S'.R (x+28) k = some b
/-- what a question leaves -/
def CQ (x : Nat) (S S' : MS) : Prop := S'.T = S.T ∧ (∀ a, a < x + 47 → a ≠ x → S'.I a = S.I a) ∧ (∀ k, k ≠ 12 → S'.I x k = S.I x k) ∧ (∀ a, a < x + 197 → S'.K a = S.K a ∧ S'.N a = S.N a) ∧ (∀ a, x + 176 ≤ a → a < x + 197 → S'.I a = S.I a ∧ S'.J a = S.J a ∧ S'.R a = S.R a) ∧ Pn x S S' ∧ Wm x S S'
theorem CQ.rf {x : Nat} {S : MS} : CQ x S S := ⟨rfl, fun _ _ _ => rfl, fun _ _ => rfl, fun _ _ => ⟨rfl, rfl⟩, fun _ _ _ => ⟨rfl, rfl, rfl⟩, ⟨Nat.le_refl _, Nat.le_refl _⟩, fun _ _ h => h⟩
theorem CQ.tr {x : Nat} {S S1 S2 : MS} (f : CQ x S S1) (g : CQ x S1 S2) : CQ x S S2 := ⟨g.1.trans f.1, fun a h h' => (g.2.1 a h h').trans (f.2.1 a h h'), fun k h => (g.2.2.1 k h).trans (f.2.2.1 k h), fun a h => ⟨((g.2.2.2.1 a h).1).trans (f.2.2.2.1 a h).1, ((g.2.2.2.1 a h).2).trans (f.2.2.2.1 a h).2⟩, fun a h h' => ⟨((g.2.2.2.2.1 a h h').1).trans (f.2.2.2.2.1 a h h').1, ((g.2.2.2.2.1 a h h').2.1).trans (f.2.2.2.2.1 a h h').2.1, ((g.2.2.2.2.1 a h h').2.2).trans (f.2.2.2.2.1 a h h').2.2⟩, ⟨Nat.le_trans g.2.2.2.2.2.1.1 f.2.2.2.2.2.1.1, Nat.le_trans g.2.2.2.2.2.1.2 f.2.2.2.2.2.1.2⟩, fun k b h => g.2.2.2.2.2.2 k b (f.2.2.2.2.2.2 k b h)⟩
/-- made or looked at, no cell behind changes -/
def CR (x : Nat) (S S' : MS) : Prop := CQ x S S' ∧ Sm (x+197) S.nx S S' ∧ S.nx ≤ S'.nx
theorem CR.rf {x : Nat} {S : MS} : CR x S S := ⟨CQ.rf, fun _ _ _ => ⟨rfl, rfl, rfl, rfl, rfl⟩, Nat.le_refl _⟩
theorem CR.tr {x : Nat} {S S1 S2 : MS} (f : CR x S S1) (g : CR x S1 S2) : CR x S S2 := ⟨f.1.tr g.1, f.2.1.tr (g.2.1.wk (Nat.le_refl _) f.2.2), Nat.le_trans f.2.2 g.2.2⟩
theorem wn0_set {S : MS} {x k b : Nat} (hk : k < 5) (h : S.R (x+28) k = none) : wn0 (S.setR (x+28) k (some b)) x + 1 = wn0 S x := by
  have e : cntB (fun j => (S.R (x+28) j).isNone) 5 = cntB (fun j => ((S.setR (x+28) k (some b)).R (x+28) j).isNone || decide (j = k)) 5 := by
    refine cntB_cong (fun j _ => ?_)
    rw [sR_R]
    by_cases c : j = k
    · rw [if_pos ⟨rfl, c⟩, c, h]; simp
    · rw [if_neg (fun z => c z.2), decide_eq_false c, Bool.or_false]
  unfold wn0
  rw [e, cntB_upd _ hk, if_neg]
  rw [sR_R, if_pos ⟨rfl, rfl⟩]
  simp
theorem room_ok_ : ∀ n, n < 8 → (Nat.blt n 3 || (Nat.ble (yk n 0 3 + 1) 1000 && Nat.ble (9 + usA n + n) 100000)) = true := by decide +kernel
theorem yk_off {n b : Nat} : ∀ k, yk n b k = b + yk n 0 k
  | 0 => by show b + 7 + 2 * (n * n) = b + (0 + 7 + 2 * (n * n)); omega
  | k + 1 => by
    show yk n b k + 5 + _ = b + (yk n 0 k + 5 + _)
    rw [yk_off k]
    omega
theorem room_ok {n b : Nat} (h3 : 3 ≤ n) (h7 : n ≤ 7) : yk n b 3 + 1 ≤ b + 1000 ∧ 9 + usA n + n ≤ 100000 := by
  have := room_ok_ n (by omega)
  rw [show Nat.blt n 3 = false by cases e : Nat.blt n 3; rfl; have := Nat.le_of_ble_eq_true e; omega, Bool.false_or, Bool.and_eq_true] at this
  have a := Nat.le_of_ble_eq_true this.1
  have b' := Nat.le_of_ble_eq_true this.2
  rw [yk_off 3]
  omega
/-! all rows, made once -/
theorem k_allRows {d x n : Nat} {w : Nat → Int} {S : MS} {Q : Out → MS → Prop} (hd : 7 ≤ d) (hC : CI S x n w) (h : ∀ S' b, CI S' x n w → CR x S S' → (S'.R (x+28) (n - 3) = some b ∧ x + 197 ≤ b ∧ AR S' b n b (yk n b 3) (b + 4)) → Q (.inl (some (vA b))) S') : Mw hX10_allRows yX10_allRows d [vA x] S Q := by
  obtain ⟨hX, hS, ⟨hL, hV⟩, ⟨hx, B, hB, hD⟩, hF⟩ := hC
  have g0 := hS.2.2.1
  have i7 : S.I (x+12) 7 = (n : Int) := by rw [hS.2.1.1.1, g0.2.2]
  have hX' := hX
  obtain ⟨kx, ⟨r0, r1, r2, r3, r4, r5, r6, r7, r8, r9, r10, r11⟩, -, -, -, -, ⟨k28, n28⟩, -⟩ := hX
  have e : max (0 : Int) (min ((5 : Int) - 1) ((n : Int) - 3)) = ((n - 3 : Nat) : Int) := by omega
  obtain ⟨dd, rfl⟩ : ∃ e, d = e + 1 := ⟨d - 1, by omega⟩
  refine MX10_allRows ?_
  unfold VX10_allRows_0
  refine ⟨kx, x+28, r4, by rw [k28]; omega, kx, x+12, r2, hS.1.1, ?_⟩
  rw [i7, n28]
  show (R32 ((5 : Int) - 1) ∧ R32 ((n : Int) - 3)) ∧ _
  refine ⟨⟨(by unfold R32; omega), (by unfold R32; omega)⟩, ⟨(by unfold R32; omega), (by unfold R32; omega)⟩, kx, x+28, r4, ?_⟩
  rw [show (((5 : Nat) : Int) - 1) = (5 : Int) - 1 from rfl, e, Int.toNat_natCast]
  refine ⟨⟨k28, by omega, by omega, by rw [n28]; omega⟩, fun hz => ?_, fun b hb => ?_⟩
  · -- made now
    have kb : (S.mk 0 9).K S.nx = 0 := by rw [mkK_ rfl, if_pos rfl]
    have f0 : Fo S.nx S (S.mk 0 9) := Fo.mk (Nat.le_refl _)
    refine k_init0 (b := S.nx) (by omega) g0.1 g0.2.1 (by omega) kb rfl (fun S5 f5 B5 Y5 x5 u5 => oV_i ⟨B5.1.1, ?_⟩)
    refine k_fillA (by omega) g0.1 g0.2.1 B5 Y5 x5 (fun S6 f6 A6 x6 u6 => oV_i ?_)
    have F6 : Fo S.nx S S6 := f0.tr (f5.tr (f6.wk (by omega)))
    have u0 : (S.mk 0 9).us = S.us + 9 := rfl
    have ro := room_ok (n := n) (b := S.nx) g0.1 g0.2.1
    have g6 := fun a (ha : a < S.nx) => F6.2 a ha
    have r46 : S6.R x 4 = some (x+28) := by rw [(g6 x (by omega)).2.2.2.2]; exact r4
    refine ⟨by rw [(g6 x (by omega)).1]; exact kx, x+28, r46, ⟨by rw [(g6 (x+28) (by omega)).1]; exact k28, A6.1.1, by omega, by rw [(g6 (x+28) (by omega)).2.1, n28]; omega⟩, fun S8 e8 => ?_⟩
    have R6 : S6.R (x+28) (n-3) = none := by rw [(g6 (x+28) (by omega)).2.2.2.2]; exact hz
    have s8 : Sm 0 (x+28) S S8 := fun a _ h2 => by
      obtain ⟨a1, a2, a3, a4, a5⟩ := g6 a (by omega)
      rw [e8]
      exact ⟨a1, a2, a3, a4, by rw [sR_Ra (by omega)]; exact a5⟩
    have t8 : Sm (x+29) S.nx S S8 := fun a h1 h2 => by
      obtain ⟨a1, a2, a3, a4, a5⟩ := g6 a (by omega)
      rw [e8]
      exact ⟨a1, a2, a3, a4, by rw [sR_Ra (by omega)]; exact a5⟩
    have R8 : ∀ k, S8.R (x+28) k = if k = n - 3 then some S.nx else S.R (x+28) k := fun k => by
      rw [e8, sR_R, (g6 (x+28) (by omega)).2.2.2.2]
      by_cases c : k = n - 3
      · rw [if_pos ⟨rfl, c⟩, if_pos c]
      · rw [if_neg (fun z => c z.2), if_neg c]
    have I8 : ∀ a, a < S.nx → S8.I a = S.I a ∧ S8.J a = S.J a ∧ S8.K a = S.K a ∧ S8.N a = S.N a := fun a ha => by
      obtain ⟨a1, a2, a3, a4, a5⟩ := g6 a ha
      rw [e8]
      exact ⟨a3, a4, a1, a2⟩
    have A8 : AR S8 S.nx n S.nx (yk n S.nx 3) (S.nx + 4) := by rw [e8]; exact ar_setR (by omega) A6
    have x8 : S8.nx = yk n S.nx 3 + 1 := by rw [e8]; exact x6
    have yg := yk_ge (n := n) (b := S.nx) 3
    have n3 : n - 3 + 3 = n := by omega
    unfold VX10_allRows_57
    refine h S8 S.nx ⟨hX'.mv (fun a _ h2 => ⟨(I8 a (by omega)).2.2.1, (I8 a (by omega)).2.2.2⟩) (fun a _ h2 h4 h5 => ?_), ss_sm (s8.wk (by omega) (by omega)) hS, ⟨?_, lvl_sm (t8.wk (by omega) (by omega)) (t8.wk (by omega) (by omega)) hV⟩, ⟨by omega, fun k => if k = n - 3 then S.nx else B k, fun k hk => ?_, fun k k' hk hk' hkk n1 n2 => ?_⟩, ?_, fun hf => ?_⟩ ⟨⟨?_, fun a h1 _ => (I8 a (by omega)).1, fun k _ => by rw [(I8 x (by omega)).1], fun a h1 => ⟨(I8 a (by omega)).2.2.1, (I8 a (by omega)).2.2.2⟩, fun a h1 h2 => ⟨(I8 a (by omega)).1, (I8 a (by omega)).2.1, (t8 a (by omega) (by omega)).2.2.2.2⟩, ?_, fun k b' hb' => by rw [R8, if_neg (fun z => by rw [z, hz] at hb'; cases hb')]; exact hb'⟩, t8.wk (by omega) (Nat.le_refl _), by omega⟩ ⟨by rw [R8, if_pos rfl], by omega, A8⟩
    · by_cases c : a < x + 28
      · exact (s8 a (by omega) c).2.2.2.2
      · exact (t8 a (by omega) (by omega)).2.2.2.2
    · obtain ⟨p, hp⟩ := hL
      exact ⟨p, rs_sm (t8.wk (by omega) (by omega)) hp⟩
    · rw [R8]
      dsimp only
      by_cases c : k = n - 3
      · rw [if_pos c, if_pos c, c, n3]
        exact Or.inr ⟨rfl, by omega, by omega, A8⟩
      · rw [if_neg c, if_neg c]
        rcases hB k hk with g | ⟨g1, g2, g4, g5⟩
        · exact Or.inl g
        · exact Or.inr ⟨g1, g2, by omega, ar_sm (t8.wk (by omega) (by omega)) g5⟩
    · rw [R8] at n1 n2
      dsimp only
      by_cases c : k = n - 3
      · have c' : k' ≠ n - 3 := by omega
        rw [if_neg c'] at n2
        rw [if_pos c, if_neg c', c, n3]
        rcases hB k' hk' with g | ⟨g1, g2, g4, g5⟩
        · exact absurd g n2
        · exact Or.inr g4
      · rw [if_neg c] at n1
        rw [if_neg c]
        by_cases c' : k' = n - 3
        · rw [if_pos c', c', n3]
          rcases hB k hk with g | ⟨g1, g2, g4, g5⟩
          · exact absurd g n1
          · exact Or.inl g4
        · rw [if_neg c'] at n2
          rw [if_neg c']
          exact hD k k' hk hk' hkk n1 n2
    · rw [(I8 x (by omega)).1]; exact hF.1
    · rw [(I8 x (by omega)).1] at hf
      exact absurd hz (hF.2 hf).1
    · rw [e8]; exact F6.1
    · have w8 : wn0 S8 x + 1 = wn0 S6 x := by rw [e8]; exact wn0_set (by omega) R6
      have w6 : wn0 S6 x = wn0 S x := by unfold wn0; rw [(g6 (x+28) (by omega)).2.2.2.2]
      have u8 : S8.us = S6.us := by rw [e8]; rfl
      unfold Pn
      omega
  · -- there already
    rcases hB (n - 3) (by omega) with g | ⟨g1, g2, g4, g5⟩
    · rw [g] at hb; cases hb
    · rw [g1] at hb
      cases hb
      rw [show n - 3 + 3 = n by omega] at g4 g5
      unfold VX10_allRows_57
      exact h S _ ⟨hX', hS, ⟨hL, hV⟩, ⟨hx, B, hB, hD⟩, hF⟩ CR.rf ⟨g1, g2, g5⟩
