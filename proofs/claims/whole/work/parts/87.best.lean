/-! as even as can be -/
def phS (g : Nat → Nat) (l : Int) : Nat → Int
  | 0 => 0
  | m + 1 => phS g l m + ((g m : Int) - l) * ((g m : Int) - l - 1)
theorem ph_1 (a l : Int) : (a - l) * (a - l - 1) = a * a - (2 * l + 1) * a + l * (l + 1) := by
  have e1 : (a - l) * (a - l - 1) = a * a - l * a - (l * a - l * l) - (a - l) := by
    rw [Int.mul_sub, Int.mul_one, Int.sub_mul, Int.mul_sub, Int.mul_sub, Int.mul_comm a l]
  have e2 : (2 * l + 1) * a = 2 * (l * a) + a := by rw [Int.add_mul, Int.mul_assoc, Int.one_mul]
  have e3 : l * (l + 1) = l * l + l := by rw [Int.mul_add, Int.mul_one]
  omega
theorem ph_0 (a l : Int) : 0 ≤ (a - l) * (a - l - 1) := by
  rcases Int.le_total (a - l) 0 with c | c
  · have := Int.mul_nonneg (show 0 ≤ -(a - l) by omega) (show 0 ≤ -(a - l - 1) by omega)
    rw [Int.neg_mul_neg] at this
    exact this
  · by_cases g : a - l = 0
    · rw [g, Int.zero_mul]; exact Int.le_refl _
    · exact Int.mul_nonneg c (by omega)
theorem ph_z {a l : Int} (h : (a - l) * (a - l - 1) = 0) : a = l ∨ a = l + 1 := by
  rcases Int.mul_eq_zero.mp h with c | c
  · exact Or.inl (by omega)
  · exact Or.inr (by omega)
theorem phS_eq (g : Nat → Nat) (l : Int) : ∀ m : Nat, phS g l m = ((smB (fun j => g j * g j) m : Nat) : Int) - (2 * l + 1) * ((smB g m : Nat) : Int) + (m : Int) * (l * (l + 1))
  | 0 => by
    show (0 : Int) = (0 : Int) - (2 * l + 1) * (0 : Int) + (0 : Int) * (l * (l + 1))
    rw [Int.mul_zero, Int.zero_mul]
    rfl
  | m + 1 => by
    show phS g l m + _ = ((smB (fun j => g j * g j) m + g m * g m : Nat) : Int) - (2 * l + 1) * ((smB g m + g m : Nat) : Int) + ((m + 1 : Nat) : Int) * (l * (l + 1))
    rw [phS_eq g l m, ph_1]
    have e1 : (((smB (fun j => g j * g j) m + g m * g m : Nat)) : Int) = ((smB (fun j => g j * g j) m : Nat) : Int) + (g m : Int) * (g m : Int) := by push_cast; rfl
    have e2 : (2 * l + 1) * ((smB g m + g m : Nat) : Int) = (2 * l + 1) * ((smB g m : Nat) : Int) + (2 * l + 1) * (g m : Int) := by
      rw [← Int.mul_add]
      push_cast
      rfl
    have e3 : ((m + 1 : Nat) : Int) * (l * (l + 1)) = (m : Int) * (l * (l + 1)) + l * (l + 1) := by
      rw [show ((m + 1 : Nat) : Int) = (m : Int) + 1 by omega, Int.add_mul, Int.one_mul]
    rw [e1, e2, e3]
    omega
theorem phS_0 (g : Nat → Nat) (l : Int) : ∀ m, 0 ≤ phS g l m
  | 0 => Int.le_refl _
  | m + 1 => by
    have a := phS_0 g l m
    have b := ph_0 (g m : Int) l
    show 0 ≤ phS g l m + _
    omega
theorem phS_z {g : Nat → Nat} {l : Int} : ∀ {m : Nat}, phS g l m ≤ 0 → ∀ j, j < m → (g j : Int) = l ∨ (g j : Int) = l + 1
  | 0, _, j, hj => absurd hj (Nat.not_lt_zero j)
  | m + 1, h, j, hj => by
    have h' : phS g l m + ((g m : Int) - l) * ((g m : Int) - l - 1) ≤ 0 := h
    have a := phS_0 g l m
    have b := ph_0 (g m : Int) l
    by_cases c : j = m
    · subst c
      exact ph_z (by omega)
    · exact phS_z (m := m) (by omega) j (by omega)
/-- the evenest spread -/
def evn (s p : Nat) : Nat := (s - s / p * p) * (s / p + 1) * (s / p + 1) + (p - (s - s / p * p)) * (s / p) * (s / p)
theorem evn_eq {s p : Nat} (hp : 0 < p) : ((evn s p : Nat) : Int) = (2 * ((s / p : Nat) : Int) + 1) * (s : Int) - (p : Int) * (((s / p : Nat) : Int) * (((s / p : Nat) : Int) + 1)) := by
  have h1 : s / p * p ≤ s := Nat.div_mul_le_self s p
  have h2 : s - s / p * p < p := by
    have := Nat.mod_lt s hp
    have e := Nat.div_add_mod s p
    rw [Nat.mul_comm] at e
    omega
  unfold evn
  generalize hl : s / p = l at *
  obtain ⟨r, hr⟩ : ∃ r, s = l * p + r := ⟨s - l * p, by omega⟩
  subst hr
  rw [show l * p + r - l * p = r by omega] at h2 ⊢
  obtain ⟨q, hq⟩ : ∃ q, p = r + q := ⟨p - r, by omega⟩
  rw [show p - r = q by omega]
  push_cast
  rw [hq]
  push_cast
  generalize (l : Int) = L
  generalize (r : Int) = R
  generalize (q : Int) = T
  have a1 : R * (L + 1) * (L + 1) = R * L * L + 2 * (R * L) + R := by
    rw [Int.mul_add, Int.mul_one, Int.mul_add, Int.mul_one, Int.add_mul]
    omega
  have a2 : (2 * L + 1) * (L * (R + T) + R) = 2 * (R * L * L) + 2 * (T * L * L) + 2 * (R * L) + (R * L + T * L) + R := by
    have b1 : L * (R + T) = R * L + T * L := by rw [Int.mul_add, Int.mul_comm L R, Int.mul_comm L T]
    have b2 : L * (R * L + T * L + R) = R * L * L + T * L * L + R * L := by
      rw [Int.mul_add, Int.mul_add, Int.mul_comm L (R * L), Int.mul_comm L (T * L), Int.mul_comm L R]
    rw [b1, Int.add_mul, Int.one_mul, Int.mul_assoc, b2]
    omega
  have a3 : (R + T) * (L * (L + 1)) = R * L * L + R * L + (T * L * L + T * L) := by
    rw [Int.mul_add, Int.mul_one, Int.mul_add, Int.add_mul, Int.add_mul, Int.mul_assoc, Int.mul_assoc]
    omega
  omega
theorem evn_sm {s p : Nat} (h2 : 2 ≤ p) (h4 : p < 5) (hs : s ≤ 5040) : evn s p < 100000000 := by
  have h1 : s / p * p ≤ s := Nat.div_mul_le_self s p
  have e := Nat.div_add_mod s p
  have hm := Nat.mod_lt s (show 0 < p by omega)
  rw [Nat.mul_comm] at e
  have hl : s / p ≤ 2520 := by
    have := Nat.div_le_div_left h2 (show 0 < 2 by decide) (a := s)
    omega
  unfold evn
  generalize s / p = l at *
  have a : (s - l * p) * (l + 1) * (l + 1) ≤ 5 * 2521 * 2521 := Nat.mul_le_mul (Nat.mul_le_mul (by omega) (by omega)) (by omega)
  have b : (p - (s - l * p)) * l * l ≤ 5 * 2521 * 2521 := Nat.mul_le_mul (Nat.mul_le_mul (by omega) (by omega)) (by omega)
  omega
theorem sm_ge {g : Nat → Nat} {l : Nat} : ∀ {m : Nat}, (∀ j, j < m → l ≤ g j) → m * l ≤ smB g m ∧ ((∃ u, u < m ∧ l < g u) → m * l + 1 ≤ smB g m)
  | 0, _ => ⟨by omega, fun ⟨u, h, _⟩ => absurd h (Nat.not_lt_zero u)⟩
  | m + 1, h => by
    have ih := sm_ge (g := g) (l := l) (m := m) (fun j hj => h j (by omega))
    have e : (m + 1) * l = m * l + l := by rw [Nat.add_mul, Nat.one_mul]
    have s : smB g (m + 1) = smB g m + g m := rfl
    have hm := h m (by omega)
    refine ⟨by omega, ?_⟩
    rintro ⟨u, u1, u2⟩
    by_cases c : u = m
    · subst c; omega
    · have := ih.2 ⟨u, by omega, u2⟩
      omega
/-- what parts evenly is not beaten -/
theorem even_best {g f : Nat → Nat} {s p : Nat} (hp : 0 < p) (hg : smB g p = s) (hf : smB f p = s) (he : smB (fun j => g j * g j) p ≤ evn s p) : mxB g p ≤ mxB f p ∧ smB (fun j => g j * g j) p ≤ smB (fun j => f j * f j) p := by
  have q1 := phS_eq g ((s / p : Nat) : Int) p
  have q2 := phS_eq f ((s / p : Nat) : Int) p
  have q3 := evn_eq (s := s) hp
  have z2 := phS_0 f ((s / p : Nat) : Int) p
  rw [hg] at q1
  rw [hf] at q2
  refine ⟨?_, by omega⟩
  have z := phS_z (g := g) (l := ((s / p : Nat) : Int)) (m := p) (by omega)
  have gl : ∀ j, j < p → s / p ≤ g j := fun j hj => by rcases z j hj with c | c <;> omega
  have fs : smB f p ≤ p * mxB f p := smB_le (fun k hk => mxB_ge hk)
  obtain ⟨u, u1, u2⟩ := mxB_at (g := g) hp
  have ge := sm_ge gl
  rcases Nat.lt_or_ge (mxB f p) (mxB g p) with c | c
  · exfalso
    rcases z u u1 with e | e
    · have : p * mxB f p ≤ p * (s / p - 1) := Nat.mul_le_mul_left p (by omega)
      have k : p * (s / p - 1) + p = p * (s / p) := by
        obtain ⟨v, hv⟩ : ∃ v, s / p = v + 1 := ⟨s / p - 1, by omega⟩
        rw [hv, Nat.mul_add, Nat.mul_one, Nat.add_sub_cancel]
      have := ge.1
      omega
    · have : p * mxB f p ≤ p * (s / p) := Nat.mul_le_mul_left p (by omega)
      have := ge.2 ⟨u, u1, by omega⟩
      omega
  · exact c
theorem k_even {d y n k lo hi li s : Nat} {S : MS} {Q : Out → MS → Prop} {x : Int} (hd : 1 ≤ d) (hx : x = (s : Int)) (hs : s ≤ 5040) (hY : LY S y n k lo hi li) (h : Q (.inl (some (vI (evn s (pansK k) : Nat)))) S) : Mw hX2_evenSpread yX2_evenSpread d [vA y, vI x] S Q := by
  subst hx
  have a1 := hY.1.1
  have pk : 2 ≤ pansK k ∧ pansK k < 5 := by unfold pansK; split <;> (try split) <;> omega
  obtain ⟨dd, rfl⟩ : ∃ e, d = e + 1 := ⟨d - 1, by omega⟩
  refine MX2_evenSpread ?_
  unfold VX2_evenSpread_0
  unfold VX2_evenSpread_17
  rw [hY.1.2.2.1, iDiv_n (by omega) (by omega)]
  have h1 : s / pansK k * pansK k ≤ s := Nat.div_mul_le_self s _
  have h2 : s - s / pansK k * pansK k < pansK k := by
    have := Nat.mod_lt s (show 0 < pansK k by omega)
    have e := Nat.div_add_mod s (pansK k)
    rw [Nat.mul_comm] at e
    omega
  refine ⟨a1, (by unfold R32; omega), fun c => by omega, fun c => ⟨a1, ⟨(by unfold R32; omega), by omega⟩, a1, a1, ?_⟩⟩
  unfold evn at h
  generalize hl : s / pansK k = l at *
  have e1 : (s : Int) - (l : Int) * ((pansK k : Nat) : Int) = ((s - l * pansK k : Nat) : Int) := by
    rw [Int.ofNat_sub h1]; push_cast; rfl
  have e2 : ((pansK k : Nat) : Int) - ((s - l * pansK k : Nat) : Int) = ((pansK k - (s - l * pansK k) : Nat) : Int) := by omega
  rw [e1, e2]
  have e3 : (((s - l * pansK k) * (l + 1) * (l + 1) + (pansK k - (s - l * pansK k)) * l * l : Nat) : Int) = ((s - l * pansK k : Nat) : Int) * ((l : Int) + 1) * ((l : Int) + 1) + ((pansK k - (s - l * pansK k) : Nat) : Int) * (l : Int) * (l : Int) := by
    rw [Int.natCast_add, Int.natCast_mul, Int.natCast_mul, Int.natCast_mul, Int.natCast_mul]
    rfl
  rw [e3] at h
  exact h
/-- how far the search for the next one has come -/
def Bst (n k : Nat) (L : List Nat) (i : Nat) (v : Int) (A : Int × Nat × Nat) : Prop := (v = -1 ∧ i = 0 ∧ A = (-1, 0, 0)) ∨ ∃ f, f < (cmb n n (pansK k)).length ∧ v = (f : Int) ∧ A = ((((cmb n n (pansK k)).getD f 0 : Nat) : Int), wst n k ((cmb n n (pansK k)).getD f 0) L, spr n k ((cmb n n (pansK k)).getD f 0) L)
def fld (n k : Nat) (L : List Nat) (i : Nat) : Int × Nat × Nat := ((cmb n n (pansK k)).take i).foldl (nxS n k L) (-1, 0, 0)
theorem fld_s {n k i : Nat} {L : List Nat} (h : i < (cmb n n (pansK k)).length) : fld n k L (i + 1) = nxS n k L (fld n k L i) ((cmb n n (pansK k)).getD i 0) := by
  unfold fld
  rw [take_s h, List.foldl_append]
  rfl
theorem fld_n {n k : Nat} {L : List Nat} : fld n k L (cmb n n (pansK k)).length = nxF n k L := by
  unfold fld nxF
  rw [List.take_length]
theorem fld_stop {n k i f : Nat} {L : List Nat} (h3 : 3 ≤ n) (h7 : n ≤ 7) (hk : k < 3) (hL : ∀ r ∈ L, r < fct n) (hf : f < (cmb n n (pansK k)).length) (hA : fld n k L i = ((((cmb n n (pansK k)).getD f 0 : Nat) : Int), wst n k ((cmb n n (pansK k)).getD f 0) L, spr n k ((cmb n n (pansK k)).getD f 0) L)) (he : spr n k ((cmb n n (pansK k)).getD f 0) L ≤ evn L.length (pansK k)) : ∀ j, i + j ≤ (cmb n n (pansK k)).length → fld n k L (i + j) = fld n k L i := by
  have pk : 0 < pansK k := by unfold pansK; split <;> (try split) <;> omega
  intro j
  induction j with
  | zero => intro _; rfl
  | succ j ih =>
    intro hj
    have hi' : i + j < (cmb n n (pansK k)).length := by omega
    rw [show i + (j + 1) = i + j + 1 by omega, fld_s hi', ih (by omega), hA]
    have c1 := (cmb_k (kn := k) h7).2 _ (getD_mem hf)
    have c2 := (cmb_k (kn := k) h7).2 _ (getD_mem hi')
    have e1 := enum_all (n := n) (kn := k) (L := L) h3 h7 hk c1.1 c1.2 hL
    have e2 := enum_all (n := n) (kn := k) (L := L) h3 h7 hk c2.1 c2.2 hL
    have b := even_best (s := L.length) pk e1.2.2.symm e2.2.2.symm (by have := e1.2.1; unfold sqs at this; rw [← this]; exact he)
    have b1 : wst n k ((cmb n n (pansK k)).getD f 0) L ≤ wst n k ((cmb n n (pansK k)).getD (i + j) 0) L := by rw [e1.1, e2.1]; exact b.1
    have b2 : spr n k ((cmb n n (pansK k)).getD f 0) L ≤ spr n k ((cmb n n (pansK k)).getD (i + j) 0) L := by rw [e1.2.1, e2.2.1]; exact b.2
    unfold nxS
    exact if_pos ⟨Int.natCast_nonneg _, by show wst n k ((cmb n n (pansK k)).getD f 0) L < wst n k ((cmb n n (pansK k)).getD (i + j) 0) L ∨ (wst n k ((cmb n n (pansK k)).getD (i + j) 0) L = wst n k ((cmb n n (pansK k)).getD f 0) L ∧ spr n k ((cmb n n (pansK k)).getD f 0) L ≤ spr n k ((cmb n n (pansK k)).getD (i + j) 0) L); omega⟩
theorem kf_best {d y n k lo hi li a : Nat} {p : Nat → Bool} {Q : Out → MS → Prop} (hd : 3 ≤ d) (h3 : 3 ≤ n) (h7 : n ≤ 7) (hk : k < 3) : ∀ (q : Nat) {S : MS} {i : Nat} {v : Int} {w s : Nat}, i + q = (cmb n n (pansK k)).length → LY S y n k lo hi li → S.K li = 13 → HR S a n lo p → Bst n k (lsR p 5056) i v (fld n k (lsR p 5056) i) → w = (fld n k (lsR p 5056) i).2.1 → s = (fld n k (lsR p 5056) i).2.2 → (∀ S' v, Fi y (y+1) S S' → Fz lo hi li S S' → Bst n k (lsR p 5056) (cmb n n (pansK k)).length v (nxF n k (lsR p 5056)) → S'.I y 2 = ((nxF n k (lsR p 5056)).2.1 : Nat) → S'.I y 3 = ((nxF n k (lsR p 5056)).2.2 : Nat) → Q (.inl (some (vI v))) S') → VX2_best_20 d Q (q + 1) y a v (evn (lsR p 5056).length (pansK k) : Nat) (w : Nat) (s : Nat) (i : Nat) S := by
  intro q
  have pk : 2 ≤ pansK k ∧ pansK k < 5 := by unfold pansK; split <;> (try split) <;> omega
  have ck := (cmb_k (kn := k) h7).1
  have fin : ∀ {S : MS} {v : Int} {i : Nat}, LY S y n k lo hi li → Bst n k (lsR p 5056) i v (fld n k (lsR p 5056) i) → (i = 0 → i = (cmb n n (pansK k)).length) → fld n k (lsR p 5056) i = nxF n k (lsR p 5056) → (∀ S' v, Fi y (y+1) S S' → Fz lo hi li S S' → Bst n k (lsR p 5056) (cmb n n (pansK k)).length v (nxF n k (lsR p 5056)) → S'.I y 2 = ((nxF n k (lsR p 5056)).2.1 : Nat) → S'.I y 3 = ((nxF n k (lsR p 5056)).2.2 : Nat) → Q (.inl (some (vI v))) S') → VX2_best_113 d Q y v ((fld n k (lsR p 5056) i).2.1 : Nat) ((fld n k (lsR p 5056) i).2.2 : Nat) S := by
    intro S v i hY hB h0 e h
    have a1 := hY.1.1
    unfold VX2_best_113
    rw [e] at hB ⊢
    refine ⟨a1, a1, h _ v ((Fi.sI (by omega)).tr (Fi.sI (by omega))) ((Fz.sy a1 (Or.inl rfl)).tr (Fz.sy (by exact a1) (Or.inr rfl))) ?_ (by rw [sI_I, if_neg (by omega), sI_I, if_pos ⟨rfl, rfl⟩]) (by rw [sI_I, if_pos ⟨rfl, rfl⟩])⟩
    rcases hB with ⟨b1, b2, b3⟩ | b
    · exact Or.inl ⟨b1, by have := h0 b2; omega, b3⟩
    · exact Or.inr b
  induction q with
  | zero =>
    intro S i v w s hi hY hK hR hB hw hs h
    have a1 := hY.1.1
    obtain ⟨c, b1, b2, b3, b4, b5, b6⟩ := hY.2.1
    have hl := And.intro a1 (And.intro b1 (And.intro b4 b5))
    subst hw hs
    have := fin hY hB (fun _ => by omega) (by rw [show i = (cmb n n (pansK k)).length by omega]; exact fld_n) h
    unfold VX2_best_20
    simp only [hl, sI_K, sI_N, sI_R, sI_J, sJ_K, sJ_N, sJ_R, sJ_I, sR_K, sR_N, sR_I, sR_J, Option.some.injEq, exists_eq_left', true_and, and_true, and_self_left, Int.toNat_natCast, Int.toNat_zero, Int.reduceToNat, Int.reduceLT, Int.reduceLE, Nat.reduceLeDiff, Nat.reduceLT, Int.cast_ofNat_Int, forall_eq, ge_iff_le, Int.reduceNeg, Int.reduceAdd, Int.reduceSub, Int.reduceMul, Int.reduceEq, r32_0, r32_1, r32_m1, b01_0, b01_1, not_true_eq_false, not_false_eq_true, false_implies, true_implies, implies_true, forall_const]
    exact ⟨⟨(by unfold R32; omega), (by unfold R32; omega)⟩, fun _ => this, fun c => by omega⟩
  | succ q ih =>
    intro S i v w s hi hY hK hR hB hw hs h
    have a1 := hY.1.1
    have yl := hY.1.2.1
    have ll := ls_len h3 h7 hR.2.1
    have hm := hR.2.1.m
    have hi' : i < (cmb n n (pansK k)).length := by omega
    obtain ⟨c, b1, b2, b3, b4, b5, b6⟩ := hY.2.1
    have hl := And.intro a1 (And.intro b1 (And.intro b4 b5))
    have ev := evn_sm pk.1 pk.2 ll
    have wx := wst_le n k ((cmb n n (pansK k)).getD i 0) (lsR p 5056)
    have sx := spr_le (n := n) (kn := k) (x := (cmb n n (pansK k)).getD i 0) ll
    have wl : w ≤ 5040 ∧ s ≤ 177811200 := by
      rcases hB with ⟨-, -, e⟩ | ⟨f, -, -, e⟩
      · rw [e] at hw hs
        have hw' : w = 0 := hw
        have hs' : s = 0 := hs
        omega
      · rw [e] at hw hs
        have hw' : w = wst n k ((cmb n n (pansK k)).getD f 0) (lsR p 5056) := hw
        have hs' : s = spr n k ((cmb n n (pansK k)).getD f 0) (lsR p 5056) := hs
        have := wst_le n k ((cmb n n (pansK k)).getD f 0) (lsR p 5056)
        have := spr_le (n := n) (kn := k) (x := (cmb n n (pansK k)).getD f 0) ll
        omega
    have vr : R32 v := by
      rcases hB with ⟨e, -⟩ | ⟨f, f1, e, -⟩
      · rw [e]; exact r32_m1
      · rw [e]; exact (by unfold R32; omega)
    have fs := fld_s (L := lsR p 5056) hi'
    have step : VX2_best_41 d (VX2_best_20 d Q (q + 1)) Q y a v (evn (lsR p 5056).length (pansK k) : Nat) (w : Nat) (s : Nat) (i : Nat) S := by
      unfold VX2_best_41
      refine ⟨a1, k_measure hd h3 h7 hk hi' rfl hY hK hR (fun S1 F Z m2 m3 => oV_i ?_)⟩
      have k1 : S1.K y = 2 := by rw [F.1]; exact a1
      have go : ∀ {v' : Int} {w' s' : Nat}, Bst n k (lsR p 5056) (i + 1) v' (fld n k (lsR p 5056) (i + 1)) → w' = (fld n k (lsR p 5056) (i + 1)).2.1 → s' = (fld n k (lsR p 5056) (i + 1)).2.2 → VX2_best_20 d Q (q + 1) y a v' (evn (lsR p 5056).length (pansK k) : Nat) (w' : Nat) (s' : Nat) ((i : Int) + 1) S1 := by
        intro v' w' s' z1 z2 z3
        exact ih (i := i + 1) (by omega) (Z.ly hK hY) (by rw [F.1]; exact hK) ⟨F.rs (by have := hR.2.2; omega) hR.1, hR.2⟩ z1 z2 z3 (fun S' v f z => h S' v (F.tr f) (Z.tr z))
      have take : ¬ (0 ≤ (fld n k (lsR p 5056) i).1 ∧ ((fld n k (lsR p 5056) i).2.1 < wst n k ((cmb n n (pansK k)).getD i 0) (lsR p 5056) ∨ (wst n k ((cmb n n (pansK k)).getD i 0) (lsR p 5056) = (fld n k (lsR p 5056) i).2.1 ∧ (fld n k (lsR p 5056) i).2.2 ≤ spr n k ((cmb n n (pansK k)).getD i 0) (lsR p 5056)))) → VX2_best_92 d (VX2_best_20 d Q (q + 1)) Q y a (evn (lsR p 5056).length (pansK k) : Nat) (i : Nat) S1 := by
        intro z
        unfold VX2_best_92 VX2_best_107
        rw [m2, m3]
        have e : fld n k (lsR p 5056) (i + 1) = ((((cmb n n (pansK k)).getD i 0 : Nat) : Int), wst n k ((cmb n n (pansK k)).getD i 0) (lsR p 5056), spr n k ((cmb n n (pansK k)).getD i 0) (lsR p 5056)) := by rw [fs]; unfold nxS; exact if_neg z
        exact ⟨k1, k1, go (v' := (i : Int)) (Or.inr ⟨i, hi', rfl, e⟩) (by rw [e]) (by rw [e])⟩
      have keep : (0 ≤ (fld n k (lsR p 5056) i).1 ∧ ((fld n k (lsR p 5056) i).2.1 < wst n k ((cmb n n (pansK k)).getD i 0) (lsR p 5056) ∨ (wst n k ((cmb n n (pansK k)).getD i 0) (lsR p 5056) = (fld n k (lsR p 5056) i).2.1 ∧ (fld n k (lsR p 5056) i).2.2 ≤ spr n k ((cmb n n (pansK k)).getD i 0) (lsR p 5056)))) → VX2_best_107 d (VX2_best_20 d Q (q + 1)) Q y a v (evn (lsR p 5056).length (pansK k) : Nat) (w : Nat) (s : Nat) (i : Nat) S1 := by
        intro z
        unfold VX2_best_107
        have e : fld n k (lsR p 5056) (i + 1) = fld n k (lsR p 5056) i := by rw [fs]; unfold nxS; exact if_pos z
        refine go (v' := v) ?_ (by rw [e]; exact hw) (by rw [e]; exact hs)
        rw [e]
        rcases hB with ⟨-, -, e3⟩ | b
        · rw [e3] at z; exact absurd z.1 (by decide)
        · exact Or.inr b
      have neg : v = -1 → ¬ (0 ≤ (fld n k (lsR p 5056) i).1 ∧ ((fld n k (lsR p 5056) i).2.1 < wst n k ((cmb n n (pansK k)).getD i 0) (lsR p 5056) ∨ (wst n k ((cmb n n (pansK k)).getD i 0) (lsR p 5056) = (fld n k (lsR p 5056) i).2.1 ∧ (fld n k (lsR p 5056) i).2.2 ≤ spr n k ((cmb n n (pansK k)).getD i 0) (lsR p 5056)))) := by
        intro e z
        rcases hB with ⟨-, -, e3⟩ | ⟨f, -, e3, -⟩
        · rw [e3] at z; exact absurd z.1 (by decide)
        · omega
      have pos : v ≠ -1 → 0 ≤ (fld n k (lsR p 5056) i).1 := by
        intro e
        rcases hB with ⟨e3, -⟩ | ⟨f, -, -, e3⟩
        · exact absurd e3 e
        · rw [e3]; exact Int.natCast_nonneg _
      rw [← hw, ← hs] at take keep neg
      unfold VX2_best_75 VX2_best_79 VX2_best_80
      rw [m2, m3]
      refine ⟨k1, ⟨(by unfold R32; omega), (by unfold R32; omega)⟩, fun c => ⟨⟨vr, r32_m1⟩, fun e => take (neg e), fun e => ⟨r32_1, fun z => absurd z (by decide), fun _ => take (by omega)⟩⟩, fun c => ⟨k1, ⟨(by unfold R32; omega), (by unfold R32; omega)⟩, fun c2 => ⟨⟨vr, r32_m1⟩, fun e => take (neg e), fun e => ⟨r32_0, fun _ => keep ⟨pos e, by omega⟩, fun z => absurd rfl z⟩⟩, fun c2 => ⟨k1, ⟨(by unfold R32; omega), (by unfold R32; omega)⟩, fun c3 => ⟨⟨vr, r32_m1⟩, fun e => take (neg e), fun e => ⟨r32_0, fun _ => keep ⟨pos e, by omega⟩, fun z => absurd rfl z⟩⟩, fun c3 => ⟨⟨vr, r32_m1⟩, fun e => take (neg e), fun e => ⟨r32_1, fun z => absurd z (by decide), fun _ => take (by omega)⟩⟩⟩⟩⟩
    unfold VX2_best_20
    simp only [hl, sI_K, sI_N, sI_R, sI_J, sJ_K, sJ_N, sJ_R, sJ_I, sR_K, sR_N, sR_I, sR_J, Option.some.injEq, exists_eq_left', true_and, and_true, and_self_left, Int.toNat_natCast, Int.toNat_zero, Int.reduceToNat, Int.reduceLT, Int.reduceLE, Nat.reduceLeDiff, Nat.reduceLT, Int.cast_ofNat_Int, forall_eq, ge_iff_le, Int.reduceNeg, Int.reduceAdd, Int.reduceSub, Int.reduceMul, Int.reduceEq, r32_0, r32_1, r32_m1, b01_0, b01_1, not_true_eq_false, not_false_eq_true, false_implies, true_implies, implies_true, forall_const]
    refine ⟨⟨(by unfold R32; omega), (by unfold R32; omega)⟩, fun c => by omega, fun _ => ⟨vr, fun _ => step, fun c => ⟨⟨(by unfold R32; omega), (by unfold R32; omega)⟩, fun c2 => ?_, fun _ => step⟩⟩⟩
    rcases hB with ⟨e3, -⟩ | ⟨f, f1, f2, f3⟩
    · exact absurd e3 c
    · have st := fld_stop (i := i) h3 h7 hk (fun r hr => (hm r hr).1) f1 f3 (by rw [f3] at hs; have hs' : s = spr n k ((cmb n n (pansK k)).getD f 0) (lsR p 5056) := hs; omega) ((cmb n n (pansK k)).length - i) (by omega)
      rw [show i + ((cmb n n (pansK k)).length - i) = (cmb n n (pansK k)).length by omega, fld_n] at st
      subst hw hs
      exact fin hY (Or.inr ⟨f, f1, f2, f3⟩) (fun z => by subst z; unfold fld at f3; rw [List.take_zero] at f3; have := congrArg Prod.fst f3; exact absurd this (by show ¬ (-1 : Int) = _; omega)) st.symm h
theorem k_best {d y n k lo hi li a : Nat} {p : Nat → Bool} {S : MS} {Q : Out → MS → Prop} (hd : 4 ≤ d) (h3 : 3 ≤ n) (h7 : n ≤ 7) (hk : k < 3) (hY : LY S y n k lo hi li) (hK : S.K li = 13) (hR : HR S a n lo p) (h : ∀ S' v, Fi y (y+1) S S' → Fz lo hi li S S' → Bst n k (lsR p 5056) (cmb n n (pansK k)).length v (nxF n k (lsR p 5056)) → S'.I y 2 = ((nxF n k (lsR p 5056)).2.1 : Nat) → S'.I y 3 = ((nxF n k (lsR p 5056)).2.2 : Nat) → Q (.inl (some (vI v))) S') : Mw hX2_best yX2_best d [vA y, vA a] S Q := by
  have sz : S.I a 0 = ((lsR p 5056).length : Nat) := by rw [lsR_len]; exact hR.1.2.2.2.2
  have ll := ls_len h3 h7 hR.2.1
  have a1 := hY.1.1
  obtain ⟨dd, rfl⟩ : ∃ e, d = e + 1 := ⟨d - 1, by omega⟩
  refine MX2_best ?_
  unfold VX2_best_0
  refine ⟨hR.1.1.1, a1, k_even (s := (lsR p 5056).length) (by omega) sz ll hY (oI_i ⟨(cmb n n (pansK k)).length + 1, ?_⟩)⟩
  exact kf_best (w := 0) (s := 0) (v := -1) (by omega) h3 h7 hk (cmb n n (pansK k)).length (i := 0) (by omega) hY hK hR (Or.inl ⟨rfl, rfl, rfl⟩) rfl rfl h
/-- the number of the set that is laid, or none -/
def Lf (n k : Nat) (L : List Nat) (v : Int) : Prop := (v = -1 ∧ lf n k L = -1) ∨ ∃ f, f < (cmb n n (pansK k)).length ∧ v = (f : Int) ∧ lf n k L = (((cmb n n (pansK k)).getD f 0 : Nat) : Int)
theorem k_parting {d b y n k lo hi li a : Nat} {p : Nat → Bool} {S : MS} {Q : Out → MS → Prop} (hd : 5 ≤ d) (h3 : 3 ≤ n) (h7 : n ≤ 7) (hk : k < 3) (hA : AR S b n lo hi li) (hY : LY S y n k lo hi li) (hR : HR S a n lo p) (h : ∀ S' v, Fi y (y+1) S S' → Fz lo hi li S S' → Lf n k (lsR p 5056) v → Q (.inl (some (vI v))) S') : Mw hX2_parting yX2_parting d [vA y, vA b, vA a] S Q := by
  have sz : S.I a 0 = ((lsR p 5056).length : Nat) := by rw [lsR_len]; exact hR.1.2.2.2.2
  have ll := ls_len h3 h7 hR.2.1
  have a1 := hY.1.1
  have yl := hY.1.2.1
  have hK : S.K li = 13 := hA.2.2.2.1.2.2.1
  obtain ⟨dd, rfl⟩ : ∃ e, d = e + 1 := ⟨d - 1, by omega⟩
  refine MX2_parting ?_
  unfold VX2_parting_0
  rw [sz]
  have no : Dn n (lsR p 5056) → Q (.inl (some (vI (-1)))) S := fun z => h S (-1) Fi.rf Fz.rf (Or.inl ⟨rfl, by unfold lf; rw [cD_y z]⟩)
  refine ⟨hR.1.1.1, (by unfold R32; omega), fun c => no (Or.inl (by omega)), fun c => ⟨hA.1.1, k_areKnown (by omega) h3 h7 hA hR.1 hR.2.1 (fun q hq => oI_i ⟨hq.r, fun c2 => ⟨a1, k_best (by omega) h3 h7 hk hY hK hR (fun S1 v F Z hB m2 m3 => oI_i ?_)⟩, fun c2 => no (Or.inr ?_)⟩)⟩⟩
  · have nd : ¬ Dn n (lsR p 5056) := by
      rintro (z | z)
      · omega
      · rcases hq with ⟨rfl, -⟩ | ⟨-, k⟩
        · exact absurd c2 (by decide)
        · exact k z
    have k1 : S1.K y = 2 := by rw [F.1]; exact a1
    have k2 : S1.K a = 5 := by rw [F.1]; exact hR.1.1.1
    have s1 : S1.I a 0 = ((lsR p 5056).length : Nat) := by rw [F.I (by have := hR.2.2; omega)]; exact sz
    have e : lf n k (lsR p 5056) = (if (nxF n k (lsR p 5056)).1 < 0 ∨ (nxF n k (lsR p 5056)).2.1 = (lsR p 5056).length then -1 else (nxF n k (lsR p 5056)).1) := by unfold lf; rw [cD_n nd]
    have nr := nxF_r (n := n) (kn := k) (L := lsR p 5056) h7 ll
    rw [m2, s1]
    refine ⟨k1, k2, ⟨(by unfold R32; omega), (by unfold R32; omega)⟩, fun c3 => h S1 v F Z ?_, fun c3 => h S1 (-1) F Z (Or.inl ⟨rfl, by rw [e, if_pos (Or.inr (by omega))]⟩)⟩
    rcases hB with ⟨b1, b2, b3⟩ | ⟨f, f1, f2, f3⟩
    · refine Or.inl ⟨b1, ?_⟩
      rw [e, b3, if_pos (Or.inl (by decide))]
    · refine Or.inr ⟨f, f1, f2, ?_⟩
      have g1 : (nxF n k (lsR p 5056)).1 = (((cmb n n (pansK k)).getD f 0 : Nat) : Int) := by rw [f3]
      rw [e, if_neg (by omega), g1]
  · rcases hq with ⟨-, k⟩ | ⟨rfl, -⟩
    · exact k
    · exact absurd rfl c2
