/-! the class's walk -/
theorem lsR_and {n : Nat} {p q : Nat → Bool} (hp : PS n p) : lsR (fun r => p r && inR n q r) 5056 = (lsR p 5056).filter q := by
  unfold lsR
  rw [List.filter_filter]
  refine List.filter_congr (fun r _ => ?_)
  unfold inR
  rcases Nat.lt_or_ge r (fct n) with c | c
  · rw [decide_eq_true c, Bool.true_and, Bool.and_comm]
  · rw [hp r c, Bool.false_and, Bool.and_false]
theorem PS.and {n : Nat} {p q : Nat → Bool} (h : PS n p) : PS n (fun r => p r && q r) := fun r hr => by
  show (p r && q r) = false
  rw [h r hr]; rfl
def smS (u : Nat → Nat) : Nat → Nat → Nat
  | 0, _ => 0
  | j + 1, p => u p + smS u j (p + 1)
theorem smS_sm (u : Nat → Nat) : ∀ j p, smS u j p + smB u p = smB u (p + j)
  | 0, p => by show 0 + _ = _; rw [Nat.zero_add]; rfl
  | j + 1, p => by
    have := smS_sm u j (p + 1)
    show u p + smS u j (p + 1) + smB u p = _
    rw [show p + (j + 1) = p + 1 + j by omega, ← this]
    show _ = smS u j (p + 1) + (smB u p + u p)
    omega
theorem wkC_cmp {g h : Nat → Nat × Nat × Bool} {u : Nat → Nat} (H : ∀ i, (h i).1 = (g i).1 ∧ (h i).2.1 = u i + (g i).2.1 ∧ (h i).2.2 = (g i).2.2) : ∀ (j p : Nat) (a b : Nat × Nat × Bool), b.2.2 = a.2.2 → (wkC h j p b).2.2 = (wkC g j p a).2.2 ∧ (wkC h j p b).2.1 + a.2.1 = b.2.1 + smS u j p + (wkC g j p a).2.1 ∧ (b.1 = a.1 → (wkC h j p b).1 = (wkC g j p a).1) ∧ (b.1 ≤ a.1 → 0 < j → a.1 ≤ (g p).1 → (wkC h j p b).1 = (wkC g j p a).1)
  | 0, p, a, b, e => ⟨e, by show b.2.1 + a.2.1 = b.2.1 + 0 + a.2.1; omega, fun k => k, fun _ k => absurd k (by omega)⟩
  | j + 1, p, a, b, e => by
    have k := H p
    have ih := wkC_cmp H j (p + 1) (comb a (g p)) (comb b (h p)) (by unfold comb; rw [e, k.2.2])
    refine ⟨ih.1, ?_, fun z => ih.2.2.1 ?_, fun z1 _ z2 => ih.2.2.1 ?_⟩
    · have i2 := ih.2.1
      have c1 : (comb a (g p)).2.1 = a.2.1 + (g p).2.1 := rfl
      have c2 : (comb b (h p)).2.1 = b.2.1 + (h p).2.1 := rfl
      rw [c1, c2, k.2.1] at i2
      show (wkC h j (p + 1) (comb b (h p))).2.1 + a.2.1 = b.2.1 + (u p + smS u j (p + 1)) + (wkC g j (p + 1) (comb a (g p))).2.1
      omega
    · show max b.1 (h p).1 = max a.1 (g p).1
      rw [z, k.1]
    · show max b.1 (h p).1 = max a.1 (g p).1
      rw [k.1]
      omega
/-- what the class's walk adds at a node -/
noncomputable def cls (n k : Nat) (th : Int) (f lev : Nat) (L : List Nat) : Nat × Nat × Bool := ((wk n k th f lev L).1, lev * L.length + (wk n k th f lev L).2.1, (wk n k th f lev L).2.2)
theorem wkC_ge (g : Nat → Nat × Nat × Bool) : ∀ j p a, a.1 ≤ (wkC g j p a).1
  | 0, _, _ => Nat.le_refl _
  | j + 1, p, a => Nat.le_trans (show a.1 ≤ max a.1 (g p).1 by omega) (wkC_ge g j (p + 1) (comb a (g p)))
theorem wk_ge {n k : Nat} {th : Int} {f lev : Nat} {L : List Nat} : lev ≤ (wk n k th f lev L).1 := by
  cases f with
  | zero => exact Nat.le_refl _
  | succ f =>
    unfold wk
    split
    · exact Nat.le_refl _
    · exact wkC_ge _ _ _ (lev, L.length, true)
theorem comb_e (a : Nat × Nat × Bool) : comb a (0, 0, true) = a := by
  unfold comb
  rw [Nat.max_eq_left (Nat.zero_le _), Nat.add_zero, Bool.and_true]
theorem cls_in {n k : Nat} {th : Int} {f lev : Nat} {L : List Nat} {A : Nat × Nat × Bool} (h3 : 3 ≤ n) (h7 : n ≤ 7) (hk : k < 3) (hL : ∀ r ∈ L, r < fct n) (ha : 0 ≤ arF n k th L) : wkC (fun i => cls n k th f (lev + 1) (prt n k (arF n k th L).toNat (mbN (arF n k th L).toNat i) L)) (pansK k) 0 A = comb A (cls n k th (f + 1) lev L) := by
  have pk := pansK_le k
  obtain ⟨-, -, xm, -⟩ := ar_ok (n := n) (kn := k) (th := th) (L := L) h7 ha
  have cx := (cmb_k (kn := k) h7).2 _ xm
  have en := enum_all (n := n) (kn := k) (L := L) h3 h7 hk cx.1 cx.2 hL
  have e1 : wkC (fun i => cls n k th f (lev + 1) (prt n k (arF n k th L).toNat (mbN (arF n k th L).toNat i) L)) (pansK k) 0 A = comb A (wkC (fun i => cls n k th f (lev + 1) (prt n k (arF n k th L).toNat (mbN (arF n k th L).toNat i) L)) (pansK k) 0 (0, 0, true)) := by
    rw [← wkC_as, comb_e]
  rw [e1]
  congr 1
  have w : wk n k th (f + 1) lev L = wkC (fun p => wk n k th f (lev + 1) (prt n k (arF n k th L).toNat (mbN (arF n k th L).toNat p) L)) (pansK k) 0 (lev, L.length, true) := by
    show (if arF n k th L < 0 then _ else _) = _
    rw [if_neg (by omega)]
  have c := wkC_cmp (g := fun p => wk n k th f (lev + 1) (prt n k (arF n k th L).toNat (mbN (arF n k th L).toNat p) L)) (h := fun i => cls n k th f (lev + 1) (prt n k (arF n k th L).toNat (mbN (arF n k th L).toNat i) L)) (u := fun i => (lev + 1) * (prt n k (arF n k th L).toNat (mbN (arF n k th L).toNat i) L).length) (fun i => ⟨rfl, rfl, rfl⟩) (pansK k) 0 (lev, L.length, true) (0, 0, true) rfl
  rw [← w] at c
  have s : smS (fun i => (lev + 1) * (prt n k (arF n k th L).toNat (mbN (arF n k th L).toNat i) L).length) (pansK k) 0 = (lev + 1) * L.length := by
    have := smS_sm (fun i => (lev + 1) * (prt n k (arF n k th L).toNat (mbN (arF n k th L).toNat i) L).length) (pansK k) 0
    rw [Nat.zero_add] at this
    have z : smB (fun i => (lev + 1) * (prt n k (arF n k th L).toNat (mbN (arF n k th L).toNat i) L).length) 0 = 0 := rfl
    rw [z, Nat.add_zero] at this
    rw [this]
    have m : ∀ j, smB (fun i => (lev + 1) * (prt n k (arF n k th L).toNat (mbN (arF n k th L).toNat i) L).length) j = (lev + 1) * smB (fun j => rc n k (arF n k th L).toNat L (mbN (arF n k th L).toNat j)) j := by
      intro j
      induction j with
      | zero => rfl
      | succ j ih =>
        show smB _ j + (lev + 1) * rc n k (arF n k th L).toNat L (mbN (arF n k th L).toNat j) = (lev + 1) * (smB _ j + _)
        rw [ih, Nat.mul_add]
    rw [m, ← en.2.2]
  have d2 := c.2.1
  rw [s] at d2
  have d2' : (wkC (fun i => cls n k th f (lev + 1) (prt n k (arF n k th L).toNat (mbN (arF n k th L).toNat i) L)) (pansK k) 0 (0, 0, true)).2.1 + L.length = 0 + (lev + 1) * L.length + (wk n k th (f + 1) lev L).2.1 := d2
  rw [Nat.add_mul, Nat.one_mul] at d2'
  have d3 := c.2.2.2 (Nat.zero_le _) (by omega) (show lev ≤ (wk n k th f (lev + 1) _).1 from Nat.le_trans (by omega) wk_ge)
  unfold cls at d2' d3 ⊢
  have d1 := c.1
  unfold cls at d1
  refine Prod.ext d3 (Prod.ext ?_ d1)
  show _ = lev * L.length + (wk n k th (f + 1) lev L).2.1
  omega
