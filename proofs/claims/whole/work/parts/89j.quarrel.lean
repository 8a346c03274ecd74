/-! notes that no row bears together -/
theorem kf_agree {d c e W : Nat} {p q : Nat → Bool} {S : MS} {Q : Out → MS → Prop} (hW : W ≤ 79) (hp : ∀ r, 64 * W ≤ r → p r = false) (hC : LA S c W p) (hE : LA S e W q) (h : ∀ v, BI v (∃ r, p r = true ∧ q r = true) → Q (.inl (some (vI v))) S) : ∀ (j : Nat) {v : Nat}, v + j = W → (∀ r, r < 64 * v → ¬ (p r = true ∧ q r = true)) → VX1_agree_2 d Q (j + 1) c e (v : Nat) S := by
  intro j
  induction j with
  | zero =>
    intro v hv hz
    unfold VX1_agree_2
    rw [hC.1, hC.2.1]
    refine ⟨by omega, ⟨(by unfold R32; omega), (by unfold R32; omega)⟩, fun _ => ⟨b01_0, h _ (.n ?_)⟩, fun c => by omega⟩
    rintro ⟨r, g1, g2⟩
    rcases Nat.lt_or_ge r (64 * v) with k | k
    · exact hz r k ⟨g1, g2⟩
    · rw [hp r (by rw [show v = W by omega] at k; exact k)] at g1
      exact absurd g1 (by decide)
  | succ j ih =>
    intro v hv hz
    unfold VX1_agree_2
    rw [hC.1, hC.2.1, hE.1, hE.2.1, Int.toNat_natCast, hC.2.2 v (by omega), hE.2.2 v (by omega), wdv_and]
    refine ⟨by omega, ⟨(by unfold R32; omega), (by unfold R32; omega)⟩, fun c => by omega, fun _ => ⟨by omega, ⟨(by unfold R32; omega), (by unfold R32; omega)⟩, fun c => by omega, fun _ => ⟨by omega, by omega, lCmp_0.1, fun c => ?_, fun c => ⟨b01_1, h _ (.y ?_)⟩⟩⟩⟩
    · have z := wdv_0.mp (lCmp_0.2.mp c)
      refine ih (v := v + 1) (by omega) (fun r hr => ?_)
      rcases Nat.lt_or_ge r (64 * v) with k | k
      · exact hz r k
      · intro g
        have := z (r - 64 * v) (by omega)
        rw [show 64 * v + (r - 64 * v) = r by omega, g.1, g.2] at this
        exact absurd this (by decide)
    · have nz : ¬ ∀ b, b < 64 → (p (64 * v + b) && q (64 * v + b)) = false := fun z => c (lCmp_0.2.mpr (wdv_0.mpr z))
      rw [Classical.not_forall] at nz
      obtain ⟨b, hb⟩ := nz
      rw [Classical.not_imp, Bool.not_eq_false, Bool.and_eq_true] at hb
      exact ⟨_, hb.2⟩
theorem k_agree {d c e W : Nat} {p q : Nat → Bool} {S : MS} {Q : Out → MS → Prop} (hd : 1 ≤ d) (hW : W ≤ 79) (hp : ∀ r, 64 * W ≤ r → p r = false) (hC : LA S c W p) (hE : LA S e W q) (h : ∀ v, BI v (∃ r, p r = true ∧ q r = true) → Q (.inl (some (vI v))) S) : Mw hX1_agree yX1_agree d [vA c, vA e] S Q := by
  obtain ⟨dd, rfl⟩ : ∃ e, d = e + 1 := ⟨d - 1, by omega⟩
  refine MX1_agree ?_
  unfold VX1_agree_0
  exact ⟨_, kf_agree hW hp hC hE h W (v := 0) (by omega) (fun r hr => absurd hr (by omega))⟩
/-- the rows that fit a note -/
def rq (n : Nat) (w : Nat → Int) (i : Nat) : Nat → Bool := inR n fun r => decide (rsN n (kd w (nS w i)) (nX w i) r = nT w i)
theorem rq_fit {n i r : Nat} {w : Nat → Int} (hg : GW n w) (hi : i < nN w) : rq n w i r = (decide (r < fct n) && fitN n w r i) := by
  unfold rq inR
  by_cases hr : r < fct n
  · rw [decide_eq_true hr, Bool.true_and, Bool.true_and]
    obtain ⟨n1, n2, n3⟩ := hg.nt hi
    have k1 := (hg.sc n1.2).1
    have a := rs_N (kn := kd w (nS w i)) hg.1.1 hg.1.2.1 hr n2.2.1 (by rw [n2.2.2]; exact belK_pans k1.2)
    unfold fitN
    rw [a.1]
    exact decide_eq_decide.mpr (by omega)
  · rw [decide_eq_false hr, Bool.false_and, Bool.false_and]
theorem rq_ps {n i : Nat} {w : Nat → Int} : PS n (rq n w i) := fun r hr => by
  unfold rq inR
  rw [decide_eq_false (by omega), Bool.false_and]
theorem mk_and {n r x : Nat} {w : Nat → Int} : mk_ n w r &&& x ≠ 0 ↔ ∃ i, i < nN w ∧ x.testBit i = true ∧ fitN n w r i = false := by
  constructor
  · intro h
    obtain ⟨i, hi⟩ := Nat.exists_testBit_of_ne_zero h
    rw [Nat.testBit_and, Bool.and_eq_true] at hi
    unfold mk_ at hi
    rw [mskN_bit, Bool.and_eq_true] at hi
    exact ⟨i, of_decide_eq_true hi.1.1, hi.2, by simpa using hi.1.2⟩
  · rintro ⟨i, h1, h2, h3⟩ z
    have : (mk_ n w r &&& x).testBit i = true := by
      unfold mk_
      rw [Nat.testBit_and, mskN_bit, decide_eq_true h1, h3, h2]
      rfl
    rw [z, Nat.zero_testBit] at this
    exact absurd this (by decide)
/-- notes that none of some rows fits all -/
def AgP (n : Nat) (w : Nat → Int) (p : Nat → Bool) (x : Nat) : Prop := ∀ r, p r = true → mk_ n w r &&& x ≠ 0
theorem AgP_or {n i x : Nat} {w : Nat → Int} {p : Nat → Bool} (hg : GW n w) (hp : PS n p) (hi : i < nN w) : AgP n w p (2 ^ i ||| x) ↔ AgP n w (fun r => p r && rq n w i r) x := by
  have hr : ∀ r, p r = true → r < fct n := fun r h => by
    rcases Nat.lt_or_ge r (fct n) with c | c
    · exact c
    · rw [hp r c] at h; exact absurd h (by decide)
  constructor
  · intro h r k
    rw [Bool.and_eq_true, rq_fit hg hi, Bool.and_eq_true] at k
    obtain ⟨j, j1, j2, j3⟩ := mk_and.mp (h r k.1)
    refine mk_and.mpr ⟨j, j1, ?_, j3⟩
    rw [Nat.testBit_or, Nat.testBit_two_pow] at j2
    by_cases c : i = j
    · rw [← c, k.2.2] at j3
      exact absurd j3 (by decide)
    · rw [decide_eq_false c, Bool.false_or] at j2
      exact j2
  · intro h r k
    by_cases c : fitN n w r i = true
    · obtain ⟨j, j1, j2, j3⟩ := mk_and.mp (h r (by rw [Bool.and_eq_true, rq_fit hg hi, Bool.and_eq_true]; exact ⟨k, decide_eq_true (hr r k), c⟩))
      exact mk_and.mpr ⟨j, j1, by rw [Nat.testBit_or, j2, Bool.or_true], j3⟩
    · exact mk_and.mpr ⟨i, hi, by rw [Nat.testBit_or, Nat.testBit_two_pow, decide_eq_true rfl, Bool.true_or], by simpa using c⟩
theorem AgP_one {n i : Nat} {w : Nat → Int} {p : Nat → Bool} (hg : GW n w) (hp : PS n p) (hi : i < nN w) : AgP n w p (2 ^ i) ↔ ¬ ∃ r, p r = true ∧ rq n w i r = true := by
  have := AgP_or (x := 0) hg hp hi
  rw [Nat.or_zero] at this
  rw [this]
  constructor
  · rintro h ⟨r, r1, r2⟩
    exact h r (by show (p r && rq n w i r) = true; rw [r1, r2]; rfl) (Nat.and_zero _)
  · intro h r k
    rw [Bool.and_eq_true] at k
    exact absurd ⟨r, k⟩ h
def whl (n : Nat) : Nat → Bool := inR n fun _ => true
theorem whl_i {n r : Nat} : whl n r = true ↔ r < fct n := by
  unfold whl inR
  rw [Bool.and_true, decide_eq_true_iff]
theorem whl_ps {n : Nat} : PS n (whl n) := fun r hr => by
  unfold whl inR
  rw [decide_eq_false (by omega), Bool.false_and]
theorem Ag_whl {n x : Nat} {w : Nat → Int} : AgP n w (whl n) x ↔ Ag n w x := by
  constructor
  · intro h r hr
    exact h r (whl_i.mpr hr)
  · intro h r hr
    exact h r (whl_i.mp hr)
theorem Ag_two {n i j : Nat} {w : Nat → Int} (hg : GW n w) (hi : i < nN w) (hj : j < nN w) : Ag n w (2 ^ i ||| 2 ^ j) ↔ ¬ ∃ r, rq n w i r = true ∧ rq n w j r = true := by
  rw [← Ag_whl, AgP_or hg whl_ps hi, AgP_one hg (fun r hr => by rw [whl_ps r hr, Bool.false_and]) hj]
  constructor
  · rintro h ⟨r, r1, r2⟩
    refine h ⟨r, ?_, r2⟩
    have r3 := r1
    rw [rq_fit hg hi, Bool.and_eq_true] at r3
    rw [r1, whl_i.mpr (of_decide_eq_true r3.1)]
    rfl
  · rintro h ⟨r, r1, r2⟩
    rw [Bool.and_eq_true] at r1
    exact h ⟨r, r1.2, r2⟩
theorem quC_tri (n : Nat) (w : Nat → Int) : ∀ m, quC n w m = triB (fun a b => dc (Ag n w (2 ^ a ||| 2 ^ b))) m
  | 0 => rfl
  | m + 1 => by
    show quC n w m + _ = triB _ m + _
    rw [quC_tri n w m]
noncomputable def quG (n : Nat) (w : Nat → Int) (i j : Nat) : Bool := decide (i < j) && dc (Ag n w (2 ^ i ||| 2 ^ j))
theorem qu_sum {n : Nat} {w : Nat → Int} : smB (fun i => cntB (quG n w i) (nN w)) (nN w) = quC n w (nN w) := by
  rw [quC_tri]
  exact up_tri (m := nN w) (fun x y => by rw [Nat.or_comm]) (fun p q _ _ => rfl) _ (Nat.le_refl _)
theorem kf_qu17 {d ft sr n lo hi i v : Nat} {w : Nat → Int} {S : MS} {Q : Out → MS → Prop} {c4 : Nat → Nat → Int → Int → MS → Prop} (hd : 1 ≤ d) (hF : FT S ft) (hS : SS S sr n w) (hM : AM S ft n w lo hi (nN w)) (hi' : i < nN w) (h : c4 ft sr ((v + cntB (quG n w i) (nN w) : Nat) : Int) ((i : Int) + 1) S) : ∀ (q : Nat) {j : Nat}, j + q = nN w → i < j → VX1_quarrelling_17 d c4 Q (q + 1) ft sr ((v + cntB (quG n w i) j : Nat) : Int) (i : Nat) (j : Nat) S := by
  have hS' := hS
  obtain ⟨hY, ⟨⟨w0, w1, w2, w3⟩, wt, wk, wn⟩, hg⟩ := hS
  have g0 := hg.1
  have g1 := hg.2.1
  have g2 := hg.2.2.1
  have g3 := hg.2.2.2.1
  have hl := hY
  unfold SY at hl
  have hW := Wn_le g0.1 g0.2.1
  intro q
  induction q with
  | zero =>
    intro j hj hij
    unfold VX1_quarrelling_17
    rw [w2, g2.1, show j = nN w by omega]
    exact ⟨hl.1, ⟨(by unfold R32; omega), (by unfold R32; omega)⟩, fun _ => h, fun c => by omega⟩
  | succ q ih =>
    intro j hj hij
    obtain ⟨e, e1, e2, e3⟩ := hM i hi'
    obtain ⟨f, f1, f2, f3⟩ := hM j (by omega)
    have ih' := ih (j := j + 1) (by omega) (by omega)
    unfold cntB at ih'
    unfold VX1_quarrelling_17 VX1_quarrelling_51
    rw [w2, g2.1]
    refine ⟨hl.1, ⟨(by unfold R32; omega), (by unfold R32; omega)⟩, fun c => by omega, fun _ => ⟨hF.1, ft+1, hF.2.1, ⟨hF.2.2.1, by omega, by omega, by rw [hF.2.2.2]; omega⟩, e, e1, hF.1, ft+1, hF.2.1, ⟨hF.2.2.1, by omega, by omega, by rw [hF.2.2.2]; omega⟩, f, f1, k_agree hd hW.1 ((rq_ps (n := n) (i := i) (w := w)).a g0.1 g0.2.1).2 e3 f3 (fun z hz => oI_i ⟨hz.r, fun c => ?_, fun c => ?_⟩)⟩⟩
    · rw [if_pos (by unfold quG; rw [decide_eq_true hij, Bool.true_and]; exact dc_y ((Ag_two hg hi' (by omega)).mpr (by rcases hz with ⟨rfl, -⟩ | ⟨-, k⟩; omega; exact k)))] at ih'
      exact ih'
    · rw [if_neg (by unfold quG; rw [decide_eq_true hij, Bool.true_and, dc_n (fun k => (Ag_two hg hi' (by omega)).mp k (by rcases hz with ⟨-, k⟩ | ⟨rfl, -⟩; exact k; omega))]; decide)] at ih'
      exact ih'
theorem kf_qu4 {d ft sr n lo hi : Nat} {w : Nat → Int} {S : MS} {Q : Out → MS → Prop} (hd : 1 ≤ d) (hF : FT S ft) (hS : SS S sr n w) (hM : AM S ft n w lo hi (nN w)) (h : Q (.inl (some (vI (quC n w (nN w) : Nat)))) S) : ∀ (q : Nat) {i : Nat}, i + q = nN w → VX1_quarrelling_4 d Q (q + 1) ft sr (smB (fun i => cntB (quG n w i) (nN w)) i : Nat) (i : Nat) S := by
  have hS' := hS
  obtain ⟨hY, ⟨⟨w0, w1, w2, w3⟩, wt, wk, wn⟩, hg⟩ := hS
  have g0 := hg.1
  have g1 := hg.2.1
  have g2 := hg.2.2.1
  have g3 := hg.2.2.2.1
  have hl := hY
  unfold SY at hl
  intro q
  induction q with
  | zero =>
    intro i hi
    unfold VX1_quarrelling_4
    rw [w2, g2.1, show i = nN w by omega, qu_sum]
    exact ⟨hl.1, ⟨(by unfold R32; omega), (by unfold R32; omega)⟩, fun _ => h, fun c => by omega⟩
  | succ q ih =>
    intro i hi
    unfold VX1_quarrelling_4
    rw [w2, g2.1]
    refine ⟨hl.1, ⟨(by unfold R32; omega), (by unfold R32; omega)⟩, fun c => by omega, fun _ => ⟨q + 1, ?_⟩⟩
    have := kf_qu17 (d := d) (Q := Q) (v := smB (fun i => cntB (quG n w i) (nN w)) i) hd hF hS' hM (show i < nN w by omega) (ih (i := i + 1) (by omega)) q (j := i + 1) (by omega) (by omega)
    rw [cntB_0 (p := quG n w i) (n := i + 1) (fun k hk => by unfold quG; rw [decide_eq_false (by omega)]; rfl)] at this
    exact this
theorem k_quarrelling {d ft sr n lo hi : Nat} {w : Nat → Int} {S : MS} {Q : Out → MS → Prop} (hd : 2 ≤ d) (hF : FT S ft) (hS : SS S sr n w) (hM : AM S ft n w lo hi (nN w)) (h : Q (.inl (some (vI (quC n w (nN w) : Nat)))) S) : Mw hX1_quarrelling yX1_quarrelling d [vA ft, vA sr] S Q := by
  obtain ⟨dd, rfl⟩ : ∃ e, d = e + 1 := ⟨d - 1, by omega⟩
  refine MX1_quarrelling ?_
  unfold VX1_quarrelling_0
  exact ⟨_, kf_qu4 (by omega) hF hS hM h (nN w) (i := 0) (by omega)⟩
