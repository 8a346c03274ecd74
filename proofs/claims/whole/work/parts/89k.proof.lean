/-! the least proof: what is passed over cannot be in it -/
noncomputable def fsQ (q : Nat → Prop) : List Nat → Option Nat
  | [] => none
  | x :: X => cD (q x) (some x) (fsQ q X)
theorem fsA_Q {n : Nat} {w : Nat → Int} : ∀ X, fsA n w X = fsQ (Ag n w) X
  | [] => rfl
  | x :: X => by
    show cD _ _ _ = cD _ _ _
    rw [fsA_Q X]
def o2n : Option Nat → Nat
  | none => 0
  | some x => x
theorem fsQ_app {q : Nat → Prop} {B : List Nat} : ∀ A, fsQ q (A ++ B) = (fsQ q A).or (fsQ q B)
  | [] => by simp [fsQ]
  | x :: A => by
    show cD (q x) (some x) (fsQ q (A ++ B)) = Option.or (cD (q x) (some x) (fsQ q A)) (fsQ q B)
    by_cases c : q x
    · rw [cD_y c, cD_y c]; rfl
    · rw [cD_n c, cD_n c, fsQ_app A]
theorem fsQ_map {q : Nat → Prop} {g : Nat → Nat} : ∀ A, fsQ q (A.map g) = (fsQ (fun x => q (g x)) A).map g
  | [] => rfl
  | x :: A => by
    show cD _ _ _ = Option.map g (cD _ _ _)
    by_cases c : q (g x)
    · rw [cD_y c, cD_y (P := q (g x)) c]; rfl
    · rw [cD_n c, cD_n (P := q (g x)) c, fsQ_map A]
theorem fsQ_cong {p q : Nat → Prop} : ∀ {A : List Nat}, (∀ x ∈ A, p x ↔ q x) → fsQ p A = fsQ q A
  | [], _ => rfl
  | x :: A, h => by
    show cD _ _ _ = cD _ _ _
    rw [fsQ_cong (A := A) (fun y hy => h y (List.mem_cons_of_mem _ hy))]
    have hx := h x List.mem_cons_self
    by_cases c : p x
    · rw [cD_y c, cD_y (hx.mp c)]
    · rw [cD_n c, cD_n (fun k => c (hx.mpr k))]
theorem fsQ_no {q : Nat → Prop} : ∀ {A : List Nat}, (∀ x ∈ A, ¬ q x) → fsQ q A = none
  | [], _ => rfl
  | x :: A, h => by
    show cD _ _ _ = _
    rw [cD_n (h x List.mem_cons_self)]
    exact fsQ_no (fun y hy => h y (List.mem_cons_of_mem _ hy))
theorem fsQ_none {q : Nat → Prop} : ∀ {A : List Nat}, fsQ q A = none → ∀ x ∈ A, ¬ q x
  | [], _, x, hx => absurd hx (by simp)
  | y :: A, h, x, hx => by
    have h' : cD (q y) (some y) (fsQ q A) = none := h
    by_cases c : q y
    · rw [cD_y c] at h'
      exact absurd h' (by simp)
    · rw [cD_n c] at h'
      rcases List.mem_cons.mp hx with e | e
      · rw [e]; exact c
      · exact fsQ_none h' x e
theorem fsQ_mem {q : Nat → Prop} : ∀ {A : List Nat} {x : Nat}, fsQ q A = some x → x ∈ A
  | [], x, h => by
    have : (none : Option Nat) = some x := h
    exact absurd this (by simp)
  | y :: A, x, h => by
    have h' : cD (q y) (some y) (fsQ q A) = some x := h
    by_cases c : q y
    · rw [cD_y c] at h'
      rw [Option.some.inj h']
      exact List.mem_cons_self
    · rw [cD_n c] at h'
      exact List.mem_cons_of_mem _ (fsQ_mem h')
def bc (x : Nat) : Nat := cntB (fun i => x.testBit i) 16
theorem bc_or {i x : Nat} (hi : i < 16) : bc (2 ^ i ||| x) = bc x + (if x.testBit i then 0 else 1) := by
  unfold bc
  rw [← cntB_upd (fun j => x.testBit j) hi]
  refine cntB_cong (fun k _ => ?_)
  rw [Nat.testBit_or, Nat.testBit_two_pow, Bool.or_comm]
  congr 1
  exact decide_eq_decide.mpr eq_comm
theorem cmb_bc {hi : Nat} (h16 : hi ≤ 16) : ∀ (f k : Nat), f ≤ hi → ∀ x ∈ cmb hi f k, bc x ≤ k ∧ x < 2 ^ hi ∧ (1 ≤ k → x ≠ 0)
  | _, 0, _, x, hx => by
    rw [cmb_0] at hx
    rw [List.mem_singleton.mp hx]
    refine ⟨?_, Nat.two_pow_pos hi, fun h => absurd h (by omega)⟩
    unfold bc
    rw [cntB_0 (fun k _ => Nat.zero_testBit k)]
    exact Nat.le_refl _
  | 0, k + 1, _, x, hx => by
    unfold cmb at hx
    exact absurd hx (by simp)
  | f + 1, k + 1, hf, x, hx => by
    unfold cmb at hx
    rcases List.mem_append.mp hx with h | h
    · obtain ⟨y, y1, y2⟩ := List.mem_map.mp h
      have a := cmb_bc h16 f k (by omega) y y1
      have b := bc_or (i := hi - (f + 1)) (x := y) (by omega)
      rw [← y2]
      refine ⟨?_, Nat.or_lt_two_pow (Nat.pow_lt_pow_right (by decide) (by omega)) a.2.1, fun _ z => ?_⟩
      · rw [b]; split <;> omega
      · have := congrArg (fun v => Nat.testBit v (hi - (f + 1))) z
        simp [Nat.testBit_or, Nat.testBit_two_pow_self] at this
    · exact cmb_bc h16 f (k + 1) (by omega) x h
/-- every set of so many is among them -/
theorem cmb_has {hi : Nat} (h16 : hi ≤ 16) : ∀ (f : Nat), f ≤ hi → ∀ (k x : Nat), (∀ i, x.testBit i = true → hi - f ≤ i ∧ i < hi) → bc x = k → x ∈ cmb hi f k
  | 0, _, k, x, hx, hk => by
    have e : x = 0 := Nat.eq_of_testBit_eq (fun i => by
      rw [Nat.zero_testBit]
      cases c : x.testBit i
      · rfl
      · have := hx i c
        omega)
    subst e
    have : bc 0 = 0 := cntB_0 (fun k _ => Nat.zero_testBit k)
    rw [← hk, this, cmb_0]
    exact List.mem_singleton.mpr rfl
  | f + 1, hf, 0, x, hx, hk => by
    rw [cmb_0, List.mem_singleton]
    refine Nat.eq_of_testBit_eq (fun i => ?_)
    rw [Nat.zero_testBit]
    cases c : x.testBit i
    · rfl
    · have h1 := hx i c
      have h2 : x = 2 ^ i ||| x := Nat.eq_of_testBit_eq (fun j => by
        rw [Nat.testBit_or, Nat.testBit_two_pow]
        by_cases g : i = j
        · rw [← g, c, Bool.or_true]
        · rw [decide_eq_false g, Bool.false_or])
      -- a set with a bit counts at least one
      have h3 : 1 ≤ bc x := by
        unfold bc
        obtain ⟨j, hj⟩ : ∃ j, 16 = (i + 1) + j := ⟨16 - (i + 1), by omega⟩
        rw [hj, cntB_split]
        show 1 ≤ cntB _ i + (if x.testBit i then 1 else 0) + _
        rw [c, if_pos rfl]
        omega
      omega
  | f + 1, hf, k + 1, x, hx, hk => by
    unfold cmb
    rw [List.mem_append]
    cases c : x.testBit (hi - (f + 1))
    · right
      refine cmb_has h16 f (by omega) (k + 1) x (fun i hi' => ?_) hk
      have := hx i hi'
      by_cases e : i = hi - (f + 1)
      · rw [e, c] at hi'; exact absurd hi' (by decide)
      · omega
    · left
      rw [List.mem_map]
      have e1 : ∀ j, (x ^^^ 2 ^ (hi - (f + 1))).testBit j = (x.testBit j && !decide (hi - (f + 1) = j)) := fun j => by
        rw [Nat.testBit_xor, Nat.testBit_two_pow]
        by_cases g : hi - (f + 1) = j
        · rw [← g, c, decide_eq_true rfl]; rfl
        · rw [decide_eq_false g]; simp
      have e2 : 2 ^ (hi - (f + 1)) ||| (x ^^^ 2 ^ (hi - (f + 1))) = x := Nat.eq_of_testBit_eq (fun j => by
        rw [Nat.testBit_or, e1, Nat.testBit_two_pow]
        by_cases g : hi - (f + 1) = j
        · rw [← g, c, decide_eq_true rfl]; rfl
        · rw [decide_eq_false g]; simp)
      refine ⟨x ^^^ 2 ^ (hi - (f + 1)), cmb_has h16 f (by omega) k _ (fun i hi' => ?_) ?_, e2⟩
      · rw [e1, Bool.and_eq_true] at hi'
        have := hx i hi'.1
        have g : hi - (f + 1) ≠ i := by simpa using hi'.2
        omega
      · have b := bc_or (i := hi - (f + 1)) (x := x ^^^ 2 ^ (hi - (f + 1))) (by omega)
        rw [e2, e1, decide_eq_true rfl, if_neg (by simp)] at b
        omega
/-- fewer notes than so many leave a row -/
def Hm (n : Nat) (w : Nat → Int) (p : Nat → Bool) (k : Nat) : Prop := ∀ x, x < 2 ^ nN w → bc x < k → ¬ AgP n w p x
theorem Hm.s {n i k : Nat} {w : Nat → Int} {p : Nat → Bool} (hg : GW n w) (hp : PS n p) (hi : i < nN w) (h16 : nN w ≤ 16) (h : Hm n w p (k + 1)) : Hm n w (fun r => p r && rq n w i r) k := by
  intro x h1 h2 h3
  refine h (2 ^ i ||| x) (Nat.or_lt_two_pow (Nat.pow_lt_pow_right (by decide) hi) h1) ?_ ((AgP_or hg hp hi).mpr h3)
  have := bc_or (i := i) (x := x) (by omega)
  split at this <;> omega
theorem cnt_same {p q : Nat → Bool} {m : Nat} (h : ∀ r, q r = true → p r = true) (hc : cntB p m ≤ cntB q m) : ∀ r, r < m → p r = q r := by
  intro r hr
  cases c : q r
  · cases e : p r
    · rfl
    · have := cntB_lt (p := q) (q := p) (n := m) (fun k _ g => h k g) ⟨r, hr, e, c⟩
      omega
  · exact h r c
theorem k_proofOf {ft lv lb n lo hi : Nat} {w : Nat → Int} (hg : GW n w) (hlo : lb + 120 ≤ lo) : ∀ (k : Nat) {d lev f : Nat} {p : Nat → Bool} {S : MS} {Q : Out → MS → Prop} {x1 x2 x3 x4 : Int}, k + 4 ≤ d → 1 ≤ k → lev + k ≤ 16 → FT S ft → AM S ft n w lo hi (nN w) → LVL S lv lb → RS_ S (lb + 3 * lev) p → PS n p → Hm n w p k → f ≤ nN w → x1 = (lev : Int) → x2 = ((nN w - f : Nat) : Int) → x3 = (k : Int) → x4 = (nN w : Int) → (∀ S', Fi (lb + 3 * (lev + 1)) (lb + 120) S S' → LVL S' lv lb → Q (.inl (some (vI (o2n (fsQ (AgP n w p) (cmb (nN w) f k)) : Nat)))) S') → Mw hX1_proofOf yX1_proofOf d [vA ft, vA lv, vI x1, vI x2, vI x3, vI x4] S Q := by
  have h3 := hg.1.1
  have h7 := hg.1.2.1
  have hW := Wn_le h3 h7
  have h16 : nN w ≤ 16 := hg.2.2.1.2
  intro k
  induction k with
  | zero => intro d lev f p S Q x1 x2 x3 x4 _ h; omega
  | succ k ihk =>
    intro d lev f p S Q x1 x2 x3 x4 hd h1 hlev hF hM hV hR hp hH hf e1 e2 e3 e4 h
    subst e1 e2 e3 e4
    obtain ⟨dd, rfl⟩ : ∃ e, d = e + 1 := ⟨d - 1, by omega⟩
    refine MX1_proofOf ?_
    unfold VX1_proofOf_0
    refine ⟨⟨hV.1, by omega, by omega, by rw [hV.2.1]; omega⟩, lb + 3 * lev, (hV.2.2 lev (by omega)).1, f + 1, ?_⟩
    have loop : ∀ (f : Nat) {S : MS}, f ≤ nN w → FT S ft → AM S ft n w lo hi (nN w) → LVL S lv lb → RS_ S (lb + 3 * lev) p → (∀ S', Fi (lb + 3 * (lev + 1)) (lb + 120) S S' → LVL S' lv lb → Q (.inl (some (vI (o2n (fsQ (AgP n w p) (cmb (nN w) f (k + 1))) : Nat)))) S') → VX1_proofOf_8 dd Q (f + 1) ft lv (lev : Nat) ((k + 1 : Nat) : Int) (nN w : Nat) (lb + 3 * lev) ((nN w - f : Nat) : Int) S := by
      intro f
      induction f with
      | zero =>
        intro S hf hF hM hV hR h
        unfold VX1_proofOf_8
        refine ⟨⟨(by unfold R32; omega), (by unfold R32; omega)⟩, fun _ => ?_, fun c => by omega⟩
        have := h S Fi.rf hV
        unfold cmb at this
        exact this
      | succ f ihf =>
        intro S hf hF hM hV hR h
        have hi' : nN w - (f + 1) < nN w := by omega
        obtain ⟨e, e1, e2, e3'⟩ := hM (nN w - (f + 1)) hi'
        have e3 : LA S e (Wn n) (rq n w (nN w - (f + 1))) := e3'
        have ps' : PS n (fun r => p r && rq n w (nN w - (f + 1)) r) := fun r hr => by
          show (p r && _) = false
          rw [hp r hr, Bool.false_and]
        unfold VX1_proofOf_8
        refine ⟨⟨(by unfold R32; omega), (by unfold R32; omega)⟩, fun c => ?_, fun c => ⟨⟨(by unfold R32; omega), r32_1⟩, fun c2 => ?_, fun c2 => ?_⟩⟩
        · have := h S Fi.rf hV
          rw [cmb_nil _ _ _ (by omega)] at this
          exact this
        · -- more than one is needed
          have eq1 : fsQ (AgP n w p) (cmb (nN w) (f + 1) (k + 1)) = ((fsQ (AgP n w (fun r => p r && rq n w (nN w - (f + 1)) r)) (cmb (nN w) f k)).map (fun x => 2 ^ (nN w - (f + 1)) ||| x)).or (fsQ (AgP n w p) (cmb (nN w) f (k + 1))) := by
            show fsQ _ ((cmb (nN w) f k).map (fun x => 2 ^ (nN w - (f + 1)) ||| x) ++ cmb (nN w) f (k + 1)) = _
            rw [fsQ_app, fsQ_map, fsQ_cong (fun x _ => AgP_or hg hp hi')]
          have nxt : ∀ {S1 : MS}, Fi (lb + 3 * (lev + 1)) (lb + 120) S S1 → LVL S1 lv lb → fsQ (AgP n w (fun r => p r && rq n w (nN w - (f + 1)) r)) (cmb (nN w) f k) = none → VX1_proofOf_8 dd Q (f + 1) ft lv (lev : Nat) ((k + 1 : Nat) : Int) (nN w : Nat) (lb + 3 * lev) (((nN w - (f + 1) : Nat) : Int) + 1) S1 := by
            intro S1 F1 V1 z
            have := ihf (S := S1) (by omega) (F1.ft hF) (F1.am (by omega) hM) V1 (F1.rs (by omega) hR) (fun S' F2 V2 => by
              have := h S' (F1.tr F2) V2
              rw [eq1, z] at this
              exact this)
            rw [show ((nN w - f : Nat) : Int) = ((nN w - (f + 1) : Nat) : Int) + 1 by omega] at this
            exact this
          obtain ⟨q0, hq0⟩ := (hV.2.2 (lev + 1) (by omega)).2
          unfold VX1_proofOf_134
          rw [hV.1, hV.2.1]
          refine ⟨by omega, ⟨(by unfold R32; omega), (by unfold R32; omega)⟩, fun c3 => by omega, fun _ => ⟨⟨rfl, by omega, by omega, by omega⟩, lb + 3 * (lev + 1), ?_, hF.1, ft+1, hF.2.1, ⟨hF.2.2.1, by omega, by omega, by rw [hF.2.2.2]; omega⟩, e, e1, hq0.1.1, ?_⟩⟩
          · rw [show ((lev : Int) + 1).toNat = lev + 1 by omega]
            exact (hV.2.2 (lev + 1) (by omega)).1
          refine c_rTake (W := Wn n) (by omega) (by omega) (by omega) hW.1 (hp.a h3 h7).2 hR e3 hq0 (fun S2 f2 r2 => oV_i ?_)
          have V2 := hV.fl f2 r2
          have F2 : Fi (lb + 3 * (lev + 1)) (lb + 120) S S2 := f2.wk (by omega) (by omega)
          have R2 := F2.rs (by omega) hR
          have z1 := r2.2.2.2.2
          have z2 := R2.2.2.2.2
          have l1 := cntB_le (fun r => p r && rq n w (nN w - (f + 1)) r) 5056
          have l2 := cntB_le p 5056
          have z1' : S2.I (lb + 3 * (lev + 1)) 0 = (cntB (fun r => p r && rq n w (nN w - (f + 1)) r) 5056 : Nat) := z1
          unfold VX1_proofOf_90
          refine ⟨⟨V2.1, by omega, by omega, by rw [V2.2.1]; omega⟩, lb + 3 * (lev + 1), ?_, r2.1.1, R2.1.1, by rw [z1', z2]; exact ⟨(by unfold R32; omega), (by unfold R32; omega)⟩, fun c4 => ⟨r32_0, fun _ => ?_, fun k => absurd rfl k⟩, fun c4 => ⟨r32_1, fun k => absurd k (by decide), fun _ => ?_⟩⟩
          · rw [show ((lev : Int) + 1).toNat = lev + 1 by omega]
            exact (V2.2.2 (lev + 1) (by omega)).1
          · rw [z1', z2] at c4
            have same : (fun r => p r && rq n w (nN w - (f + 1)) r) = p := by
              funext r
              rcases Nat.lt_or_ge r 5056 with g | g
              · exact (cnt_same (m := 5056) (p := p) (q := fun r => p r && rq n w (nN w - (f + 1)) r) (fun r k => (Bool.and_eq_true _ _ ▸ k).1) (by omega) r g).symm
              · rw [(hp.a h3 h7).1 r g, Bool.false_and]
            have no : fsQ (AgP n w (fun r => p r && rq n w (nN w - (f + 1)) r)) (cmb (nN w) f k) = none := by
              rw [same]
              refine fsQ_no (fun x hx => ?_)
              have b := cmb_bc h16 f k (by omega) x hx
              exact hH x b.2.1 (by omega)
            unfold VX1_proofOf_119 VX1_proofOf_134
            exact ⟨r32_0, fun _ => nxt F2 V2 no, fun k => absurd rfl k⟩
          · refine ⟨by rw [f2.1]; exact hF.1, ihk (lev := lev + 1) (f := f) (by omega) (by omega) (by omega) (F2.ft hF) (F2.am (by omega) hM) V2 r2 ps' (hH.s hg hp hi' h16) (by omega) (by omega) (by omega) (by omega) rfl (fun S3 f3 V3 => oI_i ?_)⟩
            have F3 : Fi (lb + 3 * (lev + 1)) (lb + 120) S S3 := F2.tr (f3.wk (by omega) (by omega))
            unfold VX1_proofOf_119 VX1_proofOf_134
            cases o : fsQ (AgP n w (fun r => p r && rq n w (nN w - (f + 1)) r)) (cmb (nN w) f k) with
            | none => exact ⟨r32_0, fun _ => nxt F3 V3 o, fun k => absurd rfl k⟩
            | some x =>
              have b := cmb_bc h16 f k (by omega) x (fsQ_mem o)
              have x16 : 2 ^ nN w ≤ 2 ^ 16 := Nat.pow_le_pow_right (by decide) h16
              have i16 : 2 ^ (nN w - (f + 1)) ≤ 2 ^ 16 := Nat.pow_le_pow_right (by decide) (by omega)
              have nz := b.2.2 (by omega)
              show R32 ((x : Nat) : Int) ∧ _
              refine ⟨(by unfold R32; omega), fun k => absurd k (by show ¬ ((x : Nat) : Int) = 0; omega), fun _ => ?_⟩
              have := h S3 F3 V3
              rw [eq1, o] at this
              show Q (.inl (some (vI (iOr ((x : Nat) : Int) (iShl 1 ((nN w - (f + 1) : Nat) : Int)))))) S3
              rw [i1_shl (by omega), iOr_n (by omega) (by omega), Nat.or_comm]
              exact this
        · -- the last one
          have k0 : k = 0 := by omega
          subst k0
          have eq1 : fsQ (AgP n w p) (cmb (nN w) (f + 1) 1) = cD (AgP n w p (2 ^ (nN w - (f + 1)))) (some (2 ^ (nN w - (f + 1)))) (fsQ (AgP n w p) (cmb (nN w) f 1)) := by
            show fsQ _ ((cmb (nN w) f 0).map (fun x => 2 ^ (nN w - (f + 1)) ||| x) ++ cmb (nN w) f 1) = _
            rw [cmb_0]
            show cD (AgP n w p (2 ^ (nN w - (f + 1)) ||| 0)) (some (2 ^ (nN w - (f + 1)) ||| 0)) (fsQ (AgP n w p) (cmb (nN w) f 1)) = _
            rw [Nat.or_zero]
          unfold VX1_proofOf_134
          refine ⟨hF.1, ft+1, hF.2.1, ⟨hF.2.2.1, by omega, by omega, by rw [hF.2.2.2]; omega⟩, e, e1, hR.1.1, c_rMeets (by omega) hW.1 (hp.a h3 h7).2 hR e3 (fun v hv => oI_i ⟨hv.r, fun c5 => ?_, fun c5 => ?_⟩)⟩
          · have na : ¬ AgP n w p (2 ^ (nN w - (f + 1))) := fun z => (AgP_one hg hp hi').mp z (by rcases hv with ⟨-, k⟩ | ⟨rfl, -⟩; exact k; omega)
            have := ihf (S := S) (by omega) hF hM hV hR (fun S' F2 V2 => by
              have := h S' F2 V2
              rw [eq1, cD_n na] at this
              exact this)
            rw [show ((nN w - f : Nat) : Int) = ((nN w - (f + 1) : Nat) : Int) + 1 by omega] at this
            exact this
          · have ya : AgP n w p (2 ^ (nN w - (f + 1))) := (AgP_one hg hp hi').mpr (by rcases hv with ⟨rfl, -⟩ | ⟨-, k⟩; omega; exact k)
            have := h S Fi.rf hV
            rw [eq1, cD_y ya] at this
            rw [i1_shl (by omega)]
            exact this
    exact loop f hf hF hM hV hR h
/-! the search for it -/
theorem prF_0 {n : Nat} {w : Nat → Int} {j s : Nat} : prF n w (j + 1) s = match fsQ (Ag n w) (cmb (nN w) (nN w) s) with
    | some x => x
    | none => prF n w j (s + 1) := by
  show (match fsA n w (cmb (nN w) (nN w) s) with | some x => x | none => prF n w j (s + 1)) = _
  rw [fsA_Q]
theorem Hm_up {n s : Nat} {w : Nat → Int} (h16 : nN w ≤ 16) (h : Hm n w (whl n) s) (z : fsQ (Ag n w) (cmb (nN w) (nN w) s) = none) : Hm n w (whl n) (s + 1) := by
  intro x h1 h2 h3
  rcases Nat.lt_or_ge (bc x) s with c | c
  · exact h x h1 c h3
  · refine fsQ_none z x (cmb_has h16 (nN w) (Nat.le_refl _) s x (fun i hi => ⟨by omega, ?_⟩) (by omega)) (Ag_whl.mp h3)
    rcases Nat.lt_or_ge i (nN w) with g | g
    · exact g
    · rw [Nat.testBit_lt_two_pow (Nat.lt_of_lt_of_le h1 (Nat.pow_le_pow_right (by decide) g))] at hi
      exact absurd hi (by decide)
theorem Hm_1 {n : Nat} {w : Nat → Int} (hg : GW n w) : Hm n w (whl n) 1 := by
  intro x h1 h2 h3
  have h16 : nN w ≤ 16 := hg.2.2.1.2
  have := cmb_has h16 (nN w) (Nat.le_refl _) 0 x (fun i hi => ⟨by omega, ?_⟩) (by omega)
  · rw [cmb_0, List.mem_singleton] at this
    subst this
    exact h3 0 (whl_i.mpr (by have := fct_pos hg.1.1 hg.1.2.1; omega)) (Nat.and_zero _)
  · rcases Nat.lt_or_ge i (nN w) with g | g
    · exact g
    · rw [Nat.testBit_lt_two_pow (Nat.lt_of_lt_of_le h1 (Nat.pow_le_pow_right (by decide) g))] at hi
      exact absurd hi (by decide)
theorem kf_lp68 {d ft sr lv lb n lo hi : Nat} {w : Nat → Int} {Q : Out → MS → Prop} (hd : 24 ≤ d) (hlo : lb + 120 ≤ lo) (hsr : sr + 8 ≤ lb ∨ lb + 120 ≤ sr) : ∀ (j : Nat) {S : MS} {s : Nat}, s + j = nN w + 1 → 1 ≤ s → FT S ft → SS S sr n w → AM S ft n w lo hi (nN w) → LVL S lv lb → RS_ S lb (whl n) → Hm n w (whl n) s → (∀ S', Fi lb (lb + 120) S S' → LVL S' lv lb → Q (.inl (some (vI (prF n w j s : Nat)))) S') → VX1_leastProof_68 d Q (j + 1) ft sr lv 0 (s : Nat) S := by
  intro j
  induction j with
  | zero =>
    intro S s hs h1 hF hS hM hV hR hH h
    obtain ⟨hY, ⟨⟨w0, w1, w2, w3⟩, wt, wk, wn⟩, hg⟩ := hS
    have g0 := hg.1
    have g1 := hg.2.1
    have g2 := hg.2.2.1
    have g3 := hg.2.2.2.1
    have hl := hY
    unfold SY at hl
    unfold VX1_leastProof_68 VX1_leastProof_103
    rw [w2, g2.1]
    exact ⟨hl.1, ⟨(by unfold R32; omega), (by unfold R32; omega)⟩, fun _ => h S Fi.rf hV, fun c => by omega⟩
  | succ j ih =>
    intro S s hs h1 hF hS hM hV hR hH h
    have hS' := hS
    obtain ⟨hY, ⟨⟨w0, w1, w2, w3⟩, wt, wk, wn⟩, hg⟩ := hS
    have g0 := hg.1
    have g1 := hg.2.1
    have g2 := hg.2.2.1
    have g3 := hg.2.2.2.1
    have hl := hY
    unfold SY at hl
    unfold VX1_leastProof_68 VX1_leastProof_103
    rw [w2, g2.1]
    refine ⟨hl.1, ⟨(by unfold R32; omega), (by unfold R32; omega)⟩, fun c => by omega, fun _ => ⟨r32_0, fun k => absurd rfl k, fun _ => ⟨hl.1, hF.1, k_proofOf hg hlo s (lev := 0) (f := nN w) (by omega) h1 (by omega) hF hM hV hR whl_ps hH (Nat.le_refl _) rfl (by omega) rfl rfl (fun S1 f1 V1 => oI_i ?_)⟩⟩⟩
    have F1 : Fi lb (lb + 120) S S1 := f1.wk (by omega) (by omega)
    have eA : fsQ (AgP n w (whl n)) (cmb (nN w) (nN w) s) = fsQ (Ag n w) (cmb (nN w) (nN w) s) := fsQ_cong (fun x _ => Ag_whl)
    rw [eA]
    cases o : fsQ (Ag n w) (cmb (nN w) (nN w) s) with
    | none =>
      refine ih (s := s + 1) (by omega) (by omega) (f1.ft hF) (f1.ss (by omega) hS') (f1.am (by omega) hM) V1 (f1.rs (by omega) hR) (Hm_up (by omega) hH o) (fun S' f2 V2 => ?_)
      have := h S' (F1.tr f2) V2
      rw [prF_0, o] at this
      exact this
    | some x =>
      have b := cmb_bc (show nN w ≤ 16 by omega) (nN w) s (Nat.le_refl _) x (fsQ_mem o)
      have x16 : 2 ^ nN w ≤ 2 ^ 16 := Nat.pow_le_pow_right (by decide) (by omega)
      have nz := b.2.2 h1
      have fin := h S1 F1 V1
      rw [prF_0, o] at fin
      have S1' := f1.ss (by omega) hS'
      have k1 := S1'.2.1
      show VX1_leastProof_68 d Q (j + 1) ft sr lv ((x : Nat) : Int) ((s : Int) + 1) S1
      have i9 : S1.I sr 9 = (nN w : Nat) := by
        rw [f1.I (by omega), w2, g2.1]
      have K7 : S1.K sr = 7 := by rw [f1.1]; exact hl.1
      unfold VX1_leastProof_68 VX1_leastProof_103
      rw [i9]
      exact ⟨K7, ⟨(by unfold R32; omega), (by unfold R32; omega)⟩, fun _ => fin, fun _ => ⟨(by unfold R32; omega), fun _ => fin, fun k => absurd k (by omega)⟩⟩
/-- the rows that fit the first m notes -/
def allQ (n : Nat) (w : Nat → Int) : Nat → Nat → Bool
  | 0 => whl n
  | m + 1 => fun r => allQ n w m r && rq n w m r
theorem allQ_ps {n : Nat} {w : Nat → Int} : ∀ m, PS n (allQ n w m)
  | 0 => whl_ps
  | m + 1 => fun r hr => by
    show (_ && _) = false
    rw [allQ_ps m r hr, Bool.false_and]
theorem allQ_fit {n r : Nat} {w : Nat → Int} (hg : GW n w) : ∀ m, m ≤ nN w → (allQ n w m r = true ↔ r < fct n ∧ ∀ i, i < m → fitN n w r i = true)
  | 0, _ => by
    show whl n r = true ↔ _
    rw [whl_i]
    exact ⟨fun h => ⟨h, fun i hi => absurd hi (Nat.not_lt_zero i)⟩, fun h => h.1⟩
  | m + 1, hm => by
    show (allQ n w m r && rq n w m r) = true ↔ _
    rw [Bool.and_eq_true, allQ_fit hg m (by omega), rq_fit hg (by omega), Bool.and_eq_true, decide_eq_true_iff]
    constructor
    · rintro ⟨⟨a, b⟩, -, c⟩
      refine ⟨a, fun i hi => ?_⟩
      by_cases e : i = m
      · rw [e]; exact c
      · exact b i (by omega)
    · rintro ⟨a, b⟩
      exact ⟨⟨a, fun i hi => b i (by omega)⟩, a, b m (by omega)⟩
theorem Ag_all {n : Nat} {w : Nat → Int} (hg : GW n w) : Ag n w (2 ^ nN w - 1) ↔ ∀ r, allQ n w (nN w) r = false := by
  constructor
  · intro h r
    cases c : allQ n w (nN w) r
    · rfl
    · have := (allQ_fit hg (nN w) (Nat.le_refl _)).mp c
      obtain ⟨i, i1, i2, i3⟩ := mk_and.mp (h r this.1)
      rw [this.2 i i1] at i3
      exact absurd i3 (by decide)
  · intro h r hr
    refine Classical.byContradiction (fun k => ?_)
    have : allQ n w (nN w) r = true := (allQ_fit hg (nN w) (Nat.le_refl _)).mpr ⟨hr, fun i hi => ?_⟩
    · rw [h r] at this
      exact absurd this (by decide)
    · cases c : fitN n w r i
      · exact absurd (mk_and.mpr ⟨i, hi, by rw [Nat.testBit_two_pow_sub_one, decide_eq_true hi], c⟩) k
      · rfl
theorem kf_lp13 {d ft sr b lv lb n lo hi li : Nat} {w : Nat → Int} {Q : Out → MS → Prop} (hd : 24 ≤ d) (hlo : lb + 120 ≤ lo) (hsr : sr + 8 ≤ lb ∨ lb + 120 ≤ sr) : ∀ (j : Nat) {S : MS} {i : Nat}, i + j = nN w → FT S ft → SS S sr n w → AM S ft n w lo hi (nN w) → AR S b n lo hi li → LVL S lv lb → RS_ S lb (allQ n w i) → (∀ S', Fi lb (lb + 120) S S' → LVL S' lv lb → Q (.inl (some (vI (A_proof n w : Nat)))) S') → VX1_leastProof_13 d Q (j + 1) ft sr b lv (i : Nat) S := by
  intro j
  induction j with
  | zero =>
    intro S i hi hF hS hM hA hV hR h
    have hS' := hS
    obtain ⟨hY, ⟨⟨w0, w1, w2, w3⟩, wt, wk, wn⟩, hg⟩ := hS
    have g0 := hg.1
    have g1 := hg.2.1
    have g2 := hg.2.2.1
    have g3 := hg.2.2.2.1
    have hl := hY
    unfold SY at hl
    have hW := Wn_le g0.1 g0.2.1
    have z := hR.2.2.2.2
    have l1 := cntB_le (allQ n w i) 5056
    obtain ⟨c, c1, c2, c3⟩ := hA.2.1
    unfold VX1_leastProof_13
    rw [w2, g2.1]
    refine ⟨hl.1, ⟨(by unfold R32; omega), (by unfold R32; omega)⟩, fun _ => ⟨⟨hV.1, by omega, by omega, by rw [hV.2.1]; omega⟩, lb, (hV.2.2 0 (by omega)).1, hR.1.1, by rw [z]; exact (by unfold R32; omega), fun c4 => ⟨⟨hV.1, by omega, by omega, by rw [hV.2.1]; omega⟩, lb, (hV.2.2 0 (by omega)).1, hA.1.1, c, c1, hR.1.1, ?_⟩, fun c4 => ?_⟩, fun c => by omega⟩
    · rw [z] at c4
      have ag : Ag n w (2 ^ nN w - 1) := (Ag_all hg).mpr (fun r => by
        cases e : allQ n w (nN w) r
        · rfl
        · rw [show nN w = i by omega] at e
          have r5 : r < 5056 := by
            rcases Nat.lt_or_ge r 5056 with g | g
            · exact g
            · rw [((allQ_ps i).a g0.1 g0.2.1).1 r g] at e; exact absurd e (by decide)
          have := cntB_lt (p := fun _ => false) (q := allQ n w i) (n := 5056) (fun k _ g => absurd g (by decide)) ⟨r, r5, e, rfl⟩
          omega)
      refine c_rCopyAll (W := Wn n) (by omega) (by omega) hW.1 ((whl_ps (n := n)).a g0.1 g0.2.1).2 c3 hR (fun S1 f1 r1 => oV_i ⟨nN w + 1, ?_⟩)
      have F1 : Fi lb (lb + 120) S S1 := f1.wk (by omega) (by omega)
      have V1 : LVL S1 lv lb := LVL.fl (j := 0) hV f1 r1
      refine kf_lp68 hd hlo hsr (nN w) (s := 1) (by omega) (by omega) (F1.ft hF) (F1.ss (by omega) hS') (F1.am (by omega) hM) V1 r1 (Hm_1 hg) (fun S' f2 V2 => ?_)
      have := h S' (F1.tr f2) V2
      unfold A_proof at this
      rw [cD_y ag] at this
      exact this
    · rw [z] at c4
      have := h S Fi.rf hV
      unfold A_proof at this
      rw [cD_n] at this
      · exact this
      · intro ag
        have k := (Ag_all hg).mp ag
        rw [show nN w = i by omega] at k
        have : cntB (allQ n w i) 5056 = 0 := cntB_0 (fun r _ => k r)
        omega
  | succ j ih =>
    intro S i hi hF hS hM hA hV hR h
    have hS' := hS
    obtain ⟨hY, ⟨⟨w0, w1, w2, w3⟩, wt, wk, wn⟩, hg⟩ := hS
    have g0 := hg.1
    have g1 := hg.2.1
    have g2 := hg.2.2.1
    have g3 := hg.2.2.2.1
    have hl := hY
    unfold SY at hl
    have hW := Wn_le g0.1 g0.2.1
    obtain ⟨e, e1, e2, e3⟩ := hM i (by omega)
    unfold VX1_leastProof_13
    rw [w2, g2.1]
    refine ⟨hl.1, ⟨(by unfold R32; omega), (by unfold R32; omega)⟩, fun c => by omega, fun _ => ⟨⟨hV.1, by omega, by omega, by rw [hV.2.1]; omega⟩, lb, (hV.2.2 0 (by omega)).1, hF.1, ft+1, hF.2.1, ⟨hF.2.2.1, by omega, by omega, by rw [hF.2.2.2]; omega⟩, e, e1, hR.1.1, c_rNarrow (W := Wn n) (by omega) (by omega) hW.1 ((allQ_ps i).a g0.1 g0.2.1).2 hR e3 (fun S1 f1 r1 => oV_i ?_)⟩⟩
    have F1 : Fi lb (lb + 120) S S1 := f1.wk (by omega) (by omega)
    have V1 : LVL S1 lv lb := LVL.fl (j := 0) hV f1 r1
    exact ih (i := i + 1) (by omega) (F1.ft hF) (F1.ss (by omega) hS') (F1.am (by omega) hM) ((F1.fz (by omega)).ar hA) V1 r1 (fun S' f2 => h S' (F1.tr f2))
theorem k_leastProof {d ft sr b lv lb n lo hi li : Nat} {w : Nat → Int} {S : MS} {Q : Out → MS → Prop} (hd : 25 ≤ d) (hlo : lb + 120 ≤ lo) (hsr : sr + 8 ≤ lb ∨ lb + 120 ≤ sr) (hF : FT S ft) (hS : SS S sr n w) (hM : AM S ft n w lo hi (nN w)) (hA : AR S b n lo hi li) (hV : LVL S lv lb) (h : ∀ S', Fi lb (lb + 120) S S' → LVL S' lv lb → Q (.inl (some (vI (A_proof n w : Nat)))) S') : Mw hX1_leastProof yX1_leastProof d [vA ft, vA sr, vA b, vA lv] S Q := by
  have hS' := hS
  obtain ⟨hY, ⟨⟨w0, w1, w2, w3⟩, wt, wk, wn⟩, hg⟩ := hS
  have g0 := hg.1
  have g1 := hg.2.1
  have g2 := hg.2.2.1
  have g3 := hg.2.2.2.1
  have hl := hY
  unfold SY at hl
  have hW := Wn_le g0.1 g0.2.1
  obtain ⟨c, c1, c2, c3⟩ := hA.2.1
  obtain ⟨q0, hq0⟩ := (hV.2.2 0 (by omega)).2
  obtain ⟨dd, rfl⟩ : ∃ e, d = e + 1 := ⟨d - 1, by omega⟩
  refine MX1_leastProof ?_
  unfold VX1_leastProof_0
  refine ⟨⟨hV.1, by omega, by omega, by rw [hV.2.1]; omega⟩, lb, (hV.2.2 0 (by omega)).1, hA.1.1, c, c1, hq0.1.1, c_rCopyAll (a := lb) (W := Wn n) (by omega) (by omega) hW.1 ((whl_ps (n := n)).a g0.1 g0.2.1).2 c3 hq0 (fun S1 f1 r1 => oV_i ⟨nN w + 1, ?_⟩)⟩
  have F1 : Fi lb (lb + 120) S S1 := f1.wk (by omega) (by omega)
  have V1 : LVL S1 lv lb := LVL.fl (j := 0) hV f1 r1
  exact kf_lp13 (by omega) hlo hsr (nN w) (i := 0) (by omega) (F1.ft hF) (F1.ss (by omega) hS') (F1.am (by omega) hM) ((F1.fz (by omega)).ar hA) V1 r1 (fun S' f2 => h S' (F1.tr f2))
