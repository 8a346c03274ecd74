/-! sets of so many, in order -/
/-- k of those from hi - f up to hi, as masks -/
def cmb (hi : Nat) : Nat → Nat → List Nat
  | _, 0 => [0]
  | 0, _ + 1 => []
  | f + 1, k + 1 => (cmb hi f k).map (fun x => 2 ^ (hi - (f + 1)) ||| x) ++ cmb hi f (k + 1)
theorem cmb_0 (hi f : Nat) : cmb hi f 0 = [0] := by unfold cmb; rfl
theorem cmb_nil (hi : Nat) : ∀ (f k : Nat), f < k → cmb hi f k = []
  | _, 0, h => absurd h (Nat.not_lt_zero _)
  | 0, k + 1, _ => by unfold cmb; rfl
  | f + 1, k + 1, h => by
    unfold cmb
    rw [cmb_nil hi f k (by omega), cmb_nil hi f (k + 1) (by omega)]
    rfl
def mskC (c : Nat → Nat) : Nat → Nat
  | 0 => 0
  | i + 1 => mskC c i ||| 2 ^ c i
theorem mskC_cong {c e : Nat → Nat} : ∀ {i : Nat}, (∀ j, j < i → c j = e j) → mskC c i = mskC e i
  | 0, _ => rfl
  | i + 1, h => by
    unfold mskC
    rw [mskC_cong (i := i) (fun j hj => h j (by omega)), h i (by omega)]
theorem mskC_lt {c : Nat → Nat} {b : Nat} : ∀ {i : Nat}, (∀ j, j < i → c j < b) → mskC c i < 2 ^ b
  | 0, _ => Nat.two_pow_pos b
  | i + 1, h => Nat.or_lt_two_pow (mskC_lt (fun j hj => h j (by omega))) (Nat.pow_lt_pow_right (by decide) (h i (by omega)))
/-- those that come behind c and differ first at i -/
def aft (c : Nat → Nat) (k hi i : Nat) : List Nat := (cmb hi (hi - (c i + 1)) (k - i)).map (fun x => mskC c i ||| x)
def rem_ (c : Nat → Nat) (k hi i0 : Nat) : Nat → List Nat
  | 0 => []
  | j + 1 => aft c k hi (i0 + j) ++ rem_ c k hi i0 j
theorem rem_0 (c : Nat → Nat) (k hi i0 : Nat) : ∀ q, rem_ c k hi i0 (q + 1) = rem_ c k hi (i0 + 1) q ++ aft c k hi i0
  | 0 => by simp [rem_]
  | q + 1 => by
    show aft c k hi (i0 + (q + 1)) ++ rem_ c k hi i0 (q + 1) = (aft c k hi (i0 + 1 + q) ++ rem_ c k hi (i0 + 1) q) ++ _
    rw [rem_0 c k hi i0 q, show i0 + 1 + q = i0 + (q + 1) by omega, List.append_assoc]
theorem rem_split (c : Nat → Nat) (k hi i0 : Nat) : ∀ q, rem_ c k hi 0 (i0 + q) = rem_ c k hi i0 q ++ rem_ c k hi 0 i0
  | 0 => by simp [rem_]
  | q + 1 => by
    show aft c k hi (0 + (i0 + q)) ++ rem_ c k hi 0 (i0 + q) = (aft c k hi (i0 + q) ++ rem_ c k hi i0 q) ++ _
    rw [rem_split c k hi i0 q, Nat.zero_add, List.append_assoc]
theorem rem_nil {c : Nat → Nat} {k hi i0 : Nat} : ∀ {q : Nat}, (∀ j, j < q → aft c k hi (i0 + j) = []) → rem_ c k hi i0 q = []
  | 0, _ => rfl
  | q + 1, h => by
    unfold rem_
    rw [h q (by omega), rem_nil (q := q) (fun j hj => h j (by omega))]
    rfl
theorem rem_cong {c e : Nat → Nat} {k hi : Nat} : ∀ {q : Nat}, (∀ j, j < q → c j = e j) → rem_ c k hi 0 q = rem_ e k hi 0 q
  | 0, _ => rfl
  | q + 1, h => by
    unfold rem_ aft
    rw [rem_cong (q := q) (fun j hj => h j (by omega)), Nat.zero_add, h q (by omega), mskC_cong (i := q) (fun j hj => h j (by omega))]
theorem cmb_first (hi : Nat) : ∀ (q f i0 : Nat) (c : Nat → Nat), q ≤ f → f ≤ hi → (∀ j, j < q → c (i0 + j) = hi - f + j) → (cmb hi f q).map (fun x => mskC c i0 ||| x) = mskC c (i0 + q) :: rem_ c (i0 + q) hi i0 q
  | 0, f, i0, c, _, _, _ => by
    rw [cmb_0]
    simp [rem_]
  | q + 1, 0, _, _, h, _, _ => by omega
  | q + 1, f + 1, i0, c, h1, h2, h3 => by
    have e0 := h3 0 (by omega)
    rw [Nat.add_zero, Nat.add_zero] at e0
    rw [show cmb hi (f + 1) (q + 1) = (cmb hi f q).map (fun x => 2 ^ (hi - (f + 1)) ||| x) ++ cmb hi f (q + 1) by rw [cmb], List.map_append, List.map_map]
    have e1 : ((fun x => mskC c i0 ||| x) ∘ fun x => 2 ^ (hi - (f + 1)) ||| x) = fun x => mskC c (i0 + 1) ||| x := by
      funext x
      show mskC c i0 ||| (2 ^ (hi - (f + 1)) ||| x) = (mskC c i0 ||| 2 ^ c i0) ||| x
      rw [e0, Nat.or_assoc]
    rw [e1, cmb_first hi q f (i0 + 1) c (by omega) (by omega) (fun j hj => by rw [show i0 + 1 + j = i0 + (j + 1) by omega, h3 (j + 1) (by omega)]; omega), rem_0, show i0 + 1 + q = i0 + (q + 1) by omega]
    have e2 : aft c (i0 + (q + 1)) hi i0 = (cmb hi f (q + 1)).map (fun x => mskC c i0 ||| x) := by
      unfold aft
      rw [e0, show hi - (hi - (f + 1) + 1) = f by omega, show i0 + (q + 1) - i0 = q + 1 by omega]
    rw [e2]
    rfl
/-- the next one -/
def bump (c : Nat → Nat) (i : Nat) : Nat → Nat := fun j => if j < i then c j else c i + 1 + (j - i)
theorem rem_step {c : Nat → Nat} {k hi i : Nat} (hk : k ≤ hi) (hi1 : i < k) (hc : c i + k < hi + i) (hr : ∀ j, i < j → j < k → c j + k = hi + j) : rem_ c k hi 0 k = mskC (bump c i) k :: rem_ (bump c i) k hi 0 k := by
  have e1 := rem_split c k hi (i + 1) (k - (i + 1))
  rw [show i + 1 + (k - (i + 1)) = k by omega] at e1
  have e2 : rem_ c k hi (i + 1) (k - (i + 1)) = [] := by
    refine rem_nil (fun j hj => ?_)
    unfold aft
    have := hr (i + 1 + j) (by omega) (by omega)
    rw [cmb_nil hi _ _ (by omega)]
    rfl
  have e3 : rem_ c k hi 0 (i + 1) = aft c k hi i ++ rem_ c k hi 0 i := by
    show aft c k hi (0 + i) ++ _ = _
    rw [Nat.zero_add]
  have e4 := cmb_first hi (k - i) (hi - (c i + 1)) i (bump c i) (by omega) (by omega) (fun j hj => by unfold bump; rw [if_neg (by omega)]; omega)
  have e5 : mskC (bump c i) i = mskC c i := mskC_cong (fun j hj => by unfold bump; rw [if_pos hj])
  rw [e5, show i + (k - i) = k by omega] at e4
  have e6 : aft c k hi i = mskC (bump c i) k :: rem_ (bump c i) k hi i (k - i) := e4
  have e7 : rem_ (bump c i) k hi 0 i = rem_ c k hi 0 i := rem_cong (fun j hj => by unfold bump; rw [if_pos hj])
  have e8 := rem_split (bump c i) k hi i (k - i)
  rw [show i + (k - i) = k by omega] at e8
  rw [e1, e2, List.nil_append, e3, e6, e8, e7]
  rfl
theorem cmb_all {k hi : Nat} (hk : k ≤ hi) : cmb hi hi k = mskC id k :: rem_ id k hi 0 k := by
  have := cmb_first hi k hi 0 id hk (Nat.le_refl _) (fun j hj => by show 0 + j = _; omega)
  rw [Nat.zero_add] at this
  rw [← this]
  show cmb hi hi k = (cmb hi hi k).map (fun x => 0 ||| x)
  simp
/-- what is chosen -/
def Ch (S : MS) (m : Nat) (c : Nat → Nat) (k : Nat) : Prop := ∀ j, j < k → S.I (m+12) j = (c j : Nat)
def ChI (c : Nat → Nat) (k hi : Nat) : Prop := ∀ j, j < k → c j + k ≤ hi + j
theorem f_ch49 {d m k i : Nat} {c : Nat → Nat} {Q : Out → MS → Prop} (hk : k ≤ 16) (hi : i < k) : ∀ (j : Nat) {S : MS} {p : Nat}, RLay S m → p + j = k → i < p → Ch S m (bump c i) p → (∀ S', Fr m [12] [] S S' → Ch S' m (bump c i) k → Q (.inl (some (vI 1))) S') → VX11_chooses_49 d Q (j + 1) m (k : Nat) (p : Nat) S := by
  intro j
  induction j with
  | zero =>
    intro S p hL hp hip hc h
    unfold VX11_chooses_49
    refine ⟨⟨(by unfold R32; omega), (by unfold R32; omega)⟩, fun _ => ⟨b01_1, h S Fr.rf ?_⟩, fun c => by omega⟩
    rw [show k = p by omega]
    exact hc
  | succ j ih =>
    intro S p hL hp hip hc h
    have hl := hL
    unfold RLay at hl
    unfold VX11_chooses_49
    refine ⟨⟨(by unfold R32; omega), (by unfold R32; omega)⟩, fun _ => by omega, fun cc => ?_⟩
    simp only [hl, sI_K, sI_N, sI_R, sI_J, Option.some.injEq, exists_eq_left', true_and, and_true, Int.toNat_zero, Int.reduceToNat, Int.reduceLT, Int.reduceLE, Int.cast_ofNat_Int, forall_eq, ge_iff_le, Int.reduceNeg, Int.reduceAdd, Int.reduceSub, Int.reduceMul, Int.reduceEq, r32_0, r32_1, r32_m1, b01_0, b01_1, not_true_eq_false, not_false_eq_true, false_implies, true_implies, implies_true, forall_const]
    rw [Int.toNat_natCast, show ((p : Int) - 1).toNat = p - 1 by omega, hc (p - 1) (by omega)]
    refine ⟨by omega, by omega, ih (p := p + 1) (by exact hL) (by omega) (by omega) (fun q hq => ?_) (fun S' f => h S' ((Fr.sA (by decide) (by decide)).tr f))⟩
    rw [sI_I]
    by_cases g : q = p
    · rw [if_pos ⟨rfl, g⟩, g]
      unfold bump
      rw [if_neg (by omega), if_neg (by omega)]
      omega
    · rw [if_neg (fun k => g k.2), hc q (by omega)]
theorem f_ch4 {d m k hi : Nat} {c : Nat → Nat} {S : MS} {Q : Out → MS → Prop} (hL : RLay S m) (hk : k ≤ 16) (hkh : k ≤ hi) (hhi : hi ≤ 1000) (hc : Ch S m c k) (hI : ChI c k hi) (h0 : rem_ c k hi 0 k = [] → Q (.inl (some (vI 0))) S)
    (h1 : ∀ e S', Fr m [12] [] S S' → Ch S' m e k → ChI e k hi → rem_ c k hi 0 k = mskC e k :: rem_ e k hi 0 k → Q (.inl (some (vI 1))) S') : ∀ (j : Nat) (x : Int), j ≤ k → x = (j : Int) - 1 → (∀ q, j ≤ q → q < k → c q + k = hi + q) → VX11_chooses_4 d Q (j + 1) m (k : Nat) (hi : Nat) x S := by
  intro j
  induction j with
  | zero =>
    intro x hj hx hr
    subst hx
    unfold VX11_chooses_4 VX11_chooses_28
    refine ⟨(by unfold R32; omega), fun _ => ⟨(by unfold R32; omega), fun c => by omega, fun _ => ⟨b01_0, h0 (rem_nil (fun j hj => ?_))⟩⟩, fun c => by omega⟩
    unfold aft
    have := hr (0 + j) (by omega) (by omega)
    rw [cmb_nil hi _ _ (by omega)]
    rfl
  | succ j ih =>
    intro x hj hx hr
    have hl := hL
    unfold RLay at hl
    rw [show x = (j : Nat) by omega]
    have q1 := hI j (by omega)
    unfold VX11_chooses_4 VX11_chooses_28
    refine ⟨(by unfold R32; omega), fun c => by omega, fun _ => ?_⟩
    simp only [hl, sI_K, sI_N, sI_R, sI_J, Option.some.injEq, exists_eq_left', true_and, and_true, Int.toNat_zero, Int.reduceToNat, Int.reduceLT, Int.reduceLE, Int.cast_ofNat_Int, forall_eq, ge_iff_le, Int.reduceNeg, Int.reduceAdd, Int.reduceSub, Int.reduceMul, Int.reduceEq, r32_0, r32_1, r32_m1, b01_0, b01_1, not_true_eq_false, not_false_eq_true, false_implies, true_implies, implies_true, forall_const]
    rw [Int.toNat_natCast, hc j (by omega)]
    refine ⟨by omega, ⟨(by unfold R32; omega), (by unfold R32; omega)⟩, fun g => ⟨(by unfold R32; omega), fun _ => ⟨by omega, by omega, k - (j + 1) + 1, ?_⟩, fun c => by omega⟩, fun g => ih _ (by omega) (by omega) (fun q h1 h2 => ?_)⟩
    · rw [(show ∀ (k : Nat), (k : Int) + 1 = ((k + 1 : Nat) : Int) from fun _ => rfl) j]
      have hst := rem_step (c := c) (k := k) (hi := hi) (i := j) hkh (by omega) (by omega) (fun q h1 h2 => hr q (by omega) h2)
      refine f_ch49 (i := j) (c := c) hk (by omega) (k - (j + 1)) (p := j + 1) (by exact hL) (by omega) (by omega) (fun q hq => ?_) (fun S' f k1 => h1 (bump c j) S' ((Fr.sA (by decide) (by decide)).tr f) k1 (fun q hq => ?_) hst)
      · rw [sI_I]
        unfold bump
        by_cases g2 : q = j
        · rw [if_pos ⟨rfl, g2⟩, if_neg (by omega)]
          omega
        · rw [if_neg (fun k => g2 k.2), if_pos (by omega), hc q (by omega)]
      · unfold bump
        split
        · exact hI q hq
        · omega
    · by_cases g2 : q = j
      · rw [g2]; omega
      · exact hr q (by omega) h2
theorem c_chooses {d m k hi : Nat} {c : Nat → Nat} {S : MS} {Q : Out → MS → Prop} {x y : Int} (hd : 1 ≤ d) (hL : RLay S m) (e1 : x = (k : Int)) (e2 : y = (hi : Int)) (hk : k ≤ 16) (hkh : k ≤ hi) (hhi : hi ≤ 1000) (hc : Ch S m c k) (hI : ChI c k hi) (h0 : rem_ c k hi 0 k = [] → Q (.inl (some (vI 0))) S)
    (h1 : ∀ e S', Fr m [12] [] S S' → Ch S' m e k → ChI e k hi → rem_ c k hi 0 k = mskC e k :: rem_ e k hi 0 k → Q (.inl (some (vI 1))) S') : Mw hX11_chooses yX11_chooses d [vA m, vI x, vI y] S Q := by
  subst e1 e2
  obtain ⟨dd, rfl⟩ : ∃ e, d = e + 1 := ⟨d - 1, by omega⟩
  refine MX11_chooses ?_
  unfold VX11_chooses_0
  exact ⟨_, f_ch4 hL hk hkh hhi hc hI h0 h1 k _ (Nat.le_refl _) rfl (fun q a b => by omega)⟩
theorem f_cb {d m k : Nat} {c : Nat → Nat} {S : MS} {Q : Out → MS → Prop} (hL : RLay S m) (hk : k ≤ 16) (hc : Ch S m c k) (hb : ∀ j, j < k → c j < 30) (h : Q (.inl (some (vI (mskC c k : Nat)))) S) : ∀ (j : Nat) {p : Nat}, p + j = k → VX11_chosenBits_4 d Q (j + 1) m (k : Nat) (mskC c p : Nat) (p : Nat) S := by
  intro j
  induction j with
  | zero =>
    intro p hp
    unfold VX11_chosenBits_4
    refine ⟨⟨(by unfold R32; omega), (by unfold R32; omega)⟩, fun _ => ?_, fun c => by omega⟩
    rw [show p = k by omega]
    exact h
  | succ j ih =>
    intro p hp
    have hl := hL
    unfold RLay at hl
    unfold VX11_chosenBits_4
    refine ⟨⟨(by unfold R32; omega), (by unfold R32; omega)⟩, fun _ => by omega, fun cc => ?_⟩
    simp only [hl, sI_K, sI_N, sI_R, sI_J, Option.some.injEq, exists_eq_left', true_and, and_true, Int.toNat_zero, Int.reduceToNat, Int.reduceLT, Int.reduceLE, Int.cast_ofNat_Int, forall_eq, ge_iff_le, Int.reduceNeg, Int.reduceAdd, Int.reduceSub, Int.reduceMul, Int.reduceEq, r32_0, r32_1, r32_m1, b01_0, b01_1, not_true_eq_false, not_false_eq_true, false_implies, true_implies, implies_true, forall_const]
    have q1 := mskC_lt (c := c) (b := 30) (i := p) (fun q hq => hb q (by omega))
    have q2 := hb p (by omega)
    have q3 : 2 ^ c p ≤ 2 ^ 29 := Nat.pow_le_pow_right (by decide) (by omega)
    rw [Int.toNat_natCast, hc p (by omega), i1_shl (by omega), iOr_n (by omega) (by omega), (show ∀ (k : Nat), (k : Int) + 1 = ((k + 1 : Nat) : Int) from fun _ => rfl) p]
    exact ⟨by omega, ih (p := p + 1) (by omega)⟩
theorem c_chosenBits {d m k : Nat} {c : Nat → Nat} {S : MS} {Q : Out → MS → Prop} {x : Int} (hd : 1 ≤ d) (hL : RLay S m) (e1 : x = (k : Int)) (hk : k ≤ 16) (hc : Ch S m c k) (hb : ∀ j, j < k → c j < 30) (h : Q (.inl (some (vI (mskC c k : Nat)))) S) : Mw hX11_chosenBits yX11_chosenBits d [vA m, vI x] S Q := by
  subst e1
  obtain ⟨dd, rfl⟩ : ∃ e, d = e + 1 := ⟨d - 1, by omega⟩
  refine MX11_chosenBits ?_
  unfold VX11_chosenBits_0
  exact ⟨_, f_cb hL hk hc hb h k (p := 0) (by omega)⟩
/-- the sets that are listed -/
def SL (S : MS) (m : Nat) (L : List Nat) : Prop := S.I m 23 = (L.length : Int) ∧ ∀ k, k < L.length → S.I (m+13) k = (L.getD k 0 : Nat)
theorem Fr.sl {m : Nat} {L : List Nat} {A B : List Nat} {S S1 : MS} (h : Fr m A B S S1) (h1 : 13 ∉ A) (h2 : 23 ∉ B) (k : SL S m L) : SL S1 m L := by
  unfold SL at k ⊢
  rw [h.arr (by decide) h1, h.fld h2]
  exact k
theorem Fr.ch {m : Nat} {c : Nat → Nat} {k : Nat} {A B : List Nat} {S S1 : MS} (h : Fr m A B S S1) (h1 : 12 ∉ A) (q : Ch S m c k) : Ch S1 m c k := by
  unfold Ch at q ⊢
  rw [h.arr (by decide) h1]
  exact q
theorem SL.push {S : MS} {m : Nat} {L : List Nat} {r : Nat} (h : SL S m L) : SL ((S.setI (m+13) L.length (r : Int)).setI m 23 ((L.length : Int) + 1)) m (L ++ [r]) := by
  refine ⟨?_, fun k hk => ?_⟩
  · rw [sI_I, if_pos ⟨rfl, rfl⟩, List.length_append]
    rfl
  · rw [List.length_append, List.length_singleton] at hk
    rw [sI_Ia (by omega), sI_I, List.getD_eq_getElem?_getD]
    by_cases c : k = L.length
    · rw [if_pos ⟨rfl, by omega⟩, c, List.getElem?_append_right (Nat.le_refl _), Nat.sub_self]
      rfl
    · rw [if_neg (by omega), List.getElem?_append_left (by omega), ← List.getD_eq_getElem?_getD]
      exact h.2 k (by omega)
theorem f_ls36 {d m n k : Nat} {w : Nat → Int} {Q : Out → MS → Prop} (hd : 1 ≤ d) (hg : GW n w) (hk : k ≤ n) (hlen : (cmb n n k).length ≤ 35) : ∀ (j : Nat) {S : MS} {c : Nat → Nat} {L : List Nat}, RLay S m → S.I (m+1) = w → Ch S m c k → ChI c k n → SL S m L → (rem_ c k n 0 k).length = j → L ++ (mskC c k :: rem_ c k n 0 k) = cmb n n k → (∀ S', Fr m [12, 13] [23] S S' → SL S' m (cmb n n k) → Q (.inl none) S') → VX11_listsSets_36 d Q (j + 2) m (k : Nat) 1 S := by
  have h37 := hg.1
  intro j
  induction j with
  | zero =>
    intro S c L hL hw hc hI hs hj hr h
    have hl := hL
    unfold RLay at hl
    have e0 : rem_ c k n 0 k = [] := List.eq_nil_of_length_eq_zero hj
    have hll : L.length < 35 := by rw [← hr, List.length_append, List.length_cons] at hlen; omega
    unfold VX11_listsSets_36
    simp only [hl, sI_K, sI_N, sI_R, sI_J, Option.some.injEq, exists_eq_left', true_and, and_true, Int.toNat_zero, Int.reduceToNat, Int.reduceLT, Int.reduceLE, Int.cast_ofNat_Int, forall_eq, ge_iff_le, Int.reduceNeg, Int.reduceAdd, Int.reduceSub, Int.reduceMul, Int.reduceEq, r32_0, r32_1, r32_m1, b01_0, b01_1, not_true_eq_false, not_false_eq_true, false_implies, true_implies, implies_true, forall_const]
    refine c_chosenBits (c := c) (k := k) (by omega) hL rfl (by omega) hc (fun j hj => by have := hI j hj; omega) (oI_i ?_)
    simp only [hl, sI_K, sI_N, sI_R, sI_J, Option.some.injEq, exists_eq_left', true_and, and_true, Int.toNat_zero, Int.reduceToNat, Int.reduceLT, Int.reduceLE, Int.cast_ofNat_Int, forall_eq, ge_iff_le, Int.reduceNeg, Int.reduceAdd, Int.reduceSub, Int.reduceMul, Int.reduceEq, r32_0, r32_1, r32_m1, b01_0, b01_1, not_true_eq_false, not_false_eq_true, false_implies, true_implies, implies_true, forall_const]
    rw [hs.1, Int.toNat_natCast, sI_Ia (by omega), hs.1]
    have p := SL.push (r := mskC c k) hs
    have f1 : Fr m [12, 13] [23] S ((S.setI (m+13) L.length (mskC c k : Nat)).setI m 23 ((L.length : Int) + 1)) := (Fr.sA (by decide) (by decide)).tr (Fr.sB (by decide))
    rw [e0] at hr
    rw [hr] at p
    refine ⟨by omega, c_things (by omega) (f1.lay hL) (oI_i ?_)⟩
    rw [f1.arr (by decide) (by decide), hw, h37.2.2]
    refine ⟨hL.1, c_chooses (c := c) (k := k) (hi := n) (by omega) (f1.lay hL) rfl rfl (by omega) hk (by omega) (fun j hj => ?_) hI (fun _ => oI_i ?_) (fun e S' _ _ _ k4 => ?_)⟩
    · rw [sI_Ia (by omega), sI_Ia (by omega)]; exact hc j hj
    · unfold VX11_listsSets_36
      exact ⟨r32_0, fun _ => h _ f1 p, fun c => absurd rfl c⟩
    · rw [e0] at k4
      exact absurd k4 (by simp)
  | succ j ih =>
    intro S c L hL hw hc hI hs hj hr h
    have hl := hL
    unfold RLay at hl
    have hll : L.length < 35 := by rw [← hr, List.length_append, List.length_cons] at hlen; omega
    unfold VX11_listsSets_36
    simp only [hl, sI_K, sI_N, sI_R, sI_J, Option.some.injEq, exists_eq_left', true_and, and_true, Int.toNat_zero, Int.reduceToNat, Int.reduceLT, Int.reduceLE, Int.cast_ofNat_Int, forall_eq, ge_iff_le, Int.reduceNeg, Int.reduceAdd, Int.reduceSub, Int.reduceMul, Int.reduceEq, r32_0, r32_1, r32_m1, b01_0, b01_1, not_true_eq_false, not_false_eq_true, false_implies, true_implies, implies_true, forall_const]
    refine c_chosenBits (c := c) (k := k) (by omega) hL rfl (by omega) hc (fun j hj => by have := hI j hj; omega) (oI_i ?_)
    simp only [hl, sI_K, sI_N, sI_R, sI_J, Option.some.injEq, exists_eq_left', true_and, and_true, Int.toNat_zero, Int.reduceToNat, Int.reduceLT, Int.reduceLE, Int.cast_ofNat_Int, forall_eq, ge_iff_le, Int.reduceNeg, Int.reduceAdd, Int.reduceSub, Int.reduceMul, Int.reduceEq, r32_0, r32_1, r32_m1, b01_0, b01_1, not_true_eq_false, not_false_eq_true, false_implies, true_implies, implies_true, forall_const]
    rw [hs.1, Int.toNat_natCast, sI_Ia (by omega), hs.1]
    have p := SL.push (r := mskC c k) hs
    have f1 : Fr m [12, 13] [23] S ((S.setI (m+13) L.length (mskC c k : Nat)).setI m 23 ((L.length : Int) + 1)) := (Fr.sA (by decide) (by decide)).tr (Fr.sB (by decide))
    refine ⟨by omega, c_things (by omega) (f1.lay hL) (oI_i ?_)⟩
    rw [f1.arr (by decide) (by decide), hw, h37.2.2]
    refine ⟨hL.1, c_chooses (c := c) (k := k) (hi := n) (by omega) (f1.lay hL) rfl rfl (by omega) hk (by omega) (fun j hj => ?_) hI (fun e0 => ?_) (fun e S' f2 k2 k3 k4 => oI_i ?_)⟩
    · rw [sI_Ia (by omega), sI_Ia (by omega)]; exact hc j hj
    · rw [e0] at hj
      exact absurd hj (by simp)
    · rw [k4] at hr hj
      rw [List.length_cons] at hj
      refine ih (c := e) (L := L ++ [mskC c k]) (f2.lay (f1.lay hL)) (by rw [f2.arr (by decide) (by decide), f1.arr (by decide) (by decide), hw]) k2 k3 (f2.sl (by decide) (by decide) p) (by omega) ?_ (fun S'' f3 k5 => h S'' (f1.tr ((f2.wk (by decide) (by decide)).tr f3)) k5)
      rw [← hr, List.append_assoc]
      rfl
theorem f_ls16 {d m n k : Nat} {w : Nat → Int} {Q : Out → MS → Prop} (hd : 1 ≤ d) (hg : GW n w) (hk : k ≤ n) (hlen : (cmb n n k).length ≤ 35) : ∀ (j : Nat) {S : MS} {p : Nat}, RLay S m → S.I (m+1) = w → S.I m 23 = 0 → p + j = k → Ch S m id p → (∀ S', Fr m [12, 13] [23] S S' → SL S' m (cmb n n k) → Q (.inl none) S') → VX11_listsSets_16 d Q (j + 1) m (k : Nat) (p : Nat) S := by
  have h37 := hg.1
  intro j
  induction j with
  | zero =>
    intro S p hL hw h23 hp hc h
    unfold VX11_listsSets_16
    rw [show p = k by omega] at hc
    refine ⟨⟨(by unfold R32; omega), (by unfold R32; omega)⟩, fun _ => ⟨(rem_ id k n 0 k).length + 2, f_ls36 hd hg hk hlen _ (c := id) (L := []) hL hw hc (fun j hj => by show j + k ≤ _; omega) ⟨h23, fun k hk => absurd hk (Nat.not_lt_zero k)⟩ rfl (by rw [List.nil_append, cmb_all hk]) h⟩, fun c => by omega⟩
  | succ j ih =>
    intro S p hL hw h23 hp hc h
    have hl := hL
    unfold RLay at hl
    unfold VX11_listsSets_16
    refine ⟨⟨(by unfold R32; omega), (by unfold R32; omega)⟩, fun _ => by omega, fun cc => ?_⟩
    simp only [hl, sI_K, sI_N, sI_R, sI_J, Option.some.injEq, exists_eq_left', true_and, and_true, Int.toNat_zero, Int.reduceToNat, Int.reduceLT, Int.reduceLE, Int.cast_ofNat_Int, forall_eq, ge_iff_le, Int.reduceNeg, Int.reduceAdd, Int.reduceSub, Int.reduceMul, Int.reduceEq, r32_0, r32_1, r32_m1, b01_0, b01_1, not_true_eq_false, not_false_eq_true, false_implies, true_implies, implies_true, forall_const]
    rw [Int.toNat_natCast]
    refine ⟨by omega, ih (p := p + 1) (by exact hL) (by rw [sI_Ia (by omega)]; exact hw) (by rw [sI_Ia (by omega)]; exact h23) (by omega) (fun q hq => ?_) (fun S' f => h S' ((Fr.sA (by decide) (by decide)).tr f))⟩
    rw [sI_I]
    by_cases g : q = p
    · rw [if_pos ⟨rfl, g⟩, g]; rfl
    · rw [if_neg (fun k => g k.2)]
      exact hc q (by omega)
theorem c_listsSets {d m n k : Nat} {S : MS} {Q : Out → MS → Prop} {x : Int} (hd : 2 ≤ d) (hL : RLay S m) (hg : GW n (S.I (m+1))) (e1 : x = (k : Int)) (hk : k ≤ 4) (hlen : (cmb n n k).length ≤ 35) (h : ∀ S', Fr m [12, 13] [23] S S' → SL S' m (cmb n n k) → Q (.inl none) S') : Mw hX11_listsSets yX11_listsSets d [vA m, vI x] S Q := by
  subst e1
  have h37 := hg.1
  obtain ⟨dd, rfl⟩ : ∃ e, d = e + 1 := ⟨d - 1, by omega⟩
  refine MX11_listsSets ?_
  have hl := hL
  unfold RLay at hl
  unfold VX11_listsSets_0
  simp only [hl, sI_K, sI_N, sI_R, sI_J, Option.some.injEq, exists_eq_left', true_and, and_true, Int.toNat_zero, Int.reduceToNat, Int.reduceLT, Int.reduceLE, Int.cast_ofNat_Int, forall_eq, ge_iff_le, Int.reduceNeg, Int.reduceAdd, Int.reduceSub, Int.reduceMul, Int.reduceEq, r32_0, r32_1, r32_m1, b01_0, b01_1, not_true_eq_false, not_false_eq_true, false_implies, true_implies, implies_true, forall_const]
  refine c_things (by omega) (by exact hL) (oI_i ?_)
  rw [sI_Ia (by omega), h37.2.2]
  refine ⟨⟨(by unfold R32; omega), (by unfold R32; omega)⟩, fun c => ⟨k + 1, f_ls16 (w := S.I (m+1)) (by omega) hg (by omega) hlen k (p := 0) (by exact hL) (sI_Ia (by omega)) (by rw [sI_I, if_pos ⟨rfl, rfl⟩]) (by omega) (fun j hj => absurd hj (Nat.not_lt_zero j)) (fun S' f => h S' ((Fr.sB (by decide)).tr f))⟩, fun c => h _ (Fr.sB (by decide)) ?_⟩
  rw [cmb_nil n n k (by omega)]
  exact ⟨by rw [sI_I, if_pos ⟨rfl, rfl⟩]; rfl, fun k hk => absurd hk (Nat.not_lt_zero k)⟩
theorem cmb_ok : ∀ n, n < 8 → ∀ k, k < 5 → 2 ≤ k → (cmb n n k).length ≤ 35 ∧ ∀ x ∈ cmb n n k, x < 2 ^ n ∧ pc x = k := by decide +kernel
