/-! rows whose mirror is left too; how far a row is from the rows left -/
theorem ls_fct {n : Nat} {p : Nat → Bool} (h3 : 3 ≤ n) (h7 : n ≤ 7) (hp : PS n p) : (lsR p 5056).length ≤ fct n := by
  have hf := fct_le h3 h7
  obtain ⟨j, hj⟩ : ∃ j, 5056 = fct n + j := ⟨5056 - fct n, by omega⟩
  rw [hj, lsR_tail j (fun r h1 _ => hp r h1), lsR_len]
  exact cntB_le _ _
theorem kf_mirrored {d b n lo hi li a : Nat} {p : Nat → Bool} {S : MS} {Q : Out → MS → Prop} (hd : 3 ≤ d) (h3 : 3 ≤ n) (h7 : n ≤ 7) (hA : AR S b n lo hi li) (hR : RS_ S a p) (hp : PS n p) (hL : ∀ k, k < (lsR p 5056).length → S.I li k = ((lsR p 5056).getD k 0 : Nat)) (h : Q (.inl (some (vI (ct (fun r => p (mir n r)) (lsR p 5056) : Nat)))) S) : ∀ (j : Nat) {k : Nat}, k + j = (lsR p 5056).length → VX0_mirrored_14 d Q (j + 1) b a ((lsR p 5056).length : Nat) (ct (fun r => p (mir n r)) ((lsR p 5056).take k) : Nat) (k : Nat) S := by
  have hf := fct_le h3 h7
  have a1 := hA.1.1
  obtain ⟨l1, l2, l3, l4⟩ := hA.2.2.2.1
  have b5 : (lsR p 5056).length ≤ fct n := ls_fct h3 h7 hp
  intro j
  induction j with
  | zero =>
    intro k hk
    unfold VX0_mirrored_14
    refine ⟨⟨(by unfold R32; omega), (by unfold R32; omega)⟩, fun _ => ?_, fun c => by omega⟩
    rw [show (lsR p 5056).take k = lsR p 5056 by rw [show k = (lsR p 5056).length by omega]; exact List.take_length]
    exact h
  | succ j ih =>
    intro k hk
    have hkl : k < (lsR p 5056).length := by omega
    have hm := hp.m _ (getD_mem hkl)
    have m1 := mir_row h3 h7 hm.1
    have ih' := ih (k := k + 1) (by omega)
    rw [ct_s hkl] at ih'
    unfold VX0_mirrored_14 VX0_mirrored_52
    refine ⟨⟨(by unfold R32; omega), (by unfold R32; omega)⟩, fun c => by omega, fun _ => ⟨a1, li, l1, ⟨l3, by omega, by rw [l4]; omega⟩, a1, ?_⟩⟩
    rw [Int.toNat_natCast, hL k hkl]
    refine k_packed (by omega) h3 h7 hA rfl hm.1 (oI_i ⟨a1, k_mirror (by omega) h3 h7 hA rfl hm.1 (oI_i ⟨a1, k_numberOf (by omega) h3 h7 hA rfl m1.1 (oI_i ⟨hR.1.1, c_rHas (by omega) hR rfl (by omega) (fun v hv => oI_i ⟨hv.r, fun c => ?_, fun c => ?_⟩)⟩)⟩)⟩)
    · rw [if_neg (by rcases hv with ⟨rfl, -⟩ | ⟨-, q⟩; omega; exact q)] at ih'
      exact ih'
    · rw [if_pos (by rcases hv with ⟨-, q⟩ | ⟨rfl, -⟩; exact q; omega)] at ih'
      exact ih'
theorem k_mirrored {d b n lo hi li a : Nat} {p : Nat → Bool} {S : MS} {Q : Out → MS → Prop} (hd : 4 ≤ d) (h3 : 3 ≤ n) (h7 : n ≤ 7) (hA : AR S b n lo hi li) (hR : RS_ S a p) (hp : PS n p) (hal : a + 3 ≤ lo) (h : ∀ S', Fi li (li+1) S S' → Q (.inl (some (vI (ct (fun r => p (mir n r)) (lsR p 5056) : Nat)))) S') : Mw hX0_mirrored yX0_mirrored d [vA b, vA a] S Q := by
  have hf := fct_le h3 h7
  obtain ⟨l1, l2, l3, l4⟩ := hA.2.2.2.1
  have b5 : (lsR p 5056).length ≤ fct n := ls_fct h3 h7 hp
  obtain ⟨dd, rfl⟩ : ∃ e, d = e + 1 := ⟨d - 1, by omega⟩
  refine MX0_mirrored ?_
  unfold VX0_mirrored_0
  refine ⟨hA.1.1, li, l1, hR.1.1, c_rList (cap := fct n) (by omega) (hp.a h3 h7).1 (by rw [← lsR_len]; exact b5) (by omega) (by omega) hR l3 l4 (fun S' f hL => oI_i ⟨(lsR p 5056).length + 1, ?_⟩)⟩
  exact kf_mirrored (by omega) h3 h7 (f.fzl.ar hA) (f.rs (by omega) hR) hp hL (h S' f) _ (k := 0) (by omega)
/-! swaps between two rows -/
theorem smB_img {f g : Nat → Nat} {b : Nat} : ∀ {k : Nat}, (∀ p, p < k → f p < b) → smB (fun p => g (f p)) k = smB (fun v => g v * eqc f v k) b
  | 0, _ => by
    have : ∀ b, smB (fun v => g v * eqc f v 0) b = 0 := by
      intro b
      induction b with
      | zero => rfl
      | succ b ih => unfold smB; rw [ih]; simp [eqc]
    rw [this]; rfl
  | k + 1, h => by
    show smB (fun p => g (f p)) k + g (f k) = _
    rw [smB_img (k := k) (fun p hp => h p (by omega)), ← smB_one g (h k (by omega)), ← smB_add]
    refine smB_cong (fun v hv => ?_)
    show _ = g v * (eqc f v k + (if f k = v then 1 else 0))
    by_cases e : f k = v
    · rw [if_pos e.symm, if_pos e, Nat.mul_add, Nat.mul_one]
    · rw [if_neg (show ¬ v = f k from fun g => e g.symm), if_neg e]
      rfl
theorem smB_prm {f g : Nat → Nat} {n : Nat} (h : Prm n f) : smB (fun p => g (f p)) n = smB g n := by
  rw [smB_img h.1]
  refine smB_cong (fun v hv => ?_)
  rw [eqc_prm h hv, Nat.mul_one]
def triB (f : Nat → Nat → Bool) : Nat → Nat
  | 0 => 0
  | x + 1 => triB f x + cntB (f x) x
theorem dbl_tri {f : Nat → Nat → Bool} (hs : ∀ x y, f x y = f y x) (h0 : ∀ x, f x x = false) : ∀ n, smB (fun p => cntB (f p) n) n = 2 * triB f n
  | 0 => rfl
  | n + 1 => by
    have e1 : smB (fun p => cntB (f p) (n + 1)) n = smB (fun p => cntB (f p) n) n + cntB (f n) n := by
      show smB (fun p => cntB (f p) n + (if f p n then 1 else 0)) n = _
      rw [smB_add, smB_cnt (fun p => f p n)]
      congr 1
      exact cntB_cong (fun k _ => hs k n)
    show smB (fun p => cntB (f p) (n + 1)) n + (cntB (f n) n + (if f n n then 1 else 0)) = 2 * (triB f n + cntB (f n) n)
    rw [e1, h0 n, if_neg (by decide), dbl_tri hs h0 n]
    omega
theorem up_tri {f g : Nat → Nat → Bool} {m : Nat} (hs : ∀ x y, f x y = f y x) (hg : ∀ p q, p < m → q < m → g p q = (decide (p < q) && f p q)) : ∀ n, n ≤ m → smB (fun p => cntB (g p) n) n = triB f n
  | 0, _ => rfl
  | n + 1, hn => by
    have e1 : smB (fun p => cntB (g p) (n + 1)) n = smB (fun p => cntB (g p) n) n + cntB (f n) n := by
      show smB (fun p => cntB (g p) n + (if g p n then 1 else 0)) n = _
      rw [smB_add, smB_cnt (fun p => g p n)]
      congr 1
      exact cntB_cong (fun k hk => by rw [hg k n (by omega) (by omega), decide_eq_true hk, Bool.true_and, hs])
    show smB (fun p => cntB (g p) (n + 1)) n + cntB (g n) (n + 1) = triB f n + cntB (f n) n
    rw [e1, up_tri hs hg n (by omega), cntB_0 (n := n + 1) (fun k hk => by rw [hg n k (by omega) (by omega), decide_eq_false (by omega)]; rfl)]
    omega
theorem trn_tri (n a b : Nat) : ∀ x, trn n a b x = triB (tu1 n a b) x
  | 0 => rfl
  | x + 1 => by
    show trn n a b x + _ = triB (tu1 n a b) x + _
    rw [trn_tri n a b x]
def swG (n a r p q : Nat) : Bool := decide (p < q) && decide (plc n a (rat n r q) < plc n a (rat n r p))
theorem plc_inj {n r s t : Nat} (h3 : 3 ≤ n) (h7 : n ≤ 7) (hr : r < fct n) (hs : s < n) (ht : t < n) (e : plc n r s = plc n r t) : s = t := by
  rw [← rat_plc h3 h7 hr hs, e, rat_plc h3 h7 hr ht]
theorem sw_trn {n a r : Nat} (h3 : 3 ≤ n) (h7 : n ≤ 7) (ha : a < fct n) (hr : r < fct n) : smB (fun p => cntB (swG n a r p) n) n = trn n a r n := by
  -- within n the relation is symmetric; beyond it is made so
  let F : Nat → Nat → Bool := fun x y => decide (x < n) && decide (y < n) && decide (x ≠ y) && tu1 n a r x y
  have Fs : ∀ x y, F x y = F y x := by
    intro x y
    show (decide (x < n) && decide (y < n) && decide (x ≠ y) && tu1 n a r x y) = (decide (y < n) && decide (x < n) && decide (y ≠ x) && tu1 n a r y x)
    by_cases c1 : x < n
    · by_cases c2 : y < n
      · by_cases c3 : x = y
        · subst c3; rfl
        · have i1 : plc n a x ≠ plc n a y := fun e => c3 (plc_inj h3 h7 ha c1 c2 e)
          have i2 : plc n r x ≠ plc n r y := fun e => c3 (plc_inj h3 h7 hr c1 c2 e)
          unfold tu1
          rw [decide_eq_true c1, decide_eq_true c2, decide_eq_true c3, decide_eq_true (show y ≠ x from fun e => c3 e.symm)]
          rcases Nat.lt_or_gt_of_ne i1 with k1 | k1 <;> rcases Nat.lt_or_gt_of_ne i2 with k2 | k2
          · rw [decide_eq_true k1, decide_eq_true k2, decide_eq_false (by omega), decide_eq_false (by omega)]; rfl
          · rw [decide_eq_true k1, decide_eq_true (show plc n r y < plc n r x from k2), decide_eq_false (by omega), decide_eq_false (by omega)]; rfl
          · rw [decide_eq_true (show plc n a y < plc n a x from k1), decide_eq_true k2, decide_eq_false (by omega), decide_eq_false (by omega)]; rfl
          · rw [decide_eq_true (show plc n a y < plc n a x from k1), decide_eq_true (show plc n r y < plc n r x from k2), decide_eq_false (by omega), decide_eq_false (by omega)]; rfl
      · rw [decide_eq_false c2]; simp
    · rw [decide_eq_false c1]; simp
  have F0 : ∀ x, F x x = false := fun x => by
    show (decide (x < n) && decide (x < n) && decide (x ≠ x) && tu1 n a r x x) = false
    simp
  have hP := rat_prm h3 h7 hr
  have e1 : smB (fun p => cntB (swG n a r p) n) n = triB (fun p q => F (rat n r p) (rat n r q)) n := by
    refine up_tri (m := n) (fun x y => Fs _ _) (fun p q hp hq => ?_) n (Nat.le_refl _)
    unfold swG
    by_cases c : p < q
    · rw [decide_eq_true c, Bool.true_and, Bool.true_and]
      have x1 := rat_lt h3 h7 hr hp
      have x2 := rat_lt h3 h7 hr hq
      have x3 : rat n r p ≠ rat n r q := fun e => by
        have := hP.2 p q hp hq e
        omega
      have x4 : plc n a (rat n r p) ≠ plc n a (rat n r q) := fun e => x3 (plc_inj h3 h7 ha x1 x2 e)
      show _ = (decide (rat n r p < n) && decide (rat n r q < n) && decide (rat n r p ≠ rat n r q) && tu1 n a r (rat n r p) (rat n r q))
      rw [decide_eq_true x1, decide_eq_true x2, decide_eq_true x3]
      unfold tu1
      rw [plc_rat h3 h7 hr hp, plc_rat h3 h7 hr hq, decide_eq_true c]
      rcases Nat.lt_or_gt_of_ne x4 with k1 | k1
      · rw [decide_eq_true k1, decide_eq_false (by omega)]; rfl
      · rw [decide_eq_true (show plc n a (rat n r q) < plc n a (rat n r p) from k1), decide_eq_false (by omega)]; rfl
    · rw [decide_eq_false c]; rfl
  have e2 : triB (tu1 n a r) n = triB F n := by
    have : ∀ m, m ≤ n → triB (tu1 n a r) m = triB F m := by
      intro m
      induction m with
      | zero => intro _; rfl
      | succ m ih =>
        intro hm
        show _ + _ = _ + _
        rw [ih (by omega)]
        congr 1
        refine cntB_cong (fun k hk => ?_)
        show _ = (decide (m < n) && decide (k < n) && decide (m ≠ k) && tu1 n a r m k)
        rw [decide_eq_true (show m < n by omega), decide_eq_true (show k < n by omega), decide_eq_true (show m ≠ k by omega)]
        rfl
    exact this n (Nat.le_refl _)
  have e3 := dbl_tri (f := fun p q => F (rat n r p) (rat n r q)) (fun x y => Fs _ _) (fun x => F0 _) n
  have e4 := dbl_tri Fs F0 n
  have e5 : smB (fun p => cntB (fun q => F (rat n r p) (rat n r q)) n) n = smB (fun p => cntB (F p) n) n := by
    have : smB (fun p => cntB (fun q => F (rat n r p) (rat n r q)) n) n = smB (fun p => cntB (F (rat n r p)) n) n := smB_cong (fun p hp => cntB_prm hP (F (rat n r p)))
    rw [this]
    exact smB_prm (g := fun x => cntB (F x) n) hP
  rw [trn_tri, e1, e2]
  omega
theorem kf_swb32 {d b n lo hi li a r p v : Nat} {S : MS} {Q : Out → MS → Prop} {c5 : Nat → Int → Int → Int → Int → MS → Prop} (hd : 1 ≤ d) (h3 : 3 ≤ n) (h7 : n ≤ 7) (hA : AR S b n lo hi li) (ha : a < fct n) (hr : r < fct n) (hp : p < n) (h : c5 b (rowP n r : Nat) (pck (plc n a) n : Nat) ((v + cntB (swG n a r p) n : Nat) : Int) ((p : Int) + 1) S) : ∀ (j : Nat) {q : Nat}, q + j = n → p < q → VX0_swapsBetween_32 d c5 Q (j + 1) b (rowP n r : Nat) (pck (plc n a) n : Nat) ((v + cntB (swG n a r p) q : Nat) : Int) (p : Nat) (plc n a (rat n r p) : Nat) (q : Nat) S := by
  have a1 := hA.1.1
  have a3 := hA.1.2.2.1
  have sm := rowP_sm (r := r) h3 h7
  have p8 : ∀ t, t < n → plc n a t < 8 := fun t ht => by have := plc_lt h3 h7 ha ht; omega
  have sm2 := pck_sm h7 p8
  intro j
  induction j with
  | zero =>
    intro q hq hpq
    unfold VX0_swapsBetween_32
    rw [a3, show q = n by omega]
    exact ⟨a1, ⟨(by unfold R32; omega), (by unfold R32; omega)⟩, fun _ => h, fun c => by omega⟩
  | succ j ih =>
    intro q hq hpq
    have ih' := ih (q := q + 1) (by omega) (by omega)
    have r1 := rat_lt h3 h7 hr (show q < n by omega)
    have r2 := rat_lt h3 h7 hr hp
    have l1 := plc_lt h3 h7 ha r1
    have l2 := plc_lt h3 h7 ha r2
    unfold cntB at ih'
    unfold VX0_swapsBetween_32 VX0_swapsBetween_62
    rw [a3]
    refine ⟨a1, ⟨(by unfold R32; omega), (by unfold R32; omega)⟩, fun c => by omega, fun _ => c_kAt hd rfl rfl (by omega) (by omega) (oI_i (c_kAt hd rfl (show ((dig (rowP n r) q : Nat) : Int) = ((rat n r q : Nat) : Int) from rfl) (by omega) (by omega) (oI_i ?_)))⟩
    rw [dig_pck p8 _ r1]
    refine ⟨⟨(by unfold R32; omega), (by unfold R32; omega)⟩, fun c => ?_, fun c => ?_⟩
    · rw [if_neg (by unfold swG; rw [decide_eq_false (p := plc n a (rat n r q) < plc n a (rat n r p)) (by omega)]; simp)] at ih'
      exact ih'
    · rw [if_pos (by unfold swG; rw [decide_eq_true hpq, decide_eq_true (show plc n a (rat n r q) < plc n a (rat n r p) by omega)]; rfl)] at ih'
      exact ih'
theorem kf_swb5 {d b n lo hi li a r : Nat} {S : MS} {Q : Out → MS → Prop} (hd : 1 ≤ d) (h3 : 3 ≤ n) (h7 : n ≤ 7) (hA : AR S b n lo hi li) (ha : a < fct n) (hr : r < fct n) (h : Q (.inl (some (vI (trn n a r n : Nat)))) S) : ∀ (j : Nat) {p : Nat}, p + j = n → VX0_swapsBetween_5 d Q (j + 1) b (rowP n r : Nat) (pck (plc n a) n : Nat) (smB (fun p => cntB (swG n a r p) n) p : Nat) (p : Nat) S := by
  have a1 := hA.1.1
  have a3 := hA.1.2.2.1
  have sm := rowP_sm (r := r) h3 h7
  have p8 : ∀ t, t < n → plc n a t < 8 := fun t ht => by have := plc_lt h3 h7 ha ht; omega
  have sm2 := pck_sm h7 p8
  intro j
  induction j with
  | zero =>
    intro p hp
    unfold VX0_swapsBetween_5
    rw [a3, show p = n by omega, sw_trn h3 h7 ha hr]
    exact ⟨a1, ⟨(by unfold R32; omega), (by unfold R32; omega)⟩, fun _ => h, fun c => by omega⟩
  | succ j ih =>
    intro p hp
    have r2 := rat_lt h3 h7 hr (show p < n by omega)
    unfold VX0_swapsBetween_5
    rw [a3]
    refine ⟨a1, ⟨(by unfold R32; omega), (by unfold R32; omega)⟩, fun c => by omega, fun _ => c_kAt hd rfl rfl (by omega) (by omega) (oI_i (c_kAt hd rfl (show ((dig (rowP n r) p : Nat) : Int) = ((rat n r p : Nat) : Int) from rfl) (by omega) (by omega) (oI_i ⟨j + 1, ?_⟩)))⟩
    rw [dig_pck p8 _ r2]
    have := kf_swb32 (d := d) (Q := Q) (v := smB (fun p => cntB (swG n a r p) n) p) hd h3 h7 hA ha hr (show p < n by omega) (ih (p := p + 1) (by omega)) j (q := p + 1) (by omega) (by omega)
    rw [cntB_0 (p := swG n a r p) (n := p + 1) (fun k hk => by unfold swG; rw [decide_eq_false (by omega)]; rfl)] at this
    exact this
theorem k_swapsBetween {d b n lo hi li a r : Nat} {S : MS} {Q : Out → MS → Prop} {x y : Int} (hd : 2 ≤ d) (h3 : 3 ≤ n) (h7 : n ≤ 7) (hA : AR S b n lo hi li) (ha : a < fct n) (hr : r < fct n) (hx : x = (rowP n r : Nat)) (hy : y = (pck (plc n a) n : Nat)) (h : Q (.inl (some (vI (trn n a r n : Nat)))) S) : Mw hX0_swapsBetween yX0_swapsBetween d [vA b, vI x, vI y] S Q := by
  subst hx hy
  obtain ⟨dd, rfl⟩ : ∃ e, d = e + 1 := ⟨d - 1, by omega⟩
  refine MX0_swapsBetween ?_
  unfold VX0_swapsBetween_0
  exact ⟨_, kf_swb5 (by omega) h3 h7 hA ha hr h n (p := 0) (by omega)⟩
theorem kf_few50 {d b n lo hi li a : Nat} {L : List Nat} {S : MS} {Q : Out → MS → Prop} (hd : 2 ≤ d) (h3 : 3 ≤ n) (h7 : n ≤ 7) (hA : AR S b n lo hi li) (ha : a < fct n) (hl : L.length ≤ fct n) (hm : ∀ r ∈ L, r < fct n) (hL : ∀ k, k < L.length → S.I li k = (L.getD k 0 : Nat)) (h : Q (.inl (some (vI (mnL (fun r => trn n a r n) L)))) S) : ∀ (j : Nat) {k : Nat}, k + j = L.length → VX0_fewestSwaps_50 d Q (j + 1) b (pck (plc n a) n : Nat) (L.length : Nat) (mnL (fun r => trn n a r n) (L.take k)) (k : Nat) S := by
  have hf := fct_le h3 h7
  have a1 := hA.1.1
  obtain ⟨l1, l2, l3, l4⟩ := hA.2.2.2.1
  have hb : ∀ r, trn n a r n ≤ 49 := fun r => Nat.le_trans (trn_le n a r n) (Nat.mul_le_mul h7 h7)
  intro j
  induction j with
  | zero =>
    intro k hk
    unfold VX0_fewestSwaps_50
    refine ⟨⟨(by unfold R32; omega), (by unfold R32; omega)⟩, fun _ => ?_, fun c => by omega⟩
    rw [show L.take k = L by rw [show k = L.length by omega]; exact List.take_length]
    exact h
  | succ j ih =>
    intro k hk
    have hkl : k < L.length := by omega
    have hrk := hm _ (getD_mem hkl)
    have mr : -1 ≤ mnL (fun r => trn n a r n) (L.take k) ∧ mnL (fun r => trn n a r n) (L.take k) ≤ ((49 : Nat) : Int) := mnL_r (g := fun r => trn n a r n) hb (L.take k) (-1) (by omega)
    have hbk := hb (L.getD k 0)
    have e : mnL (fun r => trn n a r n) (L.take (k + 1)) = mnS (fun r => trn n a r n) (mnL (fun r => trn n a r n) (L.take k)) (L.getD k 0) := fold_s (f := mnS (fun r => trn n a r n)) hkl
    have ih' := ih (k := k + 1) (by omega)
    rw [e, show mnS (fun r => trn n a r n) (mnL (fun r => trn n a r n) (L.take k)) (L.getD k 0) = if mnL (fun r => trn n a r n) (L.take k) < 0 ∨ ((trn n a (L.getD k 0) n : Nat) : Int) < mnL (fun r => trn n a r n) (L.take k) then ((trn n a (L.getD k 0) n : Nat) : Int) else mnL (fun r => trn n a r n) (L.take k) from rfl] at ih'
    unfold VX0_fewestSwaps_50 VX0_fewestSwaps_93
    refine ⟨⟨(by unfold R32; omega), (by unfold R32; omega)⟩, fun c => by omega, fun _ => ⟨a1, li, l1, ⟨l3, by omega, by rw [l4]; omega⟩, a1, ?_⟩⟩
    rw [Int.toNat_natCast, hL k hkl]
    refine k_packed (by omega) h3 h7 hA rfl hrk (oI_i ⟨a1, k_swapsBetween hd h3 h7 hA ha hrk rfl rfl (oI_i ⟨⟨(by unfold R32; omega), (by unfold R32; omega)⟩, fun c => ⟨⟨(by unfold R32; omega), (by unfold R32; omega)⟩, ?_⟩, fun c => ?_⟩)⟩)
    · by_cases c2 : ((trn n a (L.getD k 0) n : Nat) : Int) < mnL (fun r => trn n a r n) (L.take k)
      · rw [if_pos (Or.inr c2)] at ih'
        rw [Int.min_eq_right (by omega)]
        exact ih'
      · rw [if_neg (by omega)] at ih'
        rw [Int.min_eq_left (by omega)]
        exact ih'
    · rw [if_pos (by omega)] at ih'
      exact ih'
def tpG (n a p u : Nat) : Nat := if plc n a u < p then plc n a u else 0
theorem kf_few5 {d b n lo hi li a ra : Nat} {p : Nat → Bool} {S : MS} {Q : Out → MS → Prop} (hd : 2 ≤ d) (h3 : 3 ≤ n) (h7 : n ≤ 7) (hA : AR S b n lo hi li) (hR : RS_ S ra p) (hp : PS n p) (hal : ra + 3 ≤ lo) (ha : a < fct n) (h : ∀ S', Fi li (li+1) S S' → Q (.inl (some (vI (mnL (fun r => trn n a r n) (lsR p 5056))))) S') : ∀ (j : Nat) {k : Nat}, k + j = n → VX0_fewestSwaps_5 d Q (j + 1) b ra (rowP n a : Nat) (pck (tpG n a k) n : Nat) (k : Nat) S := by
  have hf := fct_le h3 h7
  have a1 := hA.1.1
  have a3 := hA.1.2.2.1
  obtain ⟨l1, l2, l3, l4⟩ := hA.2.2.2.1
  have b5 : (lsR p 5056).length ≤ fct n := ls_fct h3 h7 hp
  have sm := rowP_sm (r := a) h3 h7
  intro j
  induction j with
  | zero =>
    intro k hk
    unfold VX0_fewestSwaps_5
    rw [a3, show k = n by omega, pck_cong (f := tpG n a n) (g := plc n a) (fun u hu => by unfold tpG; rw [if_pos (plc_lt h3 h7 ha hu)])]
    refine ⟨a1, ⟨(by unfold R32; omega), (by unfold R32; omega)⟩, fun _ => ⟨a1, li, l1, hR.1.1, c_rList (cap := fct n) (by omega) (hp.a h3 h7).1 (by rw [← lsR_len]; exact b5) (by omega) (by omega) hR l3 l4 (fun S' f hL => oI_i ⟨(lsR p 5056).length + 1, ?_⟩)⟩, fun c => by omega⟩
    exact kf_few50 hd h3 h7 (f.fzl.ar hA) ha b5 (fun r hr => (hp.m r hr).1) hL (h S' f) _ (k := 0) (by omega)
  | succ j ih =>
    intro k hk
    have r1 := rat_lt h3 h7 ha (show k < n by omega)
    have pk := plc_rat h3 h7 ha (show k < n by omega)
    unfold VX0_fewestSwaps_5
    rw [a3]
    refine ⟨a1, ⟨(by unfold R32; omega), (by unfold R32; omega)⟩, fun c => by omega, fun _ => c_kAt (by omega) rfl rfl (by omega) (by omega) (oI_i ?_)⟩
    show VX0_fewestSwaps_5 d Q (j + 1) b ra (rowP n a : Nat) (iOr (pck (tpG n a k) n : Nat) (iShl (k : Nat) (3 * ((rat n a k : Nat) : Int)))) ((k : Int) + 1) S
    rw [pck_put h7 (fun u hu => by have := plc_lt h3 h7 ha hu; unfold tpG; split <;> omega) (by omega) r1 (by unfold tpG; rw [if_neg (by omega)])]
    have := ih (k := k + 1) (by omega)
    rw [pck_cong (g := fun u => if u = rat n a k then k else tpG n a k u) (fun u hu => ?_)] at this
    · exact this
    · unfold tpG
      by_cases c : u = rat n a k
      · rw [if_pos c, c, pk, if_pos (by omega)]
      · rw [if_neg c]
        have : plc n a u ≠ k := fun e => c (by rw [← e, rat_plc h3 h7 ha hu])
        by_cases g : plc n a u < k
        · rw [if_pos g, if_pos (by omega)]
        · rw [if_neg g, if_neg (by omega)]
theorem k_fewestSwaps {d b n lo hi li a ra : Nat} {p : Nat → Bool} {S : MS} {Q : Out → MS → Prop} {x : Int} (hd : 3 ≤ d) (h3 : 3 ≤ n) (h7 : n ≤ 7) (hA : AR S b n lo hi li) (hR : RS_ S ra p) (hp : PS n p) (hal : ra + 3 ≤ lo) (ha : a < fct n) (hx : x = (rowP n a : Nat)) (h : ∀ S', Fi li (li+1) S S' → Q (.inl (some (vI (mnL (fun r => trn n a r n) (lsR p 5056))))) S') : Mw hX0_fewestSwaps yX0_fewestSwaps d [vA b, vA ra, vI x] S Q := by
  subst hx
  obtain ⟨dd, rfl⟩ : ∃ e, d = e + 1 := ⟨d - 1, by omega⟩
  refine MX0_fewestSwaps ?_
  unfold VX0_fewestSwaps_0
  have := kf_few5 (d := dd) (by omega) h3 h7 hA hR hp hal ha h n (k := 0) (by omega)
  rw [pck_cong (f := tpG n a 0) (g := fun _ => 0) (fun u hu => by unfold tpG; rw [if_neg (by omega)]), pck_0] at this
  exact ⟨_, this⟩
