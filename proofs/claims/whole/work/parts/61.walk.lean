/-! ways by next ones: the pure tree -/
theorem ct_all {q : Nat → Bool} {L : List Nat} : ct q L = L.length ↔ ∀ r ∈ L, q r = true := by
  unfold ct
  exact List.length_filter_eq_length_iff
theorem ct_lt {p q : Nat → Bool} : ∀ {X : List Nat}, (∀ x ∈ X, p x = true → q x = true) → (∃ x ∈ X, q x = true ∧ p x = false) → ct p X < ct q X
  | [], _, h => by obtain ⟨x, hx, -⟩ := h; exact absurd hx (by simp)
  | y :: X, h1, h2 => by
    have le : ∀ {Y : List Nat}, (∀ x ∈ Y, p x = true → q x = true) → ct p Y ≤ ct q Y := by
      intro Y
      induction Y with
      | nil => intro _; exact Nat.le_refl _
      | cons z Y ih =>
        intro hz
        have := ih (fun x hx => hz x (List.mem_cons_of_mem _ hx))
        have hzz := hz z List.mem_cons_self
        unfold ct at this ⊢
        rw [List.filter_cons, List.filter_cons]
        by_cases c : p z = true
        · rw [if_pos c, if_pos (hzz c), List.length_cons, List.length_cons]; omega
        · rw [if_neg c]
          split
          · rw [List.length_cons]; omega
          · exact this
    have hr : ∀ x ∈ X, p x = true → q x = true := fun x hx => h1 x (List.mem_cons_of_mem _ hx)
    have hy := h1 y List.mem_cons_self
    obtain ⟨x, hx, hq, hp⟩ := h2
    have e : ∀ r : Nat → Bool, ct r (y :: X) = (if r y then 1 else 0) + ct r X := by
      intro r
      unfold ct
      rw [List.filter_cons]
      split
      · rw [List.length_cons]; omega
      · omega
    rw [e p, e q]
    rcases List.mem_cons.mp hx with rfl | hx
    · have := le hr
      rw [hq, hp]
      simp only [Bool.false_eq_true, if_false, if_true]
      omega
    · have := ct_lt (X := X) hr ⟨x, hx, hq, hp⟩
      by_cases c : p y = true
      · rw [if_pos c, if_pos (hy c)]; omega
      · rw [if_neg c]
        split <;> omega
theorem mxB_ex {g : Nat → Nat} : ∀ {t : Nat}, ∃ k, k < t + 1 ∧ g k = mxB g (t + 1)
  | 0 => ⟨0, by omega, by simp [mxB]⟩
  | t + 1 => by
    obtain ⟨k, h1, h2⟩ := mxB_ex (g := g) (t := t)
    show ∃ k, k < t + 2 ∧ g k = max (mxB g (t + 1)) (g (t + 1))
    by_cases c : mxB g (t + 1) ≤ g (t + 1)
    · exact ⟨t + 1, by omega, by omega⟩
    · exact ⟨k, by omega, by omega⟩
/-- a set parts nothing just if one rises by all -/
theorem wst_all {n kn x : Nat} {L : List Nat} (h3 : 3 ≤ n) (h7 : n ≤ 7) (hrow : ∀ r ∈ L, r < fct n) (hk : kn < 3) (hx : x < 2 ^ n) (hp : pc x = pansK kn) : wst n kn x L = L.length ↔ ∃ t, t < 7 ∧ ∀ r ∈ L, rsN n kn x r = t := by
  constructor
  · intro e
    obtain ⟨k, h1, h2⟩ := mxB_ex (g := rc n kn x L) (t := 6)
    have e2 : rc n kn x L k = L.length := h2.trans e
    refine ⟨k, h1, fun r hr => ?_⟩
    have := ct_all.mp e2 r hr
    simpa using this
  · rintro ⟨t, ht, h⟩
    have h1 := wst_le n kn x L
    have h2 : rc n kn x L t = L.length := ct_all.mpr (fun r hr => by simpa using h r hr)
    have h4 := mxB_ge (g := rc n kn x L) ht
    unfold wst at h1 ⊢
    omega
def pD (n kn : Nat) (L : List Nat) : Nat := ct (fun x => decide (wst n kn x L < L.length)) (cmb n n (pansK kn))
theorem pD_lt {n kn x t : Nat} {L : List Nat} (h3 : 3 ≤ n) (h7 : n ≤ 7) (hrow : ∀ r ∈ L, r < fct n) (hk : kn < 3) (hx : x ∈ cmb n n (pansK kn)) (hw : wst n kn x L < L.length) (ht : t < 7) : pD n kn (prt n kn x t L) < pD n kn L := by
  have hc := (cmb_k (kn := kn) h7).2
  refine ct_lt (fun y hy hp => ?_) ⟨x, hx, by simpa using hw, ?_⟩
  · have a := hc y hy
    have hp' : wst n kn y (prt n kn x t L) < (prt n kn x t L).length := by simpa using hp
    have : wst n kn y L < L.length := by
      have le := wst_le n kn y L
      rcases Nat.lt_or_ge (wst n kn y L) L.length with c | c
      · exact c
      · exfalso
        obtain ⟨u, hu, hall⟩ := (wst_all h3 h7 hrow hk a.1 a.2).mp (by omega)
        have := (wst_all (L := prt n kn x t L) h3 h7 (prt_mem hrow) hk a.1 a.2).mpr ⟨u, hu, fun r hr => hall r (List.mem_filter.mp hr).1⟩
        omega
    simpa using this
  · have a := hc x hx
    have := (wst_all (L := prt n kn x t L) h3 h7 (prt_mem hrow) hk a.1 a.2).mpr ⟨t, ht, fun r hr => by simpa using (List.mem_filter.mp hr).2⟩
    simp [this]
theorem nx_mem {n kn : Nat} {L : List Nat} : ∀ (X : List Nat) (a : Int × Nat × Nat), 0 ≤ (X.foldl (nxS n kn L) a).1 → (X.foldl (nxS n kn L) a = a) ∨ ∃ x ∈ X, X.foldl (nxS n kn L) a = ((x : Int), wst n kn x L, spr n kn x L)
  | [], a, _ => Or.inl rfl
  | x :: X, a, h => by
    rcases nx_mem X (nxS n kn L a x) h with e | ⟨y, hy, e⟩
    · show (X.foldl (nxS n kn L) (nxS n kn L a x) = a) ∨ _
      rw [e]
      by_cases c : 0 ≤ a.1 ∧ (a.2.1 < wst n kn x L ∨ (wst n kn x L = a.2.1 ∧ a.2.2 ≤ spr n kn x L))
      · left
        unfold nxS
        rw [if_pos c]
      · right
        refine ⟨x, List.mem_cons_self, ?_⟩
        show X.foldl (nxS n kn L) (nxS n kn L a x) = _
        rw [e]
        unfold nxS
        rw [if_neg c]
    · exact Or.inr ⟨y, List.mem_cons_of_mem _ hy, e⟩
theorem lf_ok {n kn : Nat} {L : List Nat} (h7 : n ≤ 7) (h : 0 ≤ lf n kn L) : ¬ Dn n L ∧ lf n kn L = ((lf n kn L).toNat : Int) ∧ (lf n kn L).toNat ∈ cmb n n (pansK kn) ∧ wst n kn (lf n kn L).toNat L < L.length := by
  by_cases c : Dn n L
  · unfold lf at h
    rw [cD_y c] at h
    omega
  · have e : lf n kn L = if (nxF n kn L).1 < 0 ∨ (nxF n kn L).2.1 = L.length then -1 else (nxF n kn L).1 := by unfold lf; rw [cD_n c]
    by_cases c2 : (nxF n kn L).1 < 0 ∨ (nxF n kn L).2.1 = L.length
    · rw [e, if_pos c2] at h
      omega
    · rw [if_neg c2] at e
      rw [e] at h ⊢
      rcases nx_mem (cmb n n (pansK kn)) (-1, 0, 0) h with e2 | ⟨x, hx, e2⟩
      · have : nxF n kn L = (-1, 0, 0) := e2
        rw [this] at h
        exact absurd h (by decide)
      · have e3 : nxF n kn L = ((x : Int), wst n kn x L, spr n kn x L) := e2
        rw [e3] at c2 ⊢
        have := wst_le n kn x L
        simp only [Int.toNat_natCast] at *
        exact ⟨c, trivial, hx, by omega⟩
theorem lf_n {n kn : Nat} {L : List Nat} (h7 : n ≤ 7) (hlen : L.length ≤ 5040) : -1 ≤ lf n kn L ∧ lf n kn L < 128 := by
  have := nxF_r (kn := kn) h7 hlen
  unfold lf
  by_cases c : Dn n L
  · rw [cD_y c]; omega
  · rw [cD_n c]
    split <;> omega
def Ac : Type := Nat × Nat × Bool
def comb (a b : Nat × Nat × Bool) : Nat × Nat × Bool := (max a.1 b.1, a.2.1 + b.2.1, a.2.2 && b.2.2)
theorem comb_as (a b c : Nat × Nat × Bool) : comb (comb a b) c = comb a (comb b c) := by
  unfold comb
  simp only [Nat.max_assoc, Nat.add_assoc, Bool.and_assoc]
def wkC (g : Nat → Nat × Nat × Bool) : Nat → Nat → Nat × Nat × Bool → Nat × Nat × Bool
  | 0, _, a => a
  | j + 1, p, a => wkC g j (p + 1) (comb a (g p))
theorem wkC_as (g : Nat → Nat × Nat × Bool) (a : Nat × Nat × Bool) : ∀ j p b, wkC g j p (comb a b) = comb a (wkC g j p b)
  | 0, _, _ => rfl
  | j + 1, p, b => by
    show wkC g j (p + 1) (comb (comb a b) (g p)) = comb a (wkC g j (p + 1) (comb b (g p)))
    rw [comb_as, wkC_as g a j]
noncomputable def arF (n kn : Nat) (th : Int) (L : List Nat) : Int := cD (0 ≤ th ∧ Plc n th.toNat L) (-1) (lf n kn L)
noncomputable def wk (n kn : Nat) (th : Int) : Nat → Nat → List Nat → Nat × Nat × Bool
  | 0, lev, _ => (lev, 0, true)
  | f + 1, lev, L => if arF n kn th L < 0 then (lev, 0, dc (Dn n L)) else wkC (fun p => wk n kn th f (lev + 1) (prt n kn (arF n kn th L).toNat (mbN (arF n kn th L).toNat p) L)) (pansK kn) 0 (lev, L.length, true)
/-- what one node tells by itself -/
noncomputable def w1 (n kn : Nat) (th : Int) (lev : Nat) (L : List Nat) : Nat × Nat × Bool := if arF n kn th L < 0 then (lev, 0, dc (Dn n L)) else (lev, L.length, true)
theorem ar_ok {n kn : Nat} {th : Int} {L : List Nat} (h7 : n ≤ 7) (h : 0 ≤ arF n kn th L) : ¬ Dn n L ∧ arF n kn th L = ((arF n kn th L).toNat : Int) ∧ (arF n kn th L).toNat ∈ cmb n n (pansK kn) ∧ wst n kn (arF n kn th L).toNat L < L.length := by
  by_cases c : 0 ≤ th ∧ Plc n th.toNat L
  · unfold arF at h; rw [cD_y c] at h; omega
  · have e : arF n kn th L = lf n kn L := by unfold arF; rw [cD_n c]
    rw [e] at h ⊢
    exact lf_ok h7 h
theorem ar_n {n kn : Nat} {th : Int} {L : List Nat} (h7 : n ≤ 7) (hlen : L.length ≤ 5040) : -1 ≤ arF n kn th L ∧ arF n kn th L < 128 := by
  by_cases c : 0 ≤ th ∧ Plc n th.toNat L
  · unfold arF; rw [cD_y c]; omega
  · unfold arF; rw [cD_n c]; exact lf_n h7 hlen
/-! the reference's walk -/
def Acc (S : MS) (m : Nat) (a : Nat × Nat × Bool) : Prop := S.I m 33 = (a.1 : Nat) ∧ S.I m 34 = (a.2.1 : Nat) ∧ S.I m 35 = (if a.2.2 then 1 else 0 : Int)
def AW : List Nat := [8, 9, 12, 13, 14, 17, 18]
def BW : List Nat := [23, 25, 26, 27, 33, 34, 35]
/-- what a walk leaves of the levels up to lev -/
def WO (m lev : Nat) (S S' : MS) : Prop := (∀ q, q < 5040 * (lev + 1) → S'.I (m+8) q = S.I (m+8) q) ∧ (∀ q, q ≤ lev → S'.I (m+9) q = S.I (m+9) q) ∧ (∀ q, q < lev → S'.I (m+17) q = S.I (m+17) q) ∧ (∀ q, q < lev → S'.I (m+18) q = S.I (m+18) q)
theorem WO.rf {m l : Nat} {S : MS} : WO m l S S := ⟨fun _ _ => rfl, fun _ _ => rfl, fun _ _ => rfl, fun _ _ => rfl⟩
theorem WO.tr {m l : Nat} {S S1 S2 : MS} (h : WO m l S S1) (k : WO m l S1 S2) : WO m l S S2 := ⟨fun q hq => (k.1 q hq).trans (h.1 q hq), fun q hq => (k.2.1 q hq).trans (h.2.1 q hq), fun q hq => (k.2.2.1 q hq).trans (h.2.2.1 q hq), fun q hq => (k.2.2.2 q hq).trans (h.2.2.2 q hq)⟩
theorem WO.dn {m l : Nat} {S S1 : MS} (h : WO m (l+1) S S1) : WO m l S S1 := ⟨fun q hq => h.1 q (by omega), fun q hq => h.2.1 q (by omega), fun q hq => h.2.2.1 q (by omega), fun q hq => h.2.2.2 q (by omega)⟩
theorem WO.lv {m n l l' : Nat} {L : List Nat} {S S1 : MS} (h : WO m l S S1) (hl : l' ≤ l) (k : LV S m n l' L) : LV S1 m n l' L := by
  obtain ⟨⟨k1, k2⟩, k3, k4, k5⟩ := k
  refine ⟨⟨by rw [h.2.1 l' hl]; exact k1, fun q hq => ?_⟩, k3, k4, k5⟩
  rw [h.1 _ ?_]
  · exact k2 q hq
  · have : 5040 * (l' + 1) ≤ 5040 * (l + 1) := Nat.mul_le_mul_left _ (by omega)
    omega
theorem WO.fr {m l : Nat} {A B : List Nat} {S S1 : MS} (f : Fr m A B S S1) (h8 : 8 ∉ A) (h9 : 9 ∉ A) (h17 : 17 ∉ A) (h18 : 18 ∉ A) : WO m l S S1 :=
  ⟨fun q _ => by rw [f.arr (by decide) h8], fun q _ => by rw [f.arr (by decide) h9], fun q _ => by rw [f.arr (by decide) h17], fun q _ => by rw [f.arr (by decide) h18]⟩
theorem Acc.fr {m : Nat} {a : Nat × Nat × Bool} {A B : List Nat} {S S1 : MS} (f : Fr m A B S S1) (h1 : 33 ∉ B) (h2 : 34 ∉ B) (h3 : 35 ∉ B) (h : Acc S m a) : Acc S1 m a := by
  unfold Acc
  rw [f.fld h1, f.fld h2, f.fld h3]
  exact h
theorem f_arr40 {d m n lev kn : Nat} {th : Int} {L : List Nat} {S : MS} {Q : Out → MS → Prop} {a : Nat × Nat × Bool} {v : Int} (hd : 4 ≤ d) (hL : RLay S m) (h3 : 3 ≤ n) (h7 : n ≤ 7) (hT : Tb S m n) (hV : LV S m n lev L) (hA : Acc S m a) (ha : a.1 ≤ 100) (hv : v = arF n kn th L)
    (h : ∀ S', Fr m [17, 18] [33, 34, 35] S S' → WO m lev S S' → S'.I (m+17) lev = arF n kn th L → S'.I (m+18) lev = 0 → Acc S' m (comb a (w1 n kn th lev L)) → Q (.inl none) S') : VX11_arrives_40 d Q m (lev : Nat) v (lev : Nat) (m+17) S := by
  subst hv
  obtain ⟨hK, hrow, hlen, hl36⟩ := hV
  obtain ⟨a1, a2, a3⟩ := hA
  have hr := ar_n (kn := kn) (th := th) h7 hlen
  have hl := hL
  unfold RLay at hl
  unfold VX11_arrives_40 VX11_arrives_116 VX11_arrives_112 VX11_arrives_117
  simp only [hl, sI_K, sI_N, sI_R, sI_J, Option.some.injEq, exists_eq_left', true_and, and_true, Int.toNat_zero, Int.reduceToNat, Int.reduceLT, Int.reduceLE, Int.cast_ofNat_Int, forall_eq, ge_iff_le, Int.reduceNeg, Int.reduceAdd, Int.reduceSub, Int.reduceMul, Int.reduceEq, r32_0, r32_1, r32_m1, b01_0, b01_1, not_true_eq_false, not_false_eq_true, false_implies, true_implies, implies_true, forall_const]
  rw [Int.toNat_natCast]
  have e33 : ((S.setI (m+17) lev (arF n kn th L)).setI (m+18) lev 0).I m 33 = (a.1 : Nat) := by rw [sI_Ia (by omega), sI_Ia (by omega)]; exact a1
  rw [e33]
  refine ⟨by omega, by omega, ⟨(by unfold R32; omega), (by unfold R32; omega)⟩, ?_⟩
  have f0 : Fr m [17, 18] [33, 34, 35] S (((S.setI (m+17) lev (arF n kn th L)).setI (m+18) lev 0).setI m 33 (max (a.1 : Int) (lev : Int))) := (Fr.sA (by decide) (by decide)).tr ((Fr.sA (by decide) (by decide)).tr (Fr.sB (by decide)))
  generalize hS2 : ((S.setI (m+17) lev (arF n kn th L)).setI (m+18) lev 0).setI m 33 (max (a.1 : Int) (lev : Int)) = S2
  rw [hS2] at f0
  have o2 : WO m lev S S2 := by
    rw [← hS2]
    refine ⟨fun q _ => ?_, fun q _ => ?_, fun q hq => ?_, fun q hq => ?_⟩
    · rw [sI_Ia (by omega), sI_Ia (by omega), sI_Ia (by omega)]
    · rw [sI_Ia (by omega), sI_Ia (by omega), sI_Ia (by omega)]
    · rw [sI_Ia (by omega), sI_Ia (by omega), sI_I, if_neg (by omega)]
    · rw [sI_Ia (by omega), sI_I, if_neg (by omega), sI_Ia (by omega)]
  have g17 : S2.I (m+17) lev = arF n kn th L := by rw [← hS2, sI_Ia (by omega), sI_Ia (by omega), sI_I, if_pos ⟨rfl, rfl⟩]
  have g18 : S2.I (m+18) lev = 0 := by rw [← hS2, sI_Ia (by omega), sI_I, if_pos ⟨rfl, rfl⟩]
  have g33 : S2.I m 33 = ((max a.1 lev : Nat) : Int) := by rw [← hS2, sI_I, if_pos ⟨rfl, rfl⟩]; omega
  have g34 : S2.I m 34 = (a.2.1 : Nat) := by rw [← hS2, sI_I, if_neg (by omega), sI_Ia (by omega), sI_Ia (by omega)]; exact a2
  have g35 : S2.I m 35 = (if a.2.2 then 1 else 0 : Int) := by rw [← hS2, sI_I, if_neg (by omega), sI_Ia (by omega), sI_Ia (by omega)]; exact a3
  have hL2 := f0.lay hL
  have hK2 := f0.kl (by decide) (by decide) hK
  have hT2 := f0.tb (by decide) (by decide) (by decide) hT
  have hl := hL2
  unfold RLay at hl
  have fin35 : ∀ (S3 : MS) (b : Bool) (v : Int), S3 = S2.setI m 35 v → v = (if a.2.2 && b then 1 else 0 : Int) → arF n kn th L < 0 → b = dc (Dn n L) → Q (.inl none) S3 := by
    intro S3 b v e1 e2 e3 e4
    subst e1
    refine h _ (f0.tr (Fr.sB (by decide))) (o2.tr (WO.fr (A := []) (B := [35]) (Fr.sB (by decide)) (by decide) (by decide) (by decide) (by decide))) (by rw [sI_Ia (by omega)]; exact g17) (by rw [sI_Ia (by omega)]; exact g18) ?_
    unfold w1
    rw [if_pos e3, ← e4]
    refine ⟨?_, ?_, ?_⟩
    · rw [sI_I, if_neg (by omega)]; exact g33
    · rw [sI_I, if_neg (by omega)]; exact g34
    · rw [sI_I, if_pos ⟨rfl, rfl⟩]; exact e2
  rw [g17, hK2.1, g34, g35]
  refine ⟨by omega, (by unfold R32; omega), fun c => ⟨r32_ite, fun c2 => ?_, fun c2 => ⟨by omega, (by unfold R32; omega), fun c3 => ?_, fun c3 => l_kn (n := n) (l := lev) (by omega) hL2 h3 h7 hT2 ⟨hK2, hrow, hlen, hl36⟩ rfl (fun q hq => oI_i ⟨hq.r, fun c4 => ?_, fun c4 => ?_⟩)⟩⟩, fun c => ⟨by omega, ?_⟩⟩
  · refine fin35 _ (dc (Dn n L)) _ rfl ?_ c rfl
    have : a.2.2 = false := by
      cases hq : a.2.2
      · rfl
      · rw [hq] at c2; simp at c2
    simp [this]
  · refine fin35 _ true _ rfl ?_ c (dc_y (Or.inl (by omega))).symm
    have : a.2.2 = true := by
      cases hq : a.2.2
      · rw [hq] at c2; simp at c2
      · rfl
    simp [this]
  · refine ⟨hL2.1, fin35 _ false _ rfl (by simp) c (dc_n ?_).symm⟩
    intro k
    rcases k with k | k
    · omega
    · rcases hq with ⟨rfl, -⟩ | ⟨-, hq⟩
      · omega
      · exact hq k
  · refine ⟨hL2.1, fin35 _ true _ rfl ?_ c (dc_y (Or.inr ?_)).symm⟩
    · have : a.2.2 = true := by
        cases hq : a.2.2
        · rw [hq] at c2; simp at c2
        · rfl
      simp [this]
    · rcases hq with ⟨-, hq⟩ | ⟨rfl, -⟩
      · exact hq
      · omega
  · refine h _ (f0.tr (Fr.sB (by decide))) (o2.tr (WO.fr (A := []) (B := [34]) (Fr.sB (by decide)) (by decide) (by decide) (by decide) (by decide))) (by rw [sI_Ia (by omega)]; exact g17) (by rw [sI_Ia (by omega)]; exact g18) ?_
    unfold w1
    rw [if_neg c]
    refine ⟨?_, ?_, ?_⟩
    · rw [sI_I, if_neg (by omega)]; exact g33
    · rw [sI_I, if_pos ⟨rfl, rfl⟩]
      show _ = ((a.2.1 + L.length : Nat) : Int)
      omega
    · rw [sI_I, if_neg (by omega), g35]
      simp [comb]
