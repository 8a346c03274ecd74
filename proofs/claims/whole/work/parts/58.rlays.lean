/-! laying a set: who rises how often -/
def rc (n kn x : Nat) (L : List Nat) (t : Nat) : Nat := ct (fun r => decide (rsN n kn x r = t)) L
def mxB (g : Nat → Nat) : Nat → Nat
  | 0 => 0
  | t + 1 => max (mxB g t) (g t)
theorem mxB_le {g : Nat → Nat} {b : Nat} : ∀ {t : Nat}, (∀ k, k < t → g k ≤ b) → mxB g t ≤ b
  | 0, _ => Nat.zero_le _
  | t + 1, h => by
    unfold mxB
    exact Nat.max_le.mpr ⟨mxB_le (fun k hk => h k (by omega)), h t (by omega)⟩
theorem mxB_ge {g : Nat → Nat} : ∀ {t k : Nat}, k < t → g k ≤ mxB g t
  | 0, k, h => absurd h (Nat.not_lt_zero k)
  | t + 1, k, h => by
    unfold mxB
    by_cases e : k = t
    · rw [e]; exact Nat.le_max_right _ _
    · exact Nat.le_trans (mxB_ge (t := t) (by omega)) (Nat.le_max_left _ _)
theorem mxB_cong {f g : Nat → Nat} : ∀ {n : Nat}, (∀ k, k < n → f k = g k) → mxB f n = mxB g n
  | 0, _ => rfl
  | n + 1, h => by
    unfold mxB
    rw [mxB_cong (n := n) (fun k hk => h k (by omega)), h n (by omega)]
def wst (n kn x : Nat) (L : List Nat) : Nat := mxB (rc n kn x L) 7
def sqs (g : Nat → Nat) : Nat → Nat := fun t => g t * g t
def spr (n kn x : Nat) (L : List Nat) : Nat := smB (sqs (rc n kn x L)) 7
theorem rc_le (n kn x : Nat) (L : List Nat) (t : Nat) : rc n kn x L t ≤ L.length := ct_le _ _
theorem smB_le {g : Nat → Nat} {b : Nat} : ∀ {t : Nat}, (∀ k, k < t → g k ≤ b) → smB g t ≤ t * b
  | 0, _ => Nat.zero_le _
  | t + 1, h => by
    unfold smB
    have h1 := smB_le (t := t) (fun k hk => h k (by omega))
    have h2 := h t (by omega)
    rw [Nat.succ_mul]
    omega
theorem sq_le {L : List Nat} {n kn x t : Nat} (h : L.length ≤ 5040) : sqs (rc n kn x L) t ≤ 25401600 := by
  have h1 := rc_le n kn x L t
  have h2 : rc n kn x L t ≤ 5040 := by omega
  exact Nat.mul_le_mul h2 h2
theorem wst_le (n kn x : Nat) (L : List Nat) : wst n kn x L ≤ L.length := mxB_le (fun k _ => rc_le n kn x L k)
theorem spr_le {n kn x : Nat} {L : List Nat} (h : L.length ≤ 5040) : spr n kn x L ≤ 177811200 := by
  have := smB_le (t := 7) (fun k (_ : k < 7) => sq_le (n := n) (kn := kn) (x := x) (t := k) h)
  exact this
theorem f_lays79 {d m n kn x : Nat} {L : List Nat} {Q : Out → MS → Prop} (hlen : L.length ≤ 5040) : ∀ (j : Nat) {S : MS} {t : Nat}, RLay S m → t + j = 7 → (∀ k, k < 7 → S.I (m+14) k = (rc n kn x L k : Nat)) → S.I m 25 = (mxB (rc n kn x L) t : Nat) → S.I m 26 = (smB (sqs (rc n kn x L)) t : Nat) →
    (∀ S', Fr m [] [25, 26] S S' → S'.I m 25 = (wst n kn x L : Nat) → S'.I m 26 = (spr n kn x L : Nat) → Q (.inl none) S') → VX11_lays_79 d Q (j + 1) m (t : Nat) S := by
  intro j
  induction j with
  | zero =>
    intro S t hL ht h1 h2 h3 h
    unfold VX11_lays_79
    rw [show t = 7 by omega] at h2 h3
    exact ⟨⟨(by unfold R32; omega), (by unfold R32; omega)⟩, fun _ => h S Fr.rf h2 h3, fun c => by omega⟩
  | succ j ih =>
    intro S t hL ht h1 h2 h3 h
    have hl := hL
    unfold RLay at hl
    unfold VX11_lays_79
    refine ⟨⟨(by unfold R32; omega), (by unfold R32; omega)⟩, fun _ => by omega, fun c => ?_⟩
    simp only [hl, sI_K, sI_N, sI_R, sI_J, Option.some.injEq, exists_eq_left', true_and, and_true, Int.toNat_zero, Int.reduceToNat, Int.reduceLT, Int.reduceLE, Int.cast_ofNat_Int, forall_eq, ge_iff_le, Int.reduceNeg, Int.reduceAdd, Int.reduceSub, Int.reduceMul, Int.reduceEq, r32_0, r32_1, r32_m1, b01_0, b01_1, not_true_eq_false, not_false_eq_true, false_implies, true_implies, implies_true, forall_const]
    have b1 := rc_le n kn x L t
    have b2 := mxB_le (g := rc n kn x L) (t := t) (b := L.length) (fun k _ => rc_le n kn x L k)
    rw [Int.toNat_natCast, h1 t (by omega), h2, sI_I, if_neg (by omega), sI_Ia (by omega), h1 t (by omega), h3]
    refine ⟨by omega, ⟨(by unfold R32; omega), (by unfold R32; omega)⟩, by omega, by omega, ?_⟩
    refine ih (t := t + 1) (by exact hL) (by omega) (fun k hk => ?_) ?_ ?_ (fun S' f => h S' ((Fr.sB (by decide)).tr ((Fr.sB (by decide)).tr f)))
    · rw [sI_Ia (by omega), sI_Ia (by omega)]; exact h1 k hk
    · rw [sI_I, if_neg (by omega), sI_I, if_pos ⟨rfl, rfl⟩]
      show _ = ((max (mxB (rc n kn x L) t) (rc n kn x L t) : Nat) : Int)
      omega
    · rw [sI_I, if_pos ⟨rfl, rfl⟩]
      show _ = ((smB (sqs (rc n kn x L)) t + rc n kn x L t * rc n kn x L t : Nat) : Int)
      rw [Int.natCast_add, Int.natCast_mul]
theorem rc_s {n kn x k t : Nat} {L : List Nat} (h : k < L.length) : rc n kn x (L.take (k + 1)) t = rc n kn x (L.take k) t + (if t = rsN n kn x (L.getD k 0) then 1 else 0) := by
  unfold rc
  rw [ct_s h]
  congr 1
  by_cases g : t = rsN n kn x (L.getD k 0)
  · rw [if_pos g, if_pos (by simpa using g.symm)]
  · rw [if_neg g, if_neg (by simpa using fun e => g e.symm)]
/-- a level's rows -/
def LV (S : MS) (m n l : Nat) (L : List Nat) : Prop := KL S m l L ∧ (∀ r ∈ L, r < fct n) ∧ L.length ≤ 5040 ∧ l < 36
theorem Fr.lv {m n l : Nat} {L : List Nat} {A B : List Nat} {S S1 : MS} (h : Fr m A B S S1) (h1 : 8 ∉ A) (h2 : 9 ∉ A) (k : LV S m n l L) : LV S1 m n l L := ⟨h.kl h1 h2 k.1, k.2⟩
theorem f_lays27 {d m n l kn x : Nat} {L : List Nat} {Q : Out → MS → Prop} (hd : 2 ≤ d) (h3 : 3 ≤ n) (h7 : n ≤ 7) (hk : kn < 3) (hx : x < 2 ^ n) (hp : pc x = pansK kn) : ∀ (j : Nat) {S : MS} {k : Nat}, RLay S m → Tb S m n → LV S m n l L → k + j = L.length → (∀ t, t < 7 → S.I (m+14) t = (rc n kn x (L.take k) t : Nat)) →
    (∀ S', Fr m [14] [25, 26] S S' → S'.I m 25 = (wst n kn x L : Nat) → S'.I m 26 = (spr n kn x L : Nat) → Q (.inl none) S') → VX11_lays_27 d Q (j + 1) m (l : Nat) (kn : Nat) (x : Nat) (k : Nat) S := by
  have p7 := p2_7 h7
  intro j
  induction j with
  | zero =>
    intro S k hL hT hV hj h1 h
    obtain ⟨hK, hrow, hlen, hl36⟩ := hV
    have hl := hL
    unfold RLay at hl
    unfold VX11_lays_27
    simp only [hl, sI_K, sI_N, sI_R, sI_J, Option.some.injEq, exists_eq_left', true_and, and_true, Int.toNat_zero, Int.reduceToNat, Int.reduceLT, Int.reduceLE, Int.cast_ofNat_Int, forall_eq, ge_iff_le, Int.reduceNeg, Int.reduceAdd, Int.reduceSub, Int.reduceMul, Int.reduceEq, r32_0, r32_1, r32_m1, b01_0, b01_1, not_true_eq_false, not_false_eq_true, false_implies, true_implies, implies_true, forall_const]
    rw [Int.toNat_natCast, hK.1]
    refine ⟨by omega, ⟨(by unfold R32; omega), (by unfold R32; omega)⟩, fun _ => ⟨8, ?_⟩, fun c => by omega⟩
    rw [show L.take k = L by rw [show k = L.length by omega]; exact List.take_length] at h1
    refine f_lays79 (n := n) (kn := kn) (x := x) hlen 7 (t := 0) (by exact hL) (by omega) (fun k hk => by rw [sI_Ia (by omega), sI_Ia (by omega)]; exact h1 k hk) ?_ ?_ (fun S' f => h S' ((Fr.sB (by decide)).tr ((Fr.sB (by decide)).tr (f.wk (by decide) (by decide)))))
    · rw [sI_I, if_neg (by omega), sI_I, if_pos ⟨rfl, rfl⟩]; rfl
    · rw [sI_I, if_pos ⟨rfl, rfl⟩]; rfl
  | succ j ih =>
    intro S k hL hT hV hj h1 h
    have hV' := hV
    obtain ⟨hK, hrow, hlen, hl36⟩ := hV
    have hl := hL
    unfold RLay at hl
    have hkl : k < L.length := by omega
    have hrk := hrow _ (getD_mem hkl)
    obtain ⟨e1, e2, -, -⟩ := rs_N (kn := kn) h3 h7 hrk hx (by rw [hp]; exact belK_pans hk)
    unfold VX11_lays_27
    simp only [hl, sI_K, sI_N, sI_R, sI_J, Option.some.injEq, exists_eq_left', true_and, and_true, Int.toNat_zero, Int.reduceToNat, Int.reduceLT, Int.reduceLE, Int.cast_ofNat_Int, forall_eq, ge_iff_le, Int.reduceNeg, Int.reduceAdd, Int.reduceSub, Int.reduceMul, Int.reduceEq, r32_0, r32_1, r32_m1, b01_0, b01_1, not_true_eq_false, not_false_eq_true, false_implies, true_implies, implies_true, forall_const]
    rw [Int.toNat_natCast, hK.1]
    refine ⟨by omega, ⟨(by unfold R32; omega), (by unfold R32; omega)⟩, fun _ => by omega, fun c => c_rowAt (r := l) (p := k) (by omega) hL rfl rfl (by omega) (oI_i ⟨hL.1, ?_⟩)⟩
    rw [hK.2 k hkl]
    refine c_riser (n := n) (kn := kn) (x := x) (by omega) hL h3 h7 hT rfl rfl rfl hk (by omega) hrk (oI_i ?_)
    simp only [hl, sI_K, sI_N, sI_R, sI_J, Option.some.injEq, exists_eq_left', true_and, and_true, Int.toNat_zero, Int.reduceToNat, Int.reduceLT, Int.reduceLE, Int.cast_ofNat_Int, forall_eq, ge_iff_le, Int.reduceNeg, Int.reduceAdd, Int.reduceSub, Int.reduceMul, Int.reduceEq, r32_0, r32_1, r32_m1, b01_0, b01_1, not_true_eq_false, not_false_eq_true, false_implies, true_implies, implies_true, forall_const]
    rw [e1, Int.toNat_natCast, h1 _ (by omega)]
    refine ⟨by omega, by omega, ih (k := k + 1) (by exact hL) (Fr.tb (A := [14]) (B := []) (Fr.sA (by decide) (by decide)) (by decide) (by decide) (by decide) hT) (Fr.lv (A := [14]) (B := []) (Fr.sA (by decide) (by decide)) (by decide) (by decide) hV') (by omega) (fun t ht => ?_) (fun S' f => h S' ((Fr.sA (by decide) (by decide)).tr f))⟩
    rw [sI_I, rc_s hkl]
    by_cases g : t = rsN n kn x (L.getD k 0)
    · rw [if_pos ⟨rfl, g⟩, if_pos g, g]
      omega
    · rw [if_neg (fun k => g k.2), if_neg g, h1 t ht]
      omega
theorem f_lays3 {d m n l kn x : Nat} {L : List Nat} {Q : Out → MS → Prop} (hd : 2 ≤ d) (h3 : 3 ≤ n) (h7 : n ≤ 7) (hk : kn < 3) (hx : x < 2 ^ n) (hp : pc x = pansK kn) : ∀ (j : Nat) {S : MS} {t : Nat}, RLay S m → Tb S m n → LV S m n l L → t + j = 7 → (∀ k, k < t → S.I (m+14) k = 0) →
    (∀ S', Fr m [14] [25, 26] S S' → S'.I m 25 = (wst n kn x L : Nat) → S'.I m 26 = (spr n kn x L : Nat) → Q (.inl none) S') → VX11_lays_3 d Q (j + 1) m (l : Nat) (kn : Nat) (x : Nat) (t : Nat) S := by
  intro j
  induction j with
  | zero =>
    intro S t hL hT hV hj h1 h
    unfold VX11_lays_3
    exact ⟨⟨(by unfold R32; omega), (by unfold R32; omega)⟩, fun _ => ⟨_, f_lays27 hd h3 h7 hk hx hp L.length (k := 0) hL hT hV (by omega) (fun t ht => h1 t (by omega)) h⟩, fun c => by omega⟩
  | succ j ih =>
    intro S t hL hT hV hj h1 h
    have hl := hL
    unfold RLay at hl
    unfold VX11_lays_3
    refine ⟨⟨(by unfold R32; omega), (by unfold R32; omega)⟩, fun _ => by omega, fun c => ?_⟩
    simp only [hl, sI_K, sI_N, sI_R, sI_J, Option.some.injEq, exists_eq_left', true_and, and_true, Int.toNat_zero, Int.reduceToNat, Int.reduceLT, Int.reduceLE, Int.cast_ofNat_Int, forall_eq, ge_iff_le, Int.reduceNeg, Int.reduceAdd, Int.reduceSub, Int.reduceMul, Int.reduceEq, r32_0, r32_1, r32_m1, b01_0, b01_1, not_true_eq_false, not_false_eq_true, false_implies, true_implies, implies_true, forall_const]
    rw [Int.toNat_natCast]
    refine ⟨by omega, ih (t := t + 1) (by exact hL) (Fr.tb (A := [14]) (B := []) (Fr.sA (by decide) (by decide)) (by decide) (by decide) (by decide) hT) (Fr.lv (A := [14]) (B := []) (Fr.sA (by decide) (by decide)) (by decide) (by decide) hV) (by omega) (fun k hk => ?_) (fun S' f => h S' ((Fr.sA (by decide) (by decide)).tr f))⟩
    rw [sI_I]
    split
    · rfl
    · exact h1 k (by omega)
theorem c_lays {d m n l kn x : Nat} {L : List Nat} {S : MS} {Q : Out → MS → Prop} {x1 x2 x3 : Int} (hd : 3 ≤ d) (hL : RLay S m) (h3 : 3 ≤ n) (h7 : n ≤ 7) (hT : Tb S m n) (hV : LV S m n l L) (e1 : x1 = (l : Int)) (e2 : x2 = (kn : Int)) (e3 : x3 = (x : Int)) (hk : kn < 3) (hx : x < 2 ^ n) (hp : pc x = pansK kn)
    (h : ∀ S', Fr m [14] [25, 26] S S' → S'.I m 25 = (wst n kn x L : Nat) → S'.I m 26 = (spr n kn x L : Nat) → Q (.inl none) S') : Mw hX11_lays yX11_lays d [vA m, vI x1, vI x2, vI x3] S Q := by
  subst e1 e2 e3
  obtain ⟨dd, rfl⟩ : ∃ e, d = e + 1 := ⟨d - 1, by omega⟩
  refine MX11_lays ?_
  unfold VX11_lays_0
  exact ⟨_, f_lays3 (by omega) h3 h7 hk hx hp 7 (t := 0) hL hT hV (by omega) (fun k hk => absurd hk (Nat.not_lt_zero k)) h⟩
/-- the best of sets, one after another -/
def nxS (n kn : Nat) (L : List Nat) (a : Int × Nat × Nat) (x : Nat) : Int × Nat × Nat := if 0 ≤ a.1 ∧ (a.2.1 < wst n kn x L ∨ (wst n kn x L = a.2.1 ∧ a.2.2 ≤ spr n kn x L)) then a else ((x : Int), wst n kn x L, spr n kn x L)
def nxF (n kn : Nat) (L : List Nat) : Int × Nat × Nat := (cmb n n (pansK kn)).foldl (nxS n kn L) (-1, 0, 0)
theorem fold_s {α : Type} {f : α → Nat → α} {a : α} {X : List Nat} {k : Nat} (h : k < X.length) : (X.take (k + 1)).foldl f a = f ((X.take k).foldl f a) (X.getD k 0) := by
  rw [take_s h, List.foldl_append]
  rfl
theorem cmb_k {n kn : Nat} (h7 : n ≤ 7) : (cmb n n (pansK kn)).length ≤ 35 ∧ ∀ x ∈ cmb n n (pansK kn), x < 2 ^ n ∧ pc x = pansK kn := by
  have := pansK_le kn
  exact cmb_ok n (by omega) (pansK kn) (by omega) this.1
theorem nx_ok {n kn : Nat} {L : List Nat} (h7 : n ≤ 7) (hlen : L.length ≤ 5040) : ∀ (X : List Nat) (a : Int × Nat × Nat), (∀ x ∈ X, x < 128) → (-1 ≤ a.1 ∧ a.1 < 128 ∧ a.2.1 ≤ 5040 ∧ a.2.2 ≤ 177811200) → (-1 ≤ (X.foldl (nxS n kn L) a).1 ∧ (X.foldl (nxS n kn L) a).1 < 128 ∧ (X.foldl (nxS n kn L) a).2.1 ≤ 5040 ∧ (X.foldl (nxS n kn L) a).2.2 ≤ 177811200)
  | [], a, _, h => h
  | x :: X, a, hX, h => by
    refine nx_ok h7 hlen X _ (fun y hy => hX y (List.mem_cons_of_mem _ hy)) ?_
    unfold nxS
    split
    · exact h
    · have h1 := wst_le n kn x L
      have h2 := spr_le (n := n) (kn := kn) (x := x) hlen
      have h3 := hX x List.mem_cons_self
      exact ⟨by show (-1 : Int) ≤ (x : Int); omega, by show (x : Int) < 128; omega, by show wst n kn x L ≤ 5040; omega, h2⟩
theorem f_nextOf {d m n l kn : Nat} {L : List Nat} {Q : Out → MS → Prop} (hd : 3 ≤ d) (h3 : 3 ≤ n) (h7 : n ≤ 7) (hk : kn < 3) (X : List Nat) (hX : X = cmb n n (pansK kn)) : ∀ (j : Nat) {S : MS} {k : Nat} {b : Int} {ls : Nat}, RLay S m → Tb S m n → LV S m n l L → SL S m X → k + j = X.length →
    b = ((X.take k).foldl (nxS n kn L) (-1, 0, 0)).1 → (0 ≤ b → S.I m 27 = (((X.take k).foldl (nxS n kn L) (-1, 0, 0)).2.1 : Nat) ∧ ls = ((X.take k).foldl (nxS n kn L) (-1, 0, 0)).2.2) → ls ≤ 177811200 →
    (∀ S', Fr m [14] [25, 26, 27] S S' → (0 ≤ (X.foldl (nxS n kn L) (-1, 0, 0)).1 → S'.I m 27 = ((X.foldl (nxS n kn L) (-1, 0, 0)).2.1 : Nat)) → Q (.inl (some (vI (X.foldl (nxS n kn L) (-1, 0, 0)).1))) S') → VX11_nextOf_16 d Q (j + 1) m (l : Nat) (kn : Nat) b (ls : Nat) (k : Nat) S := by
  have p7 := p2_7 h7
  have hc := cmb_k (kn := kn) h7
  rw [← hX] at hc
  intro j
  induction j with
  | zero =>
    intro S k b ls hL hT hV hS hj hb hn hls h
    have hl := hL
    unfold RLay at hl
    unfold VX11_nextOf_16
    simp only [hl, sI_K, sI_N, sI_R, sI_J, Option.some.injEq, exists_eq_left', true_and, and_true, Int.toNat_zero, Int.reduceToNat, Int.reduceLT, Int.reduceLE, Int.cast_ofNat_Int, forall_eq, ge_iff_le, Int.reduceNeg, Int.reduceAdd, Int.reduceSub, Int.reduceMul, Int.reduceEq, r32_0, r32_1, r32_m1, b01_0, b01_1, not_true_eq_false, not_false_eq_true, false_implies, true_implies, implies_true, forall_const]
    rw [hS.1]
    rw [show X.take k = X by rw [show k = X.length by omega]; exact List.take_length] at hb hn
    refine ⟨⟨(by unfold R32; omega), (by unfold R32; omega)⟩, fun _ => ?_, fun c => by omega⟩
    have := h S Fr.rf (fun g => (hn (by rw [hb]; exact g)).1)
    rw [← hb] at this
    exact this
  | succ j ih =>
    intro S k b ls hL hT hV hS hj hb hn hls h
    have hl := hL
    unfold RLay at hl
    have hkl : k < X.length := by omega
    have hxk := hc.2 _ (getD_mem hkl)
    have hb2 := nx_ok (kn := kn) h7 hV.2.2.1 (X.take k) (-1, 0, 0) (fun y hy => by have := (hc.2 y (List.mem_of_mem_take hy)).1; omega) (by decide)
    rw [← hb] at hb2
    unfold VX11_nextOf_16
    simp only [hl, sI_K, sI_N, sI_R, sI_J, Option.some.injEq, exists_eq_left', true_and, and_true, Int.toNat_zero, Int.reduceToNat, Int.reduceLT, Int.reduceLE, Int.cast_ofNat_Int, forall_eq, ge_iff_le, Int.reduceNeg, Int.reduceAdd, Int.reduceSub, Int.reduceMul, Int.reduceEq, r32_0, r32_1, r32_m1, b01_0, b01_1, not_true_eq_false, not_false_eq_true, false_implies, true_implies, implies_true, forall_const]
    rw [hS.1, Int.toNat_natCast, hS.2 k hkl]
    refine ⟨⟨(by unfold R32; omega), (by unfold R32; omega)⟩, fun _ => by omega, fun c => ⟨by omega, c_lays (n := n) (l := l) (kn := kn) (x := X.getD k 0) (by omega) hL h3 h7 hT hV rfl rfl rfl hk hxk.1 hxk.2 (fun S1 f1 w1 s1 => oV_i ?_)⟩⟩
    have hL1 := f1.lay hL
    have hS1 := f1.sl (by decide) (by decide) hS
    have hT1 := f1.tb (by decide) (by decide) (by decide) hT
    have hV1 := f1.lv (by decide) (by decide) hV
    have g27 : S1.I m 27 = S.I m 27 := f1.fld (by decide)
    have ew := wst_le n kn (X.getD k 0) L
    have es := spr_le (n := n) (kn := kn) (x := X.getD k 0) hV.2.2.1
    have hlen := hV.2.2.1
    have hfs := fold_s (f := nxS n kn L) (a := (-1, 0, 0)) hkl
    have take : ¬ (0 ≤ b ∧ (((X.take k).foldl (nxS n kn L) (-1, 0, 0)).2.1 < wst n kn (X.getD k 0) L ∨ (wst n kn (X.getD k 0) L = ((X.take k).foldl (nxS n kn L) (-1, 0, 0)).2.1 ∧ ((X.take k).foldl (nxS n kn L) (-1, 0, 0)).2.2 ≤ spr n kn (X.getD k 0) L))) → VX11_nextOf_76 d (VX11_nextOf_16 d Q (j + 1)) Q m (l : Nat) (kn : Nat) (k : Nat) S1 := by
      intro g
      rw [hb] at g
      have e : (X.take (k + 1)).foldl (nxS n kn L) (-1, 0, 0) = ((X.getD k 0 : Int), wst n kn (X.getD k 0) L, spr n kn (X.getD k 0) L) := by
        rw [hfs]
        exact if_neg g
      have hl := hL1
      unfold RLay at hl
      unfold VX11_nextOf_76 VX11_nextOf_98
      simp only [hl, sI_K, sI_N, sI_R, sI_J, Option.some.injEq, exists_eq_left', true_and, and_true, Int.toNat_zero, Int.reduceToNat, Int.reduceLT, Int.reduceLE, Int.cast_ofNat_Int, forall_eq, ge_iff_le, Int.reduceNeg, Int.reduceAdd, Int.reduceSub, Int.reduceMul, Int.reduceEq, r32_0, r32_1, r32_m1, b01_0, b01_1, not_true_eq_false, not_false_eq_true, false_implies, true_implies, implies_true, forall_const]
      rw [sI_I, if_neg (by omega), s1, w1, Int.toNat_natCast, hS1.2 k hkl]
      have f2 : Fr m [14] [25, 26, 27] S (S1.setI m 27 (wst n kn (X.getD k 0) L : Nat)) := (f1.wk (by decide) (by decide)).tr (Fr.sB (by decide))
      refine ⟨by omega, ih (k := k + 1) (f2.lay hL) (f2.tb (by decide) (by decide) (by decide) hT) (f2.lv (by decide) (by decide) hV) (f2.sl (by decide) (by decide) hS) (by omega) (by rw [e]) (fun _ => ?_) es (fun S' f => h S' (f2.tr f))⟩
      rw [e]
      exact ⟨by rw [sI_I, if_pos ⟨rfl, rfl⟩], rfl⟩
    have skip : (0 ≤ b ∧ (((X.take k).foldl (nxS n kn L) (-1, 0, 0)).2.1 < wst n kn (X.getD k 0) L ∨ (wst n kn (X.getD k 0) L = ((X.take k).foldl (nxS n kn L) (-1, 0, 0)).2.1 ∧ ((X.take k).foldl (nxS n kn L) (-1, 0, 0)).2.2 ≤ spr n kn (X.getD k 0) L))) → VX11_nextOf_98 d (VX11_nextOf_16 d Q (j + 1)) Q m (l : Nat) (kn : Nat) b (ls : Nat) (k : Nat) S1 := by
      intro g
      have g' := g
      rw [hb] at g
      have e : (X.take (k + 1)).foldl (nxS n kn L) (-1, 0, 0) = (X.take k).foldl (nxS n kn L) (-1, 0, 0) := by
        rw [hfs]
        exact if_pos g
      unfold VX11_nextOf_98
      refine ih (k := k + 1) hL1 hT1 hV1 hS1 (by omega) (by rw [e]; exact hb) (fun g2 => ?_) hls (fun S' f => h S' ((f1.wk (by decide) (by decide)).tr f))
      rw [e, g27]
      exact hn g2
    refine ⟨(by unfold R32; omega), fun c => take (by omega), fun c => ?_⟩
    obtain ⟨n1, n2⟩ := hn (by omega)
    have hl := hL1
    unfold RLay at hl
    simp only [hl, sI_K, sI_N, sI_R, sI_J, Option.some.injEq, exists_eq_left', true_and, and_true, Int.toNat_zero, Int.reduceToNat, Int.reduceLT, Int.reduceLE, Int.cast_ofNat_Int, forall_eq, ge_iff_le, Int.reduceNeg, Int.reduceAdd, Int.reduceSub, Int.reduceMul, Int.reduceEq, r32_0, r32_1, r32_m1, b01_0, b01_1, not_true_eq_false, not_false_eq_true, false_implies, true_implies, implies_true, forall_const]
    rw [w1, g27, n1, s1]
    refine ⟨⟨(by unfold R32; omega), (by unfold R32; omega)⟩, fun c1 => skip (by omega), fun c1 => ⟨⟨(by unfold R32; omega), (by unfold R32; omega)⟩, fun c2 => take (by omega), fun c2 => ⟨⟨(by unfold R32; omega), (by unfold R32; omega)⟩, fun c3 => take (by omega), fun c3 => skip (by omega)⟩⟩⟩
theorem c_nextOf {d m n l kn : Nat} {L : List Nat} {S : MS} {Q : Out → MS → Prop} {x1 x2 : Int} (hd : 4 ≤ d) (hL : RLay S m) (hg : GW n (S.I (m+1))) (hT : Tb S m n) (hV : LV S m n l L) (e1 : x1 = (l : Int)) (e2 : x2 = (kn : Int)) (hk : kn < 3)
    (h : ∀ S', Fr m [12, 13, 14] [23, 25, 26, 27] S S' → SL S' m (cmb n n (pansK kn)) → (0 ≤ (nxF n kn L).1 → S'.I m 27 = ((nxF n kn L).2.1 : Nat)) → Q (.inl (some (vI (nxF n kn L).1))) S') : Mw hX11_nextOf yX11_nextOf d [vA m, vI x1, vI x2] S Q := by
  subst e1 e2
  have h3 := hg.1.1
  have h7 := hg.1.2.1
  have hpk := pansK_le kn
  obtain ⟨dd, rfl⟩ : ∃ e, d = e + 1 := ⟨d - 1, by omega⟩
  refine MX11_nextOf ?_
  unfold VX11_nextOf_0
  refine c_pansOf (by omega) rfl hk (oI_i ⟨hL.1, c_listsSets (n := n) (k := pansK kn) (by omega) hL hg rfl (by omega) (cmb_k h7).1 (fun S1 f1 s1 => oV_i ⟨(cmb n n (pansK kn)).length + 1, ?_⟩)⟩)
  exact f_nextOf (by omega) h3 h7 hk (cmb n n (pansK kn)) rfl _ (k := 0) (b := -1) (ls := 0) (f1.lay hL) (f1.tb (by decide) (by decide) (by decide) hT) (f1.lv (by decide) (by decide) hV) s1 (Nat.zero_add _) rfl (fun c => by omega) (by omega) (fun S' f2 k2 => h S' ((f1.wk (by decide) (by decide)).tr (f2.wk (by decide) (by decide))) (f2.sl (by decide) (by decide) s1) k2)
