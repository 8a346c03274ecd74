/-! all rows are made -/
theorem mkK_ {S : MS} {k n a o : Nat} (h : S.nx = o) : (S.mk k n).K a = if a = o then k else S.K a := by subst h; rfl
theorem mkN_ {S : MS} {k n a o : Nat} (h : S.nx = o) : (S.mk k n).N a = if a = o then n else S.N a := by subst h; rfl
theorem mkI_ {S : MS} {k n a o : Nat} (h : S.nx = o) : (S.mk k n).I a = if a = o then (fun _ => 0) else S.I a := by subst h; rfl
theorem mkJ_ {S : MS} {k n a o : Nat} (h : S.nx = o) : (S.mk k n).J a = if a = o then (fun _ => 0#64) else S.J a := by subst h; rfl
theorem mkR_ {S : MS} {k n a o : Nat} (h : S.nx = o) : (S.mk k n).R a = if a = o then (fun _ => none) else S.R a := by subst h; rfl
theorem mk2K_ {S : MS} {n k a o : Nat} (h : S.nx = o) : (S.mk2 n k).K a = if a = o then 20 else if o < a ∧ a < o + 1 + n then 14 else S.K a := by subst h; rfl
theorem mk2N_ {S : MS} {n k a o : Nat} (h : S.nx = o) : (S.mk2 n k).N a = if a = o then n else if o < a ∧ a < o + 1 + n then k else S.N a := by subst h; rfl
theorem mk2I_ {S : MS} {n k a o : Nat} (h : S.nx = o) : (S.mk2 n k).I a = if o ≤ a ∧ a < o + 1 + n then (fun _ => 0) else S.I a := by subst h; rfl
theorem mk2J_ {S : MS} {n k a o : Nat} (h : S.nx = o) : (S.mk2 n k).J a = if o ≤ a ∧ a < o + 1 + n then (fun _ => 0#64) else S.J a := by subst h; rfl
theorem mk2R_ {S : MS} {n k a o : Nat} (h : S.nx = o) : (S.mk2 n k).R a = if a = o then (fun j => if j < n then some (o + 1 + j) else none) else if o < a ∧ a < o + 1 + n then (fun _ => none) else S.R a := by subst h; rfl
/-- what lies below o stays -/
def Fo (o : Nat) (S S' : MS) : Prop := S'.T = S.T ∧ ∀ a, a < o → S'.K a = S.K a ∧ S'.N a = S.N a ∧ S'.I a = S.I a ∧ S'.J a = S.J a ∧ S'.R a = S.R a
theorem Fo.rf {o : Nat} {S : MS} : Fo o S S := ⟨rfl, fun _ _ => ⟨rfl, rfl, rfl, rfl, rfl⟩⟩
theorem Fo.tr {o : Nat} {S S1 S2 : MS} (f : Fo o S S1) (g : Fo o S1 S2) : Fo o S S2 := ⟨g.1.trans f.1, fun a h => by
  obtain ⟨a1, a2, a3, a4, a5⟩ := f.2 a h
  obtain ⟨b1, b2, b3, b4, b5⟩ := g.2 a h
  exact ⟨b1.trans a1, b2.trans a2, b3.trans a3, b4.trans a4, b5.trans a5⟩⟩
theorem Fo.wk {o o' : Nat} {S S1 : MS} (f : Fo o S S1) (h : o' ≤ o) : Fo o' S S1 := ⟨f.1, fun a ha => f.2 a (by omega)⟩
theorem Fo.mk {o k n : Nat} {S : MS} (h : o ≤ S.nx) : Fo o S (S.mk k n) := ⟨rfl, fun a ha => by
  rw [mkK_ rfl, mkN_ rfl, mkI_ rfl, mkJ_ rfl, mkR_ rfl]
  repeat (first | rw [if_pos (by omega)] | rw [if_neg (by omega)])
  exact ⟨rfl, rfl, rfl, rfl, rfl⟩⟩
theorem Fo.mk2 {o k n : Nat} {S : MS} (h : o ≤ S.nx) : Fo o S (S.mk2 n k) := ⟨rfl, fun a ha => by
  rw [mk2K_ rfl, mk2N_ rfl, mk2I_ rfl, mk2J_ rfl, mk2R_ rfl]
  repeat (first | rw [if_pos (by omega)] | rw [if_neg (by omega)])
  exact ⟨rfl, rfl, rfl, rfl, rfl⟩⟩
theorem Fo.sR {o a k : Nat} {v : Option Nat} {S : MS} (h : o ≤ a) : Fo o S (S.setR a k v) := ⟨rfl, fun b hb => ⟨rfl, rfl, rfl, rfl, sR_Ra (by omega)⟩⟩
theorem Fo.sI {o a k : Nat} {v : Int} {S : MS} (h : o ≤ a) : Fo o S (S.setI a k v) := ⟨rfl, fun b hb => ⟨rfl, rfl, sI_Ia (by omega), rfl, rfl⟩⟩
theorem Fi.fo {o lo hi : Nat} {S S1 : MS} (f : Fi lo hi S S1) (h : o ≤ lo) : Fo o S S1 := ⟨f.2.2.2.1, fun a ha => ⟨by rw [f.1], by rw [f.2.1], f.I (by omega), f.J (by omega), by rw [f.2.2.1]⟩⟩
theorem cl_ok_ : ∀ n, n < 8 → ∀ k, k < 3 → (Nat.blt n 3 || Nat.beq (cntB (fun s => Nat.beq (pc s) (pansK k)) (2 ^ n)) (cmb n n (pansK k)).length) = true := by decide +kernel
theorem cl_ok {n k : Nat} (h3 : 3 ≤ n) (h7 : n ≤ 7) (hk : k < 3) : cntB (fun s => Nat.beq (pc s) (pansK k)) (2 ^ n) = cl n k := by
  have := cl_ok_ n (by omega) k hk
  rw [show Nat.blt n 3 = false by cases e : Nat.blt n 3; rfl; have := Nat.le_of_ble_eq_true e; omega, Bool.false_or] at this
  exact Nat.eq_of_beq_eq_true this
/-- a laying's words hold nothing yet -/
def LYZ (S : MS) (y n k : Nat) : Prop := ∀ i, i < cl n k * pansK k + 1 → LA S (y+4+i) (Wn n) (fun _ => false)
def usL (n k : Nat) : Nat := cl n k + 2 ^ n + cl n k * pansK k + cl n k * pansK k * Wn n + Wn n
theorem la_0 {S : MS} {e W : Nat} (h1 : S.K e = 14) (h2 : S.N e = W) (h3 : S.J e = fun _ => 0#64) : LA S e W (fun _ => false) := ⟨h1, h2, fun w _ => by rw [h3, wdv_no]⟩
theorem kf_initL {d y n k : Nat} {Q : Out → MS → Prop} (hd : 1 ≤ d) (h3 : 3 ≤ n) (h7 : n ≤ 7) (hk : k < 3) {S : MS} (hK : S.K y = 2) (hx : S.nx = y + 1) (hI : LYI S y n k) (h : ∀ S', Fo y S S' → LYL S' y n k → LYI S' y n k → LYZ S' y n k → S'.nx = y + 5 + cl n k * pansK k → S'.us = S.us + usL n k → Q (.inl none) S') : ∀ (j : Nat) {s : Nat}, s + j = 2 ^ n → VX2_init_38 d Q (j + 1) y (n : Nat) (Wn n : Nat) (cntB (fun s => Nat.beq (pc s) (pansK k)) s : Nat) (s : Nat) S := by
  have p7 := p2_7 h7
  have hW := Wn_le h3 h7
  have c35 : cl n k ≤ 35 := (cmb_k (kn := k) h7).1
  have p4 : pansK k ≤ 4 := by unfold pansK; split <;> (try split) <;> omega
  have cp : cl n k * pansK k ≤ 140 := Nat.mul_le_mul c35 p4
  intro j
  induction j with
  | zero =>
    intro s hs
    unfold VX2_init_38
    rw [show s = 2 ^ n by omega, cl_ok h3 h7 hk, i1_shl (by omega)]
    simp only [Int.toNat_natCast]
    have x2 : ((S.mk 13 (cl n k)).setR y 1 (some S.nx)).nx = y + 2 := by show S.nx + 1 = y + 2; omega
    refine ⟨⟨(by unfold R32; omega), (by unfold R32; omega)⟩, fun _ => ⟨⟨by omega, by omega⟩, ?_, ⟨by omega, by omega⟩, ?_, fun S1 e1 => ?_⟩, fun c => by omega⟩
    · rw [mkK_ hx, if_neg (by omega)]; exact hK
    · rw [mkK_ x2, sR_K, mkK_ hx]
      repeat (first | rw [if_pos (by omega)] | rw [if_neg (by omega)])
      exact hK
    · have k1 : ∀ a, S1.K a = if a = y + 2 then 13 else if a = y + 1 then 13 else S.K a := fun a => by
        rw [e1, sR_K, mkK_ x2, sR_K, mkK_ hx]
      have n1 : ∀ a, S1.N a = if a = y + 2 then 2 ^ n else if a = y + 1 then cl n k else S.N a := fun a => by
        rw [e1, sR_N, mkN_ x2, sR_N, mkN_ hx]
      have i1 : ∀ a, S1.I a = if a = y + 2 then (fun _ => 0) else if a = y + 1 then (fun _ => 0) else S.I a := fun a => by
        rw [e1, sR_I, mkI_ x2, sR_I, mkI_ hx]
      have i0 : S1.I y 0 = (pansK k : Nat) := by
        rw [i1]
        repeat (first | rw [if_pos (by omega)] | rw [if_neg (by omega)])
        exact hI.1
      have K1 : S1.K y = 2 := by
        rw [k1]
        repeat (first | rw [if_pos (by omega)] | rw [if_neg (by omega)])
        exact hK
      have x1 : S1.nx = y + 3 := by
        rw [e1]
        show S.nx + 1 + 1 = y + 3
        omega
      have x4 : ((S1.mk2 (cl n k * pansK k) (Wn n)).setR y 7 (some S1.nx)).nx = y + 4 + cl n k * pansK k := by
        show S1.nx + 1 + cl n k * pansK k = _
        omega
      rw [i0, show ((cl n k : Nat) : Int) * ((pansK k : Nat) : Int) = ((cl n k * pansK k : Nat) : Int) by push_cast; rfl, Int.toNat_natCast]
      refine ⟨K1, ⟨⟨by omega, by omega⟩, by omega, by omega⟩, ?_, ⟨by omega, by omega⟩, ?_, fun S2 e2 => ?_⟩
      · rw [mk2K_ x1]
        repeat (first | rw [if_pos (by omega)] | rw [if_neg (by omega)])
        exact K1
      · rw [mkK_ x4, sR_K, mk2K_ x1]
        repeat (first | rw [if_pos (by omega)] | rw [if_neg (by omega)])
        exact K1
      · have f1 : Fo y S S1 := by
          rw [e1]
          exact (Fo.mk (by omega)).tr ((Fo.sR (by omega)).tr ((Fo.mk (by omega)).tr (Fo.sR (by omega))))
        have f2 : Fo y S1 S2 := by
          rw [e2]
          exact (Fo.mk2 (by omega)).tr ((Fo.sR (by omega)).tr ((Fo.mk (by omega)).tr (Fo.sR (by omega))))
        have r1 : S1.R y 1 = some (y + 1) ∧ S1.R y 6 = some (y + 2) := by
          rw [e1]
          constructor
          · rw [sR_R, if_neg (by omega), mkR_ x2, if_neg (by omega), sR_R, if_pos ⟨rfl, rfl⟩, hx]
          · rw [sR_R, if_pos ⟨rfl, rfl⟩, x2]
        have kk : ∀ a, S2.K a = if a = y + 4 + cl n k * pansK k then 14 else if a = y + 3 then 20 else if y + 3 < a ∧ a < y + 3 + 1 + cl n k * pansK k then 14 else S1.K a := fun a => by
          rw [e2, sR_K, mkK_ x4, sR_K, mk2K_ x1]
        have nn : ∀ a, S2.N a = if a = y + 4 + cl n k * pansK k then Wn n else if a = y + 3 then cl n k * pansK k else if y + 3 < a ∧ a < y + 3 + 1 + cl n k * pansK k then Wn n else S1.N a := fun a => by
          rw [e2, sR_N, mkN_ x4, sR_N, mk2N_ x1]
        have jj : ∀ a, S2.J a = if a = y + 4 + cl n k * pansK k then (fun _ => 0#64) else if y + 3 ≤ a ∧ a < y + 3 + 1 + cl n k * pansK k then (fun _ => 0#64) else S1.J a := fun a => by
          rw [e2, sR_J, mkJ_ x4, sR_J, mk2J_ x1]
        have ii : ∀ a, S2.I a = if a = y + 4 + cl n k * pansK k then (fun _ => 0) else if y + 3 ≤ a ∧ a < y + 3 + 1 + cl n k * pansK k then (fun _ => 0) else S1.I a := fun a => by
          rw [e2, sR_I, mkI_ x4, sR_I, mk2I_ x1]
        have rr3 : ∀ i, i < cl n k * pansK k → S2.R (y+3) i = some (y + 4 + i) := fun i hi => by
          rw [e2, sR_R, if_neg (by omega), mkR_ x4, if_neg (by omega), sR_Ra (by omega), mk2R_ x1, if_pos rfl, if_pos hi]
        have rry : S2.R y 1 = some (y + 1) ∧ S2.R y 6 = some (y + 2) ∧ S2.R y 7 = some (y + 3) ∧ S2.R y 8 = some (y + 4 + cl n k * pansK k) := by
          rw [e2]
          refine ⟨?_, ?_, ?_, ?_⟩
          · rw [sR_R, if_neg (by omega), mkR_ x4, if_neg (by omega), sR_R, if_neg (by omega), mk2R_ x1, if_neg (by omega), if_neg (by omega)]
            exact r1.1
          · rw [sR_R, if_neg (by omega), mkR_ x4, if_neg (by omega), sR_R, if_neg (by omega), mk2R_ x1, if_neg (by omega), if_neg (by omega)]
            exact r1.2
          · rw [sR_R, if_neg (by omega), mkR_ x4, if_neg (by omega), sR_R, if_pos ⟨rfl, rfl⟩, x1]
          · rw [sR_R, if_pos ⟨rfl, rfl⟩, x4]
        have iy : S2.I y = S.I y := by
          rw [ii]
          repeat (first | rw [if_pos (by omega)] | rw [if_neg (by omega)])
          rw [i1]
          repeat (first | rw [if_pos (by omega)] | rw [if_neg (by omega)])
        refine h S2 (f1.tr f2) ⟨?_, ⟨rry.1, ?_, ?_⟩, ⟨rry.2.1, ?_, ?_⟩, ⟨rry.2.2.1, ?_, ?_⟩, fun i hi => ⟨rr3 i hi, ?_, ?_⟩, ⟨rry.2.2.2, ?_, ?_⟩⟩ (by unfold LYI; rw [iy]; exact hI) (fun i hi => la_0 ?_ ?_ ?_) ?_ ?_
        · rw [kk]; repeat (first | rw [if_pos (by omega)] | rw [if_neg (by omega)])
          exact K1
        · rw [kk]; repeat (first | rw [if_pos (by omega)] | rw [if_neg (by omega)])
          rw [k1]; repeat (first | rw [if_pos (by omega)] | rw [if_neg (by omega)])
        · rw [nn]; repeat (first | rw [if_pos (by omega)] | rw [if_neg (by omega)])
          rw [n1]; repeat (first | rw [if_pos (by omega)] | rw [if_neg (by omega)])
        · rw [kk]; repeat (first | rw [if_pos (by omega)] | rw [if_neg (by omega)])
          rw [k1]; repeat (first | rw [if_pos (by omega)] | rw [if_neg (by omega)])
        · rw [nn]; repeat (first | rw [if_pos (by omega)] | rw [if_neg (by omega)])
          rw [n1]; repeat (first | rw [if_pos (by omega)] | rw [if_neg (by omega)])
        · rw [kk]; repeat (first | rw [if_pos (by omega)] | rw [if_neg (by omega)])
        · rw [nn]; repeat (first | rw [if_pos (by omega)] | rw [if_neg (by omega)])
        · rw [kk]; repeat (first | rw [if_pos (by omega)] | rw [if_neg (by omega)])
        · rw [nn]; repeat (first | rw [if_pos (by omega)] | rw [if_neg (by omega)])
        · rw [kk]; repeat (first | rw [if_pos (by omega)] | rw [if_neg (by omega)])
        · rw [nn]; repeat (first | rw [if_pos (by omega)] | rw [if_neg (by omega)])
        · rw [kk]
          by_cases g : i = cl n k * pansK k
          · rw [if_pos (by omega)]
          · repeat (first | rw [if_pos (by omega)] | rw [if_neg (by omega)])
        · rw [nn]
          by_cases g : i = cl n k * pansK k
          · rw [if_pos (by omega)]
          · repeat (first | rw [if_pos (by omega)] | rw [if_neg (by omega)])
        · rw [jj]
          by_cases g : i = cl n k * pansK k
          · rw [if_pos (by omega)]
          · repeat (first | rw [if_pos (by omega)] | rw [if_neg (by omega)])
        · rw [e2]
          show S1.nx + 1 + cl n k * pansK k + 1 = _
          omega
        · have u1 : S1.us = S.us + cl n k + 2 ^ n := by rw [e1]; rfl
          rw [e2]
          show S1.us + cl n k * pansK k + cl n k * pansK k * Wn n + Wn n = _
          unfold usL
          omega
  | succ j ih =>
    intro s hs
    have ih' := ih (s := s + 1) (by omega)
    have pc7 : pc s ≤ 7 := by unfold pc; exact cntB_le _ _
    unfold cntB at ih'
    unfold VX2_init_38 VX2_init_65
    rw [i1_shl (by omega)]
    refine ⟨⟨(by unfold R32; omega), (by unfold R32; omega)⟩, fun c => by omega, fun _ => c_bitCount hd rfl (by omega) (oI_i ⟨hK, by rw [hI.1]; exact ⟨(by unfold R32; omega), (by unfold R32; omega)⟩, fun c => ?_, fun c => ?_⟩)⟩
    · rw [hI.1] at c
      rw [if_neg (fun z => c (by have := Nat.eq_of_beq_eq_true z; omega))] at ih'
      exact ih'
    · rw [hI.1] at c
      rw [if_pos (by rw [show pc s = pansK k by omega]; exact Nat.beq_refl _)] at ih'
      exact ih'
theorem k_initL {d y n k : Nat} {S : MS} {Q : Out → MS → Prop} {x1 x2 x3 : Int} (hd : 2 ≤ d) (h3 : 3 ≤ n) (h7 : n ≤ 7) (hk : k < 3) (e1 : x1 = (n : Int)) (e2 : x2 = (k : Int)) (e3 : x3 = (Wn n : Int)) (hK : S.K y = 2) (hx : S.nx = y + 1) (h : ∀ S', Fo y S S' → LYL S' y n k → LYI S' y n k → LYZ S' y n k → S'.nx = y + 5 + cl n k * pansK k → S'.us = S.us + usL n k → Q (.inl none) S') : Mw hX2_init yX2_init d [vA y, vI x1, vI x2, vI x3] S Q := by
  subst e1 e2 e3
  obtain ⟨dd, rfl⟩ : ∃ e, d = e + 1 := ⟨d - 1, by omega⟩
  refine MX2_init ?_
  unfold VX2_init_0
  refine ⟨hK, hK, hK, hK, c_kPans (by omega) rfl hk (oI_i ⟨hK, 2 ^ n + 1, ?_⟩)⟩
  have f0 : Fo y S (((((S.setI y 2 0).setI y 3 0).setI y 5 (n : Int)).setI y 4 (k : Int)).setI y 0 (pansK k : Nat)) := (Fo.sI (Nat.le_refl _)).tr ((Fo.sI (Nat.le_refl _)).tr ((Fo.sI (Nat.le_refl _)).tr ((Fo.sI (Nat.le_refl _)).tr (Fo.sI (Nat.le_refl _)))))
  refine kf_initL (S := ((((S.setI y 2 0).setI y 3 0).setI y 5 (n : Int)).setI y 4 (k : Int)).setI y 0 (pansK k : Nat)) (d := dd) (by omega) h3 h7 hk (by exact hK) (by exact hx) ⟨?_, ?_, ?_⟩ (fun S' f => h S' (f0.tr f)) (2 ^ n) (s := 0) (by omega)
  · rw [sI_I, if_pos ⟨rfl, rfl⟩]
  · rw [sI_I, if_neg (by omega), sI_I, if_pos ⟨rfl, rfl⟩]
  · rw [sI_I, if_neg (by omega), sI_I, if_neg (by omega), sI_I, if_pos ⟨rfl, rfl⟩]
/-! a field gets a new array: the cells below stay -/
def Fe (o b : Nat) (S S' : MS) : Prop := S'.T = S.T ∧ ∀ a, a < o → a ≠ b → S'.K a = S.K a ∧ S'.N a = S.N a ∧ S'.I a = S.I a ∧ S'.J a = S.J a ∧ S'.R a = S.R a
theorem Fe.rf {o b : Nat} {S : MS} : Fe o b S S := ⟨rfl, fun _ _ _ => ⟨rfl, rfl, rfl, rfl, rfl⟩⟩
theorem Fe.tr {o b : Nat} {S S1 S2 : MS} (f : Fe o b S S1) (g : Fe o b S1 S2) : Fe o b S S2 := ⟨g.1.trans f.1, fun a h h' => by
  obtain ⟨a1, a2, a3, a4, a5⟩ := f.2 a h h'
  obtain ⟨b1, b2, b3, b4, b5⟩ := g.2 a h h'
  exact ⟨b1.trans a1, b2.trans a2, b3.trans a3, b4.trans a4, b5.trans a5⟩⟩
theorem Fe.wk {o o' b : Nat} {S S1 : MS} (f : Fe o b S S1) (h : o' ≤ o) : Fe o' b S S1 := ⟨f.1, fun a ha => f.2 a (by omega)⟩
theorem Fo.fe {o b : Nat} {S S1 : MS} (f : Fo o S S1) : Fe o b S S1 := ⟨f.1, fun a ha _ => f.2 a ha⟩
theorem Fe.fo {o b : Nat} {S S1 : MS} (f : Fe o b S S1) (h : b = o ∨ o ≤ b) : Fo o S S1 := ⟨f.1, fun a ha => f.2 a ha (by omega)⟩
theorem Fe.sR {o b k : Nat} {v : Option Nat} {S : MS} : Fe o b S (S.setR b k v) := ⟨rfl, fun a _ h => ⟨rfl, rfl, rfl, rfl, sR_Ra h⟩⟩
theorem Fe.sI {o b k : Nat} {v : Int} {S : MS} : Fe o b S (S.setI b k v) := ⟨rfl, fun a _ h => ⟨rfl, rfl, sI_Ia h, rfl, rfl⟩⟩
theorem stA {T T' : MS} {k n o b f : Nat} (hx : T.nx = o) (hb : b < o) (e : T' = (T.mk k n).setR b f (some T.nx)) : Fe o b T T' ∧ T'.nx = o + 1 ∧ T'.us = T.us + n ∧ (T'.K b = T.K b ∧ T'.I b = T.I b ∧ T'.N b = T.N b) ∧ (∀ j, j ≠ f → T'.R b j = T.R b j) ∧ T'.R b f = some o ∧ T'.K o = k ∧ T'.N o = n ∧ T'.J o = (fun _ => 0#64) ∧ T'.I o = (fun _ => 0) ∧ T'.R o = (fun _ => none) := by
  subst e
  refine ⟨(Fo.mk (by omega)).fe.tr Fe.sR, by show T.nx + 1 = _; omega, rfl, ⟨?_, ?_, ?_⟩, fun j hj => ?_, ?_, ?_, ?_, ?_, ?_, ?_⟩
  · rw [sR_K, mkK_ hx, if_neg (by omega)]
  · rw [sR_I, mkI_ hx, if_neg (by omega)]
  · rw [sR_N, mkN_ hx, if_neg (by omega)]
  · rw [sR_R, if_neg (fun z => hj z.2), mkR_ hx, if_neg (by omega)]
  · rw [sR_R, if_pos ⟨rfl, rfl⟩, hx]
  · rw [sR_K, mkK_ hx, if_pos rfl]
  · rw [sR_N, mkN_ hx, if_pos rfl]
  · rw [sR_J, mkJ_ hx, if_pos rfl]
  · rw [sR_I, mkI_ hx, if_pos rfl]
  · rw [sR_Ra (by omega), mkR_ hx, if_pos rfl]
theorem stB {T T' : MS} {k n o b f : Nat} (hx : T.nx = o) (hb : b < o) (e : T' = (T.mk2 n k).setR b f (some T.nx)) : Fe o b T T' ∧ T'.nx = o + 1 + n ∧ T'.us = T.us + n + n * k ∧ (T'.K b = T.K b ∧ T'.I b = T.I b ∧ T'.N b = T.N b) ∧ (∀ j, j ≠ f → T'.R b j = T.R b j) ∧ T'.R b f = some o ∧ T'.K o = 20 ∧ T'.N o = n ∧ ∀ i, i < n → T'.R o i = some (o + 1 + i) ∧ T'.K (o + 1 + i) = 14 ∧ T'.N (o + 1 + i) = k ∧ T'.J (o + 1 + i) = (fun _ => 0#64) := by
  subst e
  refine ⟨(Fo.mk2 (by omega)).fe.tr Fe.sR, by show T.nx + 1 + n = _; omega, rfl, ⟨?_, ?_, ?_⟩, fun j hj => ?_, ?_, ?_, ?_, fun i hi => ⟨?_, ?_, ?_, ?_⟩⟩
  · rw [sR_K, mk2K_ hx, if_neg (by omega), if_neg (by omega)]
  · rw [sR_I, mk2I_ hx, if_neg (by omega)]
  · rw [sR_N, mk2N_ hx, if_neg (by omega), if_neg (by omega)]
  · rw [sR_R, if_neg (fun z => hj z.2), mk2R_ hx, if_neg (by omega), if_neg (by omega)]
  · rw [sR_R, if_pos ⟨rfl, rfl⟩, hx]
  · rw [sR_K, mk2K_ hx, if_pos rfl]
  · rw [sR_N, mk2N_ hx, if_pos rfl]
  · rw [sR_Ra (by omega), mk2R_ hx, if_pos rfl, if_pos hi]
  · rw [sR_K, mk2K_ hx, if_neg (by omega), if_pos (by omega)]
  · rw [sR_N, mk2N_ hx, if_neg (by omega), if_pos (by omega)]
  · rw [sR_J, mk2J_ hx, if_pos (by omega)]
/-- all rows, made but for the layings: nothing stands there yet -/
def AB (S : MS) (b n : Nat) : Prop := (S.K b = 0 ∧ S.I b 0 = (n : Int) ∧ S.I b 1 = (fct n : Int) ∧ S.I b 2 = (Wn n : Int)) ∧ (S.R b 3 = some (b+2) ∧ LA S (b+2) (Wn n) (fun _ => false)) ∧ (S.R b 4 = some (b+3) ∧ S.K (b+3) = 13 ∧ S.N (b+3) = fct n) ∧ (S.R b 5 = some (b+4) ∧ S.K (b+4) = 13 ∧ S.N (b+4) = fct n) ∧ (S.R b 6 = some (b+5) ∧ S.K (b+5) = 20 ∧ S.N (b+5) = n * n) ∧ (∀ i, i < n * n → S.R (b+5) i = some (b+6+i) ∧ LA S (b+6+i) (Wn n) (fun _ => false)) ∧ (S.R b 7 = some (b+6+n*n) ∧ S.K (b+6+n*n) = 20 ∧ S.N (b+6+n*n) = n * n) ∧ (∀ i, i < n * n → S.R (b+6+n*n) i = some (b+7+n*n+i) ∧ LA S (b+7+n*n+i) (Wn n) (fun _ => false)) ∧ (S.R b 8 = some (b+1) ∧ S.K (b+1) = 18 ∧ S.N (b+1) = 3)
theorem la_fe {o b e W : Nat} {q : Nat → Bool} {S S1 : MS} (f : Fe o b S S1) (h : e < o) (hb : e ≠ b) (k : LA S e W q) : LA S1 e W q := by
  obtain ⟨a1, a2, a3, a4, a5⟩ := f.2 e h hb
  unfold LA
  rw [a1, a2, a4]
  exact k
theorem AB.fo {o b n : Nat} {S S1 : MS} (f : Fo o S S1) (h : b + 7 + 2 * (n * n) ≤ o) (k : AB S b n) : AB S1 b n := by
  obtain ⟨⟨k1, i0, i1, i2⟩, ⟨r3, l3⟩, ⟨r4, k4, n4⟩, ⟨r5, k5, n5⟩, ⟨r6, k6, n6⟩, s6, ⟨r7, k7, n7⟩, s7, ⟨r8, k8, n8⟩⟩ := k
  have g := fun a (ha : a < o) => f.2 a ha
  have e := f.fe (b := o)
  have gb := g b (by omega)
  unfold AB
  rw [gb.1, gb.2.2.1, gb.2.2.2.2, (g (b+3) (by omega)).1, (g (b+3) (by omega)).2.1, (g (b+4) (by omega)).1, (g (b+4) (by omega)).2.1, (g (b+5) (by omega)).1, (g (b+5) (by omega)).2.1, (g (b+5) (by omega)).2.2.2.2, (g (b+6+n*n) (by omega)).1, (g (b+6+n*n) (by omega)).2.1, (g (b+6+n*n) (by omega)).2.2.2.2, (g (b+1) (by omega)).1, (g (b+1) (by omega)).2.1]
  exact ⟨⟨k1, i0, i1, i2⟩, ⟨r3, la_fe e (by omega) (by omega) l3⟩, ⟨r4, k4, n4⟩, ⟨r5, k5, n5⟩, ⟨r6, k6, n6⟩, fun i hi => ⟨(s6 i hi).1, la_fe e (by omega) (by omega) (s6 i hi).2⟩, ⟨r7, k7, n7⟩, fun i hi => ⟨(s7 i hi).1, la_fe e (by omega) (by omega) (s7 i hi).2⟩, ⟨r8, k8, n8⟩⟩
theorem AB.sR {b n k : Nat} {v : Option Nat} {S : MS} (k_ : AB S b n) : AB (S.setR (b+1) k v) b n := by
  have rb : (S.setR (b+1) k v).R b = S.R b := sR_Ra (by omega)
  have r5 : (S.setR (b+1) k v).R (b+5) = S.R (b+5) := sR_Ra (by omega)
  have r6 : (S.setR (b+1) k v).R (b+6+n*n) = S.R (b+6+n*n) := sR_Ra (by omega)
  unfold AB
  rw [rb, r5, r6]
  exact k_
def usK (n : Nat) : Nat → Nat
  | 0 => 0
  | k + 1 => usK n k + 9 + usL n k
/-- the first j layings are made -/
def YB (S : MS) (b n j : Nat) : Prop := ∀ k, k < j → S.R (b+1) k = some (yk n b k) ∧ LYL S (yk n b k) n k ∧ LYI S (yk n b k) n k ∧ LYZ S (yk n b k) n k
theorem yk_mono {n b : Nat} {k j : Nat} (h : k < j) : yk n b k + 5 + cl n k * pansK k ≤ yk n b j := by
  induction j with
  | zero => omega
  | succ j ih =>
    show _ ≤ yk n b j + 5 + cl n j * pansK j
    by_cases c : k = j
    · rw [c]; omega
    · have := ih (by omega)
      omega
theorem lyl_fo {o y n k : Nat} {S S1 : MS} (f : Fo o S S1) (h : y + 5 + cl n k * pansK k ≤ o) (a : LYL S y n k) : LYL S1 y n k := by
  obtain ⟨l1, ⟨l2, l2k, l2n⟩, ⟨l3, l3k, l3n⟩, ⟨l4, l4k, l4n⟩, l5, ⟨l6, l6k, l6n⟩⟩ := a
  have g := fun a (ha : a < o) => f.2 a ha
  unfold LYL
  rw [(g y (by omega)).1, (g y (by omega)).2.2.2.2, (g (y+1) (by omega)).1, (g (y+1) (by omega)).2.1, (g (y+2) (by omega)).1, (g (y+2) (by omega)).2.1, (g (y+3) (by omega)).1, (g (y+3) (by omega)).2.1, (g (y+3) (by omega)).2.2.2.2, (g (y+4+cl n k * pansK k) (by omega)).1, (g (y+4+cl n k * pansK k) (by omega)).2.1]
  exact ⟨l1, ⟨l2, l2k, l2n⟩, ⟨l3, l3k, l3n⟩, ⟨l4, l4k, l4n⟩, fun i hi => ⟨(l5 i hi).1, by rw [(g _ (by omega)).1]; exact (l5 i hi).2.1, by rw [(g _ (by omega)).2.1]; exact (l5 i hi).2.2⟩, ⟨l6, l6k, l6n⟩⟩
theorem lyi_fo {o y n k : Nat} {S S1 : MS} (f : Fo o S S1) (h : y < o) (a : LYI S y n k) : LYI S1 y n k := by
  unfold LYI
  rw [(f.2 y h).2.2.1]
  exact a
theorem lyz_fo {o y n k : Nat} {S S1 : MS} (f : Fo o S S1) (h : y + 5 + cl n k * pansK k ≤ o) (a : LYZ S y n k) : LYZ S1 y n k := fun i hi => la_fe (f.fe (b := o)) (by omega) (by omega) (a i hi)
theorem kf_init114 {d b n : Nat} {Q : Out → MS → Prop} (hd : 2 ≤ d) (h3 : 3 ≤ n) (h7 : n ≤ 7) : ∀ (q : Nat) {S : MS} {j : Nat}, j + q = 3 → AB S b n → YB S b n j → S.nx = yk n b j → (∀ S', Fe (b+7+2*(n*n)) (b+1) S S' → AB S' b n → YB S' b n 3 → S'.nx = yk n b 3 → S'.us + usK n j = S.us + usK n 3 → Q (.inl none) S') → VX0_init_114 d Q (q + 1) b (n : Nat) (j : Nat) S := by
  intro q
  induction q with
  | zero =>
    intro S j hj hB hY hx h
    unfold VX0_init_114
    have : j = 3 := by omega
    subst this
    exact ⟨⟨(by unfold R32; omega), (by unfold R32; omega)⟩, fun _ => h S Fe.rf hB hY hx rfl, fun c => by omega⟩
  | succ q ih =>
    intro S j hj hB hY hx h
    have yg := yk_ge (n := n) (b := b) j
    have i2 : (S.mk 2 9).I b 2 = (Wn n : Int) := by rw [mkI_ hx, if_neg (by omega)]; exact hB.1.2.2.2
    have kb : (S.mk 2 9).K b = 0 := by rw [mkK_ hx, if_neg (by omega)]; exact hB.1.1
    have ky : (S.mk 2 9).K (yk n b j) = 2 := by rw [mkK_ hx, if_pos rfl]
    have f0 : Fo (yk n b j) S (S.mk 2 9) := Fo.mk (by omega)
    unfold VX0_init_114
    rw [i2, hx]
    refine ⟨⟨(by unfold R32; omega), (by unfold R32; omega)⟩, fun c => by omega, fun _ => ⟨hB.1.1, b+1, hB.2.2.2.2.2.2.2.2.1, kb, k_initL hd h3 h7 (by omega) rfl rfl rfl ky (by show S.nx + 1 = _; omega) (fun S2 f2 L2 I2 Z2 x2 u2 => oV_i ?_)⟩⟩
    have F2 := f0.tr f2
    have B2 := hB.fo F2 (by omega)
    have u0 : (S.mk 2 9).us = S.us + 9 := rfl
    refine ⟨⟨B2.2.2.2.2.2.2.2.2.2.1, L2.1, by omega, by rw [B2.2.2.2.2.2.2.2.2.2.2]; omega⟩, ?_⟩
    rw [Int.toNat_natCast]
    have f3 : ∀ o, o ≤ b + 1 → Fo o S2 (S2.setR (b+1) j (some (yk n b j))) := fun o ho => Fo.sR ho
    refine ih (j := j + 1) (by omega) B2.sR (fun k hk => ?_) (by show S2.nx = _; rw [x2]; rfl) (fun S' fS bS yS xS uS => h S' (((F2.wk (by omega)).fe).tr (Fe.sR.tr fS)) bS yS xS ?_)
    · by_cases c : k = j
      · subst c
        refine ⟨by rw [sR_R, if_pos ⟨rfl, rfl⟩], ?_, I2, Z2⟩
        unfold LYL
        rw [sR_Ra (by omega), sR_Ra (by omega)]
        exact L2
      · obtain ⟨y1, y2, y3, y4⟩ := hY k (by omega)
        have ym := yk_mono (n := n) (b := b) (show k < j by omega)
        have yg' := yk_ge (n := n) (b := b) k
        refine ⟨by rw [sR_R, if_neg (fun z => c z.2), (F2.2 (b+1) (by omega)).2.2.2.2]; exact y1, ?_, show LYI S2 (yk n b k) n k from lyi_fo F2 (by omega) y3, show LYZ S2 (yk n b k) n k from lyz_fo F2 (by omega) y4⟩
        have := lyl_fo F2 (by omega) y2
        unfold LYL at this ⊢
        rw [sR_Ra (by omega), sR_Ra (by omega)]
        exact this
    · have e1 : usK n (j + 1) = usK n j + 9 + usL n j := rfl
      have e2 : (S2.setR (b+1) j (some (yk n b j))).us = S2.us := rfl
      omega
theorem iDiv_64 {a : Nat} (h : a < 100000) : iDiv ((a : Int) + 63) 64 = (((a + 63) / 64 : Nat) : Int) := by
  have e : (a : Int) + 63 = ((a + 63 : Nat) : Int) := by omega
  rw [e]
  exact iDiv_n (a := a + 63) (b := 64) (by omega) (by omega)
def usA (n : Nat) : Nat := 3 + Wn n + 2 * fct n + 2 * (n * n + n * n * Wn n) + usK n 3
theorem kf_init16 {d b n : Nat} {Q : Out → MS → Prop} (hd : 2 ≤ d) (h3 : 3 ≤ n) (h7 : n ≤ 7) {S : MS} (hK : S.K b = 0) (hx : S.nx = b + 2) (r8 : S.R b 8 = some (b+1)) (k8 : S.K (b+1) = 18) (n8 : S.N (b+1) = 3) (h : ∀ S', Fo b S S' → AB S' b n → YB S' b n 3 → S'.nx = yk n b 3 → S'.us + 3 = S.us + usA n → Q (.inl none) S') : ∀ (j : Nat) {i : Nat}, i + j = n → 1 ≤ i → VX0_init_16 d Q (j + 1) b (n : Nat) (fct i : Nat) ((i + 1 : Nat) : Int) S := by
  have hf := fct_le h3 h7
  have hW := Wn_le h3 h7
  have nn : n * n ≤ 49 := Nat.mul_le_mul h7 h7
  intro j
  induction j with
  | zero =>
    intro i hi hi1
    have : i = n := by omega
    subst this
    unfold VX0_init_16
    rw [iDiv_64 (by omega), show (((fct i + 63) / 64 : Nat) : Int) = (Wn i : Int) from rfl]
    have w2 : (((S.setI b 0 (i : Int)).setI b 1 (fct i : Nat)).setI b 2 (Wn i : Nat)).I b 2 = (Wn i : Nat) := by rw [sI_I, if_pos ⟨rfl, rfl⟩]
    have w1 : (((S.setI b 0 (i : Int)).setI b 1 (fct i : Nat)).setI b 2 (Wn i : Nat)).I b 1 = (fct i : Nat) := by rw [sI_I, if_neg (by omega), sI_I, if_pos ⟨rfl, rfl⟩]
    have w0 : (((S.setI b 0 (i : Int)).setI b 1 (fct i : Nat)).setI b 2 (Wn i : Nat)).I b 0 = (i : Nat) := by rw [sI_I, if_neg (by omega), sI_I, if_neg (by omega), sI_I, if_pos ⟨rfl, rfl⟩]
    have fw : Fe (b+2) b S (((S.setI b 0 (i : Int)).setI b 1 (fct i : Nat)).setI b 2 (Wn i : Nat)) := Fe.sI.tr (Fe.sI.tr Fe.sI)
    have xw : (((S.setI b 0 (i : Int)).setI b 1 (fct i : Nat)).setI b 2 (Wn i : Nat)).nx = b + 2 := hx
    have rw_ : (((S.setI b 0 (i : Int)).setI b 1 (fct i : Nat)).setI b 2 (Wn i : Nat)).R = S.R := rfl
    have kw : (((S.setI b 0 (i : Int)).setI b 1 (fct i : Nat)).setI b 2 (Wn i : Nat)).K b = 0 := hK
    have uw : (((S.setI b 0 (i : Int)).setI b 1 (fct i : Nat)).setI b 2 (Wn i : Nat)).us = S.us := rfl
    generalize ((S.setI b 0 (i : Int)).setI b 1 (fct i : Nat)).setI b 2 (Wn i : Nat) = T at *
    rw [w2, Int.toNat_natCast]
    refine ⟨⟨(by unfold R32; omega), (by unfold R32; omega)⟩, fun _ => ⟨hK, hK, ⟨(by unfold R32; omega), by decide⟩, hK, kw, ⟨by omega, by omega⟩, fun S1 e1 => ?_⟩, fun c => by omega⟩
    -- the whole
    generalize e1' : S1.setR b 3 (some T.nx) = T1
    obtain ⟨f1, x1, u1, ⟨k1, i1, -⟩, ro1, r1, kk1, nn1, jj1, -⟩ := stA (f := 3) xw (by omega) (show T1 = (T.mk 14 (Wn i)).setR b 3 (some T.nx) by rw [← e1', e1])
    have i11 : T1.I b 1 = (fct i : Nat) := by rw [i1]; exact w1
    rw [i11, Int.toNat_natCast]
    have ks1 : S1.K b = 0 := by rw [e1, mkK_ xw, if_neg (by omega)]; exact kw
    refine ⟨ks1, by rw [k1]; exact kw, ⟨by omega, by omega⟩, fun S2 e2 => ?_⟩
    have ks2 : S2.K b = 0 := by rw [e2, mkK_ x1, if_neg (by omega), k1]; exact kw
    refine ⟨ks2, fun S3 e3 => ?_⟩
    obtain ⟨f2, x2, u2, ⟨k2, i2, -⟩, ro2, r2, kk2, nn2, -⟩ := stA (f := 4) x1 (by omega) (show S3 = (T1.mk 13 (fct i)).setR b 4 (some T1.nx) by rw [e3, e2])
    have i31 : S3.I b 1 = (fct i : Nat) := by rw [i2]; exact i11
    rw [i31, Int.toNat_natCast]
    have ks3 : S3.K b = 0 := by rw [k2, k1]; exact kw
    generalize e3' : (S3.mk 13 (fct i)).setR b 5 (some S3.nx) = T3
    obtain ⟨f3, x3, u3, ⟨k3, i3, -⟩, ro3, r3, kk3, nn3, -⟩ := stA (f := 5) x2 (by omega) e3'.symm
    have i32 : T3.I b 2 = (Wn i : Nat) := by rw [i3, i2, i1]; exact w2
    have ks4 : T3.K b = 0 := by rw [k3]; exact ks3
    rw [i32, show ((i : Nat) : Int) * ((i : Nat) : Int) = ((i * i : Nat) : Int) by push_cast; rfl, Int.toNat_natCast, Int.toNat_natCast]
    refine ⟨ks3, ⟨by omega, by omega⟩, by rw [mkK_ x2, if_neg (by omega)]; exact ks3, ks4, ⟨⟨by omega, by omega⟩, by omega, by omega⟩, fun S4 e4 => ?_⟩
    generalize e4' : S4.setR b 6 (some T3.nx) = T4
    obtain ⟨f4, x4, u4, ⟨k4, i4, -⟩, ro4, r4, kk4, nn4, in4⟩ := stB (f := 6) x3 (by omega) (show T4 = (T3.mk2 (i * i) (Wn i)).setR b 6 (some T3.nx) by rw [← e4', e4])
    have i42 : T4.I b 2 = (Wn i : Nat) := by rw [i4]; exact i32
    have ks5 : S4.K b = 0 := by rw [e4, mk2K_ x3, if_neg (by omega), if_neg (by omega)]; exact ks4
    have ks6 : T4.K b = 0 := by rw [k4]; exact ks4
    rw [i42, Int.toNat_natCast]
    refine ⟨ks5, ks6, ⟨⟨by omega, by omega⟩, by omega, by omega⟩, fun S5 e5 => ?_⟩
    have ks7 : S5.K b = 0 := by rw [e5, mk2K_ x4, if_neg (by omega), if_neg (by omega)]; exact ks6
    refine ⟨ks7, fun S6 e6 => ⟨4, ?_⟩⟩
    obtain ⟨f5, x5, u5, ⟨k5, i5, -⟩, ro5, r5, kk5, nn5, in5⟩ := stB (f := 7) x4 (by omega) (show S6 = (T4.mk2 (i * i) (Wn i)).setR b 7 (some T4.nx) by rw [e6, e5])
    have F5 : Fe (b + 5 + 1 + i * i) b T4 S6 := f5.wk (by omega)
    have F4 : Fe (b + 5) b T3 S6 := (f4.wk (by omega)).tr (F5.wk (by omega))
    have F3 : Fe (b + 4) b S3 S6 := (f3.wk (by omega)).tr (F4.wk (by omega))
    have F2 : Fe (b + 3) b T1 S6 := (f2.wk (by omega)).tr (F3.wk (by omega))
    have F1 : Fe (b + 2) b T S6 := (f1.wk (by omega)).tr (F2.wk (by omega))
    have F0 : Fe (b + 2) b S S6 := fw.tr F1
    have ib : S6.I b = T.I b := by rw [i5, i4, i3, i2, i1]
    have AB6 : AB S6 b i := by
      refine ⟨⟨by rw [k5]; exact ks6, by rw [ib]; exact w0, by rw [ib]; exact w1, by rw [ib]; exact w2⟩, ⟨?_, ?_⟩, ⟨?_, ?_, ?_⟩, ⟨?_, ?_, ?_⟩, ⟨?_, ?_, ?_⟩, fun q hq => ⟨?_, ?_⟩, ⟨?_, ?_, ?_⟩, fun q hq => ⟨?_, ?_⟩, ⟨?_, ?_, ?_⟩⟩
      · rw [ro5 3 (by omega), ro4 3 (by omega), ro3 3 (by omega), ro2 3 (by omega)]; exact r1
      · exact la_fe F2 (by omega) (by omega) (la_0 kk1 nn1 jj1)
      · rw [ro5 4 (by omega), ro4 4 (by omega), ro3 4 (by omega)]; exact r2
      · rw [(F3.2 (b+3) (by omega) (by omega)).1]; exact kk2
      · rw [(F3.2 (b+3) (by omega) (by omega)).2.1]; exact nn2
      · rw [ro5 5 (by omega), ro4 5 (by omega)]; exact r3
      · rw [(F4.2 (b+4) (by omega) (by omega)).1]; exact kk3
      · rw [(F4.2 (b+4) (by omega) (by omega)).2.1]; exact nn3
      · rw [ro5 6 (by omega)]; exact r4
      · rw [(F5.2 (b+5) (by omega) (by omega)).1]; exact kk4
      · rw [(F5.2 (b+5) (by omega) (by omega)).2.1]; exact nn4
      · rw [(F5.2 (b+5) (by omega) (by omega)).2.2.2.2]; exact (in4 q hq).1
      · exact la_fe F5 (by omega) (by omega) (la_0 (in4 q hq).2.1 (in4 q hq).2.2.1 (in4 q hq).2.2.2)
      · rw [r5]
      · rw [show b + 6 + i * i = b + 4 + 1 + 1 + i * i by omega]; exact kk5
      · rw [show b + 6 + i * i = b + 4 + 1 + 1 + i * i by omega]; exact nn5
      · have := (in5 q hq).1
        rw [show b + 4 + 1 + 1 + i * i = b + 6 + i * i by omega] at this
        rw [this]; congr 1; omega
      · have := in5 q hq
        rw [show b + 4 + 1 + 1 + i * i + 1 + q = b + 7 + i * i + q by omega] at this
        exact la_0 this.2.1 this.2.2.1 this.2.2.2
      · rw [ro5 8 (by omega), ro4 8 (by omega), ro3 8 (by omega), ro2 8 (by omega), ro1 8 (by omega), rw_]; exact r8
      · rw [(F0.2 (b+1) (by omega) (by omega)).1]; exact k8
      · rw [(F0.2 (b+1) (by omega) (by omega)).2.1]; exact n8
    refine kf_init114 hd h3 h7 3 (j := 0) (by omega) AB6 (fun k hk => absurd hk (Nat.not_lt_zero k)) (by show _ = b + 7 + 2 * (i * i); omega) (fun S' fS bS yS xS uS => h S' (((F0.wk (by omega)).fo (by omega)).tr ((fS.wk (by omega)).fo (by omega))) bS yS xS ?_)
    unfold usA
    have z : usK i 0 = 0 := rfl
    omega
  | succ j ih =>
    intro i hi hi1
    have := ih (i := i + 1) (by omega) (by omega)
    unfold VX0_init_16
    refine ⟨⟨(by unfold R32; omega), (by unfold R32; omega)⟩, fun c => by omega, fun _ => ?_⟩
    rw [show ((fct i : Nat) : Int) * ((i + 1 : Nat) : Int) = ((fct (i + 1) : Nat) : Int) by show _ = (((i + 1) * fct i : Nat) : Int); push_cast; rw [Int.mul_comm]]
    exact this
theorem k_init0 {d b n : Nat} {S : MS} {Q : Out → MS → Prop} {x : Int} (hd : 3 ≤ d) (h3 : 3 ≤ n) (h7 : n ≤ 7) (ex : x = (n : Int)) (hK : S.K b = 0) (hx : S.nx = b + 1) (h : ∀ S', Fo b S S' → AB S' b n → YB S' b n 3 → S'.nx = yk n b 3 → S'.us = S.us + usA n → Q (.inl none) S') : Mw hX0_init yX0_init d [vA b, vI x] S Q := by
  subst ex
  obtain ⟨dd, rfl⟩ : ∃ e, d = e + 1 := ⟨d - 1, by omega⟩
  refine MX0_init ?_
  unfold VX0_init_0
  obtain ⟨f0, x0, u0, ⟨k0, i0, -⟩, ro0, r0, kk0, nn0, -⟩ := stA (f := 8) (T' := (S.mk 18 3).setR b 8 (some S.nx)) (k := 18) (n := 3) hx (by omega) rfl
  refine ⟨⟨by decide, by decide⟩, ?_, n, ?_⟩
  · show (S.mk 18 3).K b = 0
    rw [mkK_ hx, if_neg (by omega)]; exact hK
  · have := kf_init16 (d := dd) (Q := Q) (by omega) h3 h7 (S := (S.mk 18 3).setR b 8 (some S.nx)) (by rw [k0]; exact hK) x0 r0 kk0 nn0 (fun S' fS bS yS xS uS => h S' (((f0.wk (by omega)).fo (by omega)).tr fS) bS yS xS (by omega)) (n - 1) (i := 1) (by omega) (by omega)
    rw [show n - 1 + 1 = n by omega] at this
    exact this
