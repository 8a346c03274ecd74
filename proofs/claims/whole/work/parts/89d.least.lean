/-- levels, one cell and one laying change -/
def Fl (lb wa y : Nat) (S S' : MS) : Prop := S'.K = S.K ∧ S'.N = S.N ∧ S'.R = S.R ∧ S'.T = S.T ∧ S'.nx = S.nx ∧ S'.us = S.us ∧ ∀ a, (a < lb ∨ lb + 120 ≤ a) → a ≠ wa → a ≠ y → S'.I a = S.I a ∧ S'.J a = S.J a
theorem Fl.rf {lb wa y : Nat} {S : MS} : Fl lb wa y S S := ⟨rfl, rfl, rfl, rfl, rfl, rfl, fun _ _ _ _ => ⟨rfl, rfl⟩⟩
theorem Fl.tr {lb wa y : Nat} {S S1 S2 : MS} (f : Fl lb wa y S S1) (g : Fl lb wa y S1 S2) : Fl lb wa y S S2 := ⟨g.1.trans f.1, g.2.1.trans f.2.1, g.2.2.1.trans f.2.2.1, g.2.2.2.1.trans f.2.2.2.1, g.2.2.2.2.1.trans f.2.2.2.2.1, g.2.2.2.2.2.1.trans f.2.2.2.2.2.1, fun a h1 h2 h3 => ⟨((g.2.2.2.2.2.2 a h1 h2 h3).1).trans (f.2.2.2.2.2.2 a h1 h2 h3).1, ((g.2.2.2.2.2.2 a h1 h2 h3).2).trans (f.2.2.2.2.2.2 a h1 h2 h3).2⟩⟩
theorem Fg.fl {lb l wa y : Nat} {S S1 : MS} (f : Fg lb l wa y S S1) : Fl lb wa y S S1 := ⟨f.1, f.2.1, f.2.2.1, f.2.2.2.1, f.2.2.2.2.1, f.2.2.2.2.2.1, fun a h1 h2 h3 => f.2.2.2.2.2.2 a (by omega) h2 h3⟩
theorem Fi.fl {lo' hi' lb wa y : Nat} {S S1 : MS} (f : Fi lo' hi' S S1) (h1 : lb ≤ lo') (h2 : hi' ≤ lb + 120) : Fl lb wa y S S1 := ⟨f.1, f.2.1, f.2.2.1, f.2.2.2.1, f.2.2.2.2.1, f.2.2.2.2.2.1, fun a h _ _ => f.2.2.2.2.2.2 a (by omega)⟩
theorem Fi.flw {lb wa y : Nat} {S S1 : MS} (f : Fi wa (wa+1) S S1) : Fl lb wa y S S1 := ⟨f.1, f.2.1, f.2.2.1, f.2.2.2.1, f.2.2.2.2.1, f.2.2.2.2.2.1, fun a _ h2 _ => f.2.2.2.2.2.2 a (by omega)⟩
theorem kf_least {le b y lv lb n k lo hi li d : Nat} {p : Nat → Bool} {Q : Out → MS → Prop} (h3 : 3 ≤ n) (h7 : n ≤ 7) (hk : k < 3) (hw : le < lb) (hlo : lb + 120 ≤ lo) (hd : 22 ≤ d) : ∀ (j : Nat) {S : MS} {kk st : Nat}, kk + j = 9 → LI S le b y lv lb n k lo hi li 0 p → S.I le 0 = (st : Nat) → st ≤ 4000 → (∀ S', Fg lb 0 le le S S' → LVL S' lv lb → Q (.inl (some (vI (fwF n k (lsR p 5056) j kk st)))) S') → VX3_leastLayings_16 d Q (j + 1) le b y lv (kk : Nat) S := by
  intro j
  induction j with
  | zero =>
    intro S kk st hj hG hs hst h
    unfold VX3_leastLayings_16
    exact ⟨⟨(by unfold R32; omega), (by unfold R32; omega)⟩, fun _ => h S Fg.rf hG.2.2.2.1, fun c => by omega⟩
  | succ j ih =>
    intro S kk st hj hG hs hst h
    unfold VX3_leastLayings_16
    refine ⟨⟨(by unfold R32; omega), (by unfold R32; omega)⟩, fun c => by omega, fun _ => ⟨hG.1, k_learn h3 h7 hk hw hlo kk (lev := 0) (st := st) (by omega) (by omega) rfl rfl hG hs hst (fun S1 v f1 v1 r1 => oI_i ?_)⟩⟩
    have g1 := hG.mv f1 v1 hw hlo (by omega)
    have fe : ∀ o, lr n k kk (lsR p 5056) st = o → fwF n k (lsR p 5056) (j + 1) kk st = (match o with | none => -2 | some (true, _) => (kk : Int) | some (false, st') => fwF n k (lsR p 5056) j (kk + 1) st') := by
      intro o ho
      subst ho
      rfl
    rcases r1 with ⟨bb, st1, o1, o2, o3, o4⟩ | ⟨o1, o2, o3⟩
    · rw [fe _ o1] at h
      cases bb
      · have e : v = 0 := o3
        subst e
        rw [o4]
        exact ⟨r32_0, fun _ => ⟨g1.1, ⟨(by unfold R32; omega), (by unfold R32; omega)⟩, fun _ => ih (kk := kk + 1) (by omega) g1 o4 o2 (fun S' f' => h S' (f1.tr f')), fun c => by omega⟩, fun c => absurd rfl c⟩
      · have e : v = 1 := o3
        subst e
        exact ⟨r32_1, fun c => absurd c (by decide), fun _ => h S1 f1 v1⟩
    · rw [fe _ o1] at h
      subst o2
      rw [o3]
      exact ⟨r32_0, fun _ => ⟨g1.1, ⟨(by unfold R32; omega), (by unfold R32; omega)⟩, fun c => absurd c (by decide), fun _ => h S1 f1 v1⟩, fun c => absurd rfl c⟩
theorem k_leastLayings {le b y lv lb n k lo hi li d a : Nat} {p : Nat → Bool} {S : MS} {Q : Out → MS → Prop} (h3 : 3 ≤ n) (h7 : n ≤ 7) (hk : k < 3) (hw : le < lb) (hlo : lb + 120 ≤ lo) (hal : a + 3 ≤ le) (hd : 23 ≤ d) (k3 : S.K le = 3) (hAR : AR S b n lo hi li) (hY : LY S y n k lo hi li) (hV : LVL S lv lb) (hR : RS_ S a p) (hp : PS n p) (h : ∀ S', Fl lb le le S S' → LVL S' lv lb → Q (.inl (some (vI (fwF n k (lsR p 5056) 9 0 0)))) S') : Mw hX3_leastLayings yX3_leastLayings d [vA le, vA b, vA y, vA a, vA lv] S Q := by
  have ha := hp.a h3 h7
  obtain ⟨dd, rfl⟩ : ∃ e, d = e + 1 := ⟨d - 1, by omega⟩
  refine MX3_leastLayings ?_
  unfold VX3_leastLayings_0
  have F0 : Fi le (le+1) S (S.setI le 0 0) := Fi.sI (by omega)
  have v0 := hV.fi F0 (by omega)
  obtain ⟨q0, hq0⟩ := (v0.2.2 0 (by decide)).2
  refine ⟨k3, ⟨hV.1, ⟨by omega, by omega⟩, by omega, by rw [v0.2.1]; omega⟩, lb + 3 * 0, (v0.2.2 0 (by decide)).1, hq0.1.1, c_rCopy (by omega) (by omega) ha.1 (F0.rs (by omega) hR) hq0 (fun S1 f1 r1 => oV_i ⟨10, ?_⟩)⟩
  have z1 : Fz lo hi li S S1 := (F0.fz (by omega)).tr (f1.fz (by omega))
  have g1 : LI S1 le b y lv lb n k lo hi li 0 p := ⟨by rw [f1.1]; exact k3, z1.ar hAR, z1.ly hAR.2.2.2.1.2.2.1 hY, v0.fl f1 r1, r1, hp, by omega⟩
  refine kf_least h3 h7 hk hw hlo (by omega) 9 (kk := 0) (st := 0) (by omega) g1 ?_ (by omega) (fun S' f' v' => h S' ((F0.flw.tr (f1.fl (by omega) (by omega))).tr f'.fl) v')
  rw [f1.I (by omega), sI_I, if_pos ⟨rfl, rfl⟩]
  rfl
