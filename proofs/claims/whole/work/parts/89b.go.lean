def LVL (S : MS) (lv lb : Nat) : Prop := S.K lv = 19 ∧ S.N lv = 40 ∧ ∀ i, i < 40 → S.R lv i = some (lb + 3 * i) ∧ ∃ q, RS_ S (lb + 3 * i) q
/-- levels behind l, one cell and one laying change -/
def Fg (lb l wa y : Nat) (S S' : MS) : Prop := S'.K = S.K ∧ S'.N = S.N ∧ S'.R = S.R ∧ S'.T = S.T ∧ S'.nx = S.nx ∧ S'.us = S.us ∧ ∀ a, (a < lb + 3 * (l + 1) ∨ lb + 120 ≤ a) → a ≠ wa → a ≠ y → S'.I a = S.I a ∧ S'.J a = S.J a
theorem Fg.rf {lb l wa y : Nat} {S : MS} : Fg lb l wa y S S := ⟨rfl, rfl, rfl, rfl, rfl, rfl, fun _ _ _ _ => ⟨rfl, rfl⟩⟩
theorem Fg.tr {lb l wa y : Nat} {S S1 S2 : MS} (f : Fg lb l wa y S S1) (g : Fg lb l wa y S1 S2) : Fg lb l wa y S S2 := ⟨g.1.trans f.1, g.2.1.trans f.2.1, g.2.2.1.trans f.2.2.1, g.2.2.2.1.trans f.2.2.2.1, g.2.2.2.2.1.trans f.2.2.2.2.1, g.2.2.2.2.2.1.trans f.2.2.2.2.2.1, fun a h1 h2 h3 => ⟨((g.2.2.2.2.2.2 a h1 h2 h3).1).trans (f.2.2.2.2.2.2 a h1 h2 h3).1, ((g.2.2.2.2.2.2 a h1 h2 h3).2).trans (f.2.2.2.2.2.2 a h1 h2 h3).2⟩⟩
theorem Fg.wk {lb l l' wa y : Nat} {S S1 : MS} (f : Fg lb l' wa y S S1) (h : l ≤ l') : Fg lb l wa y S S1 := ⟨f.1, f.2.1, f.2.2.1, f.2.2.2.1, f.2.2.2.2.1, f.2.2.2.2.2.1, fun a h1 h2 h3 => f.2.2.2.2.2.2 a (by omega) h2 h3⟩
theorem Fi.fgw {lb l wa y : Nat} {S S1 : MS} (f : Fi wa (wa+1) S S1) : Fg lb l wa y S S1 := ⟨f.1, f.2.1, f.2.2.1, f.2.2.2.1, f.2.2.2.2.1, f.2.2.2.2.2.1, fun a _ h2 _ => f.2.2.2.2.2.2 a (by omega)⟩
theorem Fi.fgy {lb l wa y : Nat} {S S1 : MS} (f : Fi y (y+1) S S1) : Fg lb l wa y S S1 := ⟨f.1, f.2.1, f.2.2.1, f.2.2.2.1, f.2.2.2.2.1, f.2.2.2.2.2.1, fun a _ _ h3 => f.2.2.2.2.2.2 a (by omega)⟩
theorem Fi.fgl {lb l i wa y : Nat} {S S1 : MS} (f : Fi (lb + 3 * i) (lb + 3 * i + 3) S S1) (h1 : l < i) (h2 : i < 40) : Fg lb l wa y S S1 := ⟨f.1, f.2.1, f.2.2.1, f.2.2.2.1, f.2.2.2.2.1, f.2.2.2.2.2.1, fun a h _ _ => f.2.2.2.2.2.2 a (by omega)⟩
theorem Fg.rs {lb l wa y i : Nat} {p : Nat → Bool} {S S1 : MS} (f : Fg lb l wa y S S1) (hw : wa < lb) (hy : lb + 120 ≤ y) (hi : i ≤ l) (hl : l < 40) (k : RS_ S (lb + 3 * i) p) : RS_ S1 (lb + 3 * i) p := by
  have e := fun a (h : lb + 3 * i ≤ a ∧ a < lb + 3 * i + 3) => f.2.2.2.2.2.2 a (by omega) (by omega) (by omega)
  unfold RS_ RY RC
  rw [f.1, f.2.1, f.2.2.1, (e (lb + 3 * i) (by omega)).1, (e (lb + 3 * i + 1) (by omega)).2, (e (lb + 3 * i + 2) (by omega)).1]
  exact k
theorem wk_lf {n k : Nat} {th : Int} : ∀ {f lev : Nat} {L : List Nat}, (wk n k th f lev L).1 ≤ lev + f
  | 0, lev, L => Nat.le_refl _
  | f + 1, lev, L => by
    unfold wk
    split
    · show lev ≤ _; omega
    · have : ∀ (j p : Nat) (a : Nat × Nat × Bool), a.1 ≤ lev + (f + 1) → (wkC (fun p => wk n k th f (lev + 1) (prt n k (arF n k th L).toNat (mbN (arF n k th L).toNat p) L)) j p a).1 ≤ lev + (f + 1) := by
        intro j
        induction j with
        | zero => intro p a h; exact h
        | succ j ih =>
          intro p a h
          refine ih (p + 1) _ ?_
          show max a.1 (wk n k th f (lev + 1) _).1 ≤ _
          have := wk_lf (n := n) (k := k) (th := th) (f := f) (lev := lev + 1) (L := prt n k (arF n k th L).toNat (mbN (arF n k th L).toNat p) L)
          omega
      exact this _ _ _ (show lev ≤ _ by omega)
def WA (S : MS) (wa : Nat) (A : Nat × Nat × Bool) : Prop := S.I wa 0 = (A.1 : Nat) ∧ S.I wa 1 = (A.2.1 : Nat) ∧ S.I wa 2 = (if A.2.2 then 1 else 0 : Int)
/-- what a walk stands on -/
def GI (S : MS) (wa b y lv lb n k lo hi li lev : Nat) (p : Nat → Bool) : Prop := S.K wa = 9 ∧ AR S b n lo hi li ∧ LY S y n k lo hi li ∧ LVL S lv lb ∧ HR S (lb + 3 * lev) n lo p
theorem GI.mv {wa b y lv lb n k lo hi li lev : Nat} {p : Nat → Bool} {S S1 : MS} (h : GI S wa b y lv lb n k lo hi li lev p) (f : Fg lb lev wa y S S1) (z : Fz lo hi li S S1) (v : LVL S1 lv lb) (hw : wa < lb) (hy : lb + 120 ≤ y) (hl : lev < 40) : GI S1 wa b y lv lb n k lo hi li lev p := ⟨by rw [f.1]; exact h.1, z.ar h.2.1, z.ly h.2.1.2.2.2.1.2.2.1 h.2.2.1, v, f.rs hw hy (Nat.le_refl _) hl h.2.2.2.2.1, h.2.2.2.2.2⟩
theorem LVL.fi {lv lb lo' hi' : Nat} {S S1 : MS} (v : LVL S lv lb) (f : Fi lo' hi' S S1) (h : hi' ≤ lb ∨ lb + 120 ≤ lo') : LVL S1 lv lb := ⟨by rw [f.1]; exact v.1, by rw [f.2.1]; exact v.2.1, fun i hi => ⟨by rw [f.2.2.1]; exact (v.2.2 i hi).1, by obtain ⟨q, hq⟩ := (v.2.2 i hi).2; exact ⟨q, f.rs (by omega) hq⟩⟩⟩
theorem LVL.fl {lv lb j : Nat} {p : Nat → Bool} {S S1 : MS} (v : LVL S lv lb) (f : Fi (lb + 3 * j) (lb + 3 * j + 3) S S1) (hp : RS_ S1 (lb + 3 * j) p) : LVL S1 lv lb := ⟨by rw [f.1]; exact v.1, by rw [f.2.1]; exact v.2.1, fun i hi => ⟨by rw [f.2.2.1]; exact (v.2.2 i hi).1, by
  by_cases c : i = j
  · subst c; exact ⟨p, hp⟩
  · obtain ⟨q, hq⟩ := (v.2.2 i hi).2; exact ⟨q, f.rs (by omega) hq⟩⟩⟩
theorem kf_leaf {d wa b y lv lb n k lo hi li lev : Nat} {p : Nat → Bool} {A : Nat × Nat × Bool} {S : MS} {Q : Out → MS → Prop} (hd : 4 ≤ d) (h3 : 3 ≤ n) (h7 : n ≤ 7) (hw : wa < lb) (hlo : lb + 120 ≤ lo) (hlev : lev < 40) (hG : GI S wa b y lv lb n k lo hi li lev p) (hA : WA S wa A) (hA9 : A.1 ≤ 99) (h : ∀ S', Fg lb lev wa y S S' → Fz lo hi li S S' → LVL S' lv lb → WA S' wa (comb A (lev, lev * (lsR p 5056).length, dc (Dn n (lsR p 5056)))) → Q (.inl none) S') : VX9_go_63 d Q wa b (lev : Nat) (lb + 3 * lev) S := by
  obtain ⟨k9, hAR, hY, hV, hR⟩ := hG
  have yl := hY.1.2.1
  have sz : S.I (lb + 3 * lev) 0 = ((lsR p 5056).length : Nat) := by rw [lsR_len]; exact hR.1.2.2.2.2
  have ll := ls_len h3 h7 hR.2.1
  unfold VX9_go_63 VX9_go_118 VX9_go_122 VX9_go_123
  rw [sI_Ia (show lb + 3 * lev ≠ wa by omega), sz, hA.1]
  refine ⟨k9, ⟨(by unfold R32; omega), (by unfold R32; omega)⟩, k9, k9, hR.1.1.1, k9, fun S2 e2 => ?_⟩
  have F : Fi wa (wa+1) S S2 := by rw [e2]; exact (Fi.sI (by omega)).tr (Fi.sI (by omega))
  have i0 : S2.I wa 0 = ((max A.1 lev : Nat) : Int) := by rw [e2, sI_I, if_neg (by omega), sI_I, if_pos ⟨rfl, rfl⟩]; omega
  have i1 : S2.I wa 1 = ((A.2.1 + lev * (lsR p 5056).length : Nat) : Int) := by
    rw [e2, sI_I, if_pos ⟨rfl, rfl⟩, sI_I, if_neg (by omega), hA.2.1, Int.natCast_add, Int.natCast_mul]
  have i2 : S2.I wa 2 = (if A.2.2 then 1 else 0 : Int) := by rw [e2, sI_I, if_neg (by omega), sI_I, if_neg (by omega), hA.2.2]
  have k2 : S2.K wa = 9 := by rw [F.1]; exact k9
  have fin : ∀ v : Int, v = (if (A.2.2 && dc (Dn n (lsR p 5056))) then 1 else 0 : Int) → Q (.inl none) (S2.setI wa 2 v) := by
    intro v ev
    have F' : Fi wa (wa+1) S (S2.setI wa 2 v) := F.tr (Fi.sI (by omega))
    refine h _ F'.fgw (F'.fz (by omega)) (hV.fi F' (by omega)) ⟨?_, ?_, ?_⟩
    · rw [sI_I, if_neg (by omega), i0]; rfl
    · rw [sI_I, if_neg (by omega), i1]; rfl
    · rw [sI_I, if_pos ⟨rfl, rfl⟩, ev]; rfl
  have hR2 := F.rs (by omega) hR.1
  have sz2 : S2.I (lb + 3 * lev) 0 = ((lsR p 5056).length : Nat) := by rw [F.I (by omega)]; exact sz
  rw [i2, sz2]
  refine ⟨k2, r32_ite, fun c => ⟨⟨k2, b01_0⟩, fin 0 ?_⟩, fun c => ⟨hR2.1.1, (by unfold R32; omega), fun c2 => ⟨⟨k2, b01_1⟩, fin 1 ?_⟩, fun c2 => ⟨by rw [F.1]; exact hAR.1.1, k_areKnown hd h3 h7 ((F.fz (by omega)).ar hAR) hR2 hR.2.1 (fun q hq => oI_i ⟨hq.r, fun c3 => ⟨⟨k2, b01_0⟩, fin 0 ?_⟩, fun c3 => ⟨⟨k2, b01_1⟩, fin 1 ?_⟩⟩)⟩⟩⟩
  · cases e : A.2.2
    · rfl
    · rw [e] at c; exact absurd c (by decide)
  · cases e : A.2.2
    · rw [e] at c; exact absurd rfl c
    · rw [dc_y (P := Dn n (lsR p 5056)) (Or.inl (by omega))]; rfl
  · cases e : A.2.2
    · rfl
    · rw [dc_n]
      · rfl
      · rintro (z | z)
        · omega
        · rcases hq with ⟨rfl, -⟩ | ⟨-, w⟩
          · exact absurd c3 (by decide)
          · exact w z
  · cases e : A.2.2
    · rw [e] at c; exact absurd rfl c
    · rw [dc_y (P := Dn n (lsR p 5056)) (Or.inr ?_)]
      · rfl
      · rcases hq with ⟨-, w⟩ | ⟨rfl, -⟩
        · exact w
        · exact absurd rfl c3
theorem cls_leaf {n k f lev : Nat} {th : Int} {L : List Nat} (ha : arF n k th L < 0) : cls n k th (f + 1) lev L = (lev, lev * L.length, dc (Dn n L)) := by
  have e : wk n k th (f + 1) lev L = (lev, 0, dc (Dn n L)) := by
    show (if arF n k th L < 0 then _ else _) = _
    rw [if_pos ha]
  unfold cls
  rw [e]
  rfl
theorem k_go {wa b y lv lb n k lo hi li : Nat} {th : Int} (h3 : 3 ≤ n) (h7 : n ≤ 7) (hk : k < 3) (hth : -1 ≤ th ∧ th < (n : Int)) (hw : wa < lb) (hlo : lb + 120 ≤ lo) : ∀ (f : Nat) {d lev : Nat} {p : Nat → Bool} {A : Nat × Nat × Bool} {S : MS} {x : Int} {Q : Out → MS → Prop}, pD n k (lsR p 5056) < f → lev + f ≤ 36 → f + 5 ≤ d → x = (lev : Int) → GI S wa b y lv lb n k lo hi li lev p → WA S wa A → A.1 ≤ 99 → (∀ S', Fg lb lev wa y S S' → Fz lo hi li S S' → LVL S' lv lb → WA S' wa (comb A (cls n k th f lev (lsR p 5056))) → Q (.inl none) S') → Mw hX9_go yX9_go d [vA wa, vA b, vA y, vA lv, vI x, vI th] S Q := by
  have pk := pansK_le k
  have ck := (cmb_k (kn := k) h7).1
  intro f
  induction f with
  | zero => intro d lev p A S x Q h1; omega
  | succ f ih =>
    intro d lev p A S x Q hf hlf hd hx hG hA hA9 h
    subst hx
    have hV := hG.2.2.2.1
    have hR := hG.2.2.2.2
    have hY := hG.2.2.1
    have yl := hY.1.2.1
    have hm := hR.2.1.m
    have rl : S.R lv lev = some (lb + 3 * lev) := (hV.2.2 lev (by omega)).1
    -- the leaf
    have leaf : ∀ {dd : Nat} {S1 : MS}, 4 ≤ dd → arF n k th (lsR p 5056) < 0 → Fg lb lev wa y S S1 → Fz lo hi li S S1 → GI S1 wa b y lv lb n k lo hi li lev p → WA S1 wa A → VX9_go_63 dd Q wa b (lev : Nat) (lb + 3 * lev) S1 := by
      intro dd S1 hdd ha f1 z1 g1 w1
      refine kf_leaf hdd h3 h7 hw hlo (by omega) g1 w1 hA9 (fun S' f2 z2 v2 w2 => h S' (f1.tr f2) (z1.tr z2) v2 ?_)
      rw [cls_leaf ha]
      exact w2
    -- the inner node
    have loop : ∀ {dd v : Nat}, f + 5 ≤ dd → v < (cmb n n (pansK k)).length → arF n k th (lsR p 5056) = (((cmb n n (pansK k)).getD v 0 : Nat) : Int) → ∀ (q : Nat) {S1 : MS} {j : Nat} {B : Nat × Nat × Bool}, j + q = pansK k → Fg lb lev wa y S S1 → Fz lo hi li S S1 → GI S1 wa b y lv lb n k lo hi li lev p → WA S1 wa B → B.1 ≤ 99 → (∀ S', Fg lb lev wa y S S' → Fz lo hi li S S' → LVL S' lv lb → WA S' wa (wkC (fun i => cls n k th f (lev + 1) (prt n k ((cmb n n (pansK k)).getD v 0) (mbN ((cmb n n (pansK k)).getD v 0) i) (lsR p 5056))) q j B) → Q (.inl none) S') → VX9_go_130 dd Q (q + 1) wa b y lv (lev : Nat) th (lb + 3 * lev) (v : Nat) (j : Nat) S1 := by
      intro dd v hdd hv ha q
      have hax : 0 ≤ arF n k th (lsR p 5056) := by omega
      obtain ⟨-, -, xm, xw⟩ := ar_ok (n := n) (kn := k) (th := th) (L := lsR p 5056) h7 hax
      rw [ha, Int.toNat_natCast] at xm xw
      have cx := (cmb_k (kn := k) h7).2 _ xm
      have p7 := p2_7 h7
      induction q with
      | zero =>
        intro S1 j B hj f1 z1 g1 w1 b9 hq
        unfold VX9_go_130
        rw [g1.2.2.1.1.2.2.1]
        exact ⟨g1.2.2.1.1.1, ⟨(by unfold R32; omega), (by unfold R32; omega)⟩, fun _ => hq S1 f1 z1 g1.2.2.2.1 w1, fun c => by omega⟩
      | succ q ihq =>
        intro S1 j B hj f1 z1 g1 w1 b9 hq
        obtain ⟨k9, hAR, hY1, hV1, hR1⟩ := g1
        have mb := (mb_ok _ (show (cmb n n (pansK k)).getD v 0 < 128 by omega) j (by omega)).1 (by rw [cx.2]; omega)
        have pdl := pD_lt (t := mbN ((cmb n n (pansK k)).getD v 0) j) h3 h7 (fun r hr => (hm r hr).1) hk xm xw mb.2.1
        obtain ⟨q0, hq0⟩ := (hV1.2.2 (lev + 1) (by omega)).2
        have ha2 := hR1.2.1.a h3 h7
        have hW := Wn_le h3 h7
        unfold VX9_go_130
        rw [hY1.1.2.2.1, show (lev : Int) + 1 = ((lev + 1 : Nat) : Int) by omega, Int.toNat_natCast]
        refine ⟨hY1.1.1, ⟨(by unfold R32; omega), (by unfold R32; omega)⟩, fun c => by omega, fun _ => ⟨⟨hV1.1, ⟨by omega, by omega⟩, by omega, by rw [hV1.2.1]; omega⟩, lb + 3 * (lev + 1), (hV1.2.2 (lev + 1) (by omega)).1, hY1.1.1, k_risingAt (by omega) h7 hY1 hv (by omega) rfl rfl (fun e e1 e2 => oA_i ⟨hq0.1.1, c_rTake (by omega) (by omega) (by omega) hW.1 ha2.2 hR1.1 e2 hq0 (fun S2 f2 r2 => oV_i ⟨by rw [f2.1]; exact k9, ?_⟩)⟩)⟩⟩
        have le : lsR (fun r => p r && inR n (fun r => decide (rsN n k ((cmb n n (pansK k)).getD v 0) r = mbN ((cmb n n (pansK k)).getD v 0) j)) r) 5056 = prt n k ((cmb n n (pansK k)).getD v 0) (mbN ((cmb n n (pansK k)).getD v 0) j) (lsR p 5056) := lsR_and hR1.2.1
        have v2 : LVL S2 lv lb := hV1.fl f2 r2
        have fz2 : Fz lo hi li S1 S2 := f2.fz (by omega)
        have fg2 : Fg lb lev wa y S1 S2 := f2.fgl (by omega) (by omega)
        have g2 : GI S2 wa b y lv lb n k lo hi li (lev + 1) (fun r => p r && inR n (fun r => decide (rsN n k ((cmb n n (pansK k)).getD v 0) r = mbN ((cmb n n (pansK k)).getD v 0) j)) r) := ⟨by rw [f2.1]; exact k9, fz2.ar hAR, fz2.ly hAR.2.2.2.1.2.2.1 hY1, v2, r2, hR1.2.1.and, by omega⟩
        have w2 : WA S2 wa B := by
          unfold WA
          rw [f2.I (by omega)]
          exact w1
        refine ih (d := dd) (lev := lev + 1) (by rw [le]; omega) (by omega) (by omega) rfl g2 w2 b9 (fun S3 f3 z3 v3 w3 => oV_i ?_)
        rw [le] at w3
        have f13 : Fg lb lev wa y S S3 := f1.tr (fg2.tr (f3.wk (by omega)))
        have z13 : Fz lo hi li S S3 := z1.tr (fz2.tr z3)
        have wl := wk_lf (n := n) (k := k) (th := th) (f := f) (lev := lev + 1) (L := prt n k ((cmb n n (pansK k)).getD v 0) (mbN ((cmb n n (pansK k)).getD v 0) j) (lsR p 5056))
        exact ihq (j := j + 1) (by omega) f13 z13 (hG.mv f13 z13 v3 hw (by omega) (by omega)) w3 (by show max B.1 (wk n k th f (lev + 1) _).1 ≤ 99; omega) hq
    have fin46 : ∀ {dd : Nat} {S1 : MS} {v : Int}, f + 5 ≤ dd → 4 ≤ dd → Fg lb lev wa y S S1 → Fz lo hi li S S1 → GI S1 wa b y lv lb n k lo hi li lev p → WA S1 wa A → ((v = -1 ∧ arF n k th (lsR p 5056) < 0) ∨ ∃ u, u < (cmb n n (pansK k)).length ∧ v = (u : Int) ∧ arF n k th (lsR p 5056) = (((cmb n n (pansK k)).getD u 0 : Nat) : Int)) → VX9_go_46 dd Q wa b y lv (lev : Nat) th (lb + 3 * lev) v S1 := by
      intro dd S1 v hdd h4 f1 z1 g1 w1 hv
      unfold VX9_go_46
      rcases hv with ⟨rfl, ha⟩ | ⟨u, u1, rfl, ha⟩
      · exact ⟨⟨r32_m1, r32_m1⟩, fun _ => leaf h4 ha f1 z1 g1 w1, fun c => absurd rfl c⟩
      · refine ⟨⟨(by unfold R32; omega), r32_m1⟩, fun c => by omega, fun _ => ⟨by rw [g1.2.2.2.1.1]; omega, ⟨(by unfold R32; omega), by rw [g1.2.2.2.1.2.1]; exact (by unfold R32; omega)⟩, fun _ => ⟨_, loop hdd u1 ha (pansK k) (j := 0) (by omega) f1 z1 g1 w1 hA9 (fun S' f2 z2 v2 w2 => h S' f2 z2 v2 ?_)⟩, fun c => absurd (by rw [g1.2.2.2.1.2.1]; omega) c⟩⟩
        have := cls_in (f := f) (lev := lev) (A := A) (th := th) (L := lsR p 5056) h3 h7 hk (fun r hr => (hm r hr).1) (by omega)
        rw [ha, Int.toNat_natCast] at this
        rw [← this]
        exact w2
    obtain ⟨dd, rfl⟩ : ∃ e, d = e + 1 := ⟨d - 1, by omega⟩
    refine MX9_go ?_
    unfold VX9_go_0
    have part : ¬ (0 ≤ th ∧ Plc n th.toNat (lsR p 5056)) → VX9_go_28 dd Q wa b y lv (lev : Nat) th (lb + 3 * lev) 0 S := by
      intro np
      unfold VX9_go_28
      refine ⟨r32_0, fun _ => ⟨hY.1.1, k_parting (by omega) h3 h7 hk hG.2.1 hY hR (fun S1 v F Z hL => oI_i ?_)⟩, fun c => absurd rfl c⟩
      have f1 : Fg lb lev wa y S S1 := F.fgy
      have w1 : WA S1 wa A := by
        unfold WA
        rw [F.I (by omega)]
        exact hA
      have ea : arF n k th (lsR p 5056) = lf n k (lsR p 5056) := by unfold arF; rw [cD_n np]
      refine fin46 (by omega) (by omega) f1 Z (hG.mv f1 Z (hV.fi F (by omega)) hw (by omega) (by omega)) w1 ?_
      rw [ea]
      rcases hL with ⟨e1, e2⟩ | ⟨u, u1, u2, u3⟩
      · exact Or.inl ⟨e1, by omega⟩
      · exact Or.inr ⟨u, u1, u2, u3⟩
    rw [Int.toNat_natCast]
    refine ⟨⟨hV.1, ⟨by omega, by omega⟩, by omega, by rw [hV.2.1]; omega⟩, lb + 3 * lev, rl, ⟨(by unfold R32; omega), r32_m1⟩, fun c => ?_, fun c => ⟨hG.2.1.1.1, k_isPlaced (t := th.toNat) (by omega) h3 h7 hG.2.1 hR.1 hR.2.1 (by omega) (by omega) (fun q hq => oI_i ⟨hq.r, fun c2 => ?_, fun c2 => ?_⟩)⟩⟩
    · unfold VX9_go_27
      exact part (fun z => by omega)
    · unfold VX9_go_27
      refine part (fun z => ?_)
      rcases hq with ⟨rfl, -⟩ | ⟨-, w⟩
      · exact absurd c2 (by decide)
      · exact w z.2
    · unfold VX9_go_28
      refine ⟨r32_1, fun z => absurd z (by decide), fun _ => fin46 (by omega) (by omega) Fg.rf Fz.rf hG hA (Or.inl ⟨rfl, ?_⟩)⟩
      unfold arF
      rcases hq with ⟨-, w⟩ | ⟨rfl, -⟩
      · rw [cD_y ⟨by omega, w⟩]; decide
      · exact absurd rfl c2
