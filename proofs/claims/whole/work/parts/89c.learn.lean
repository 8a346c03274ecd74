theorem Fg.fz {lb l le lo hi li : Nat} {S S1 : MS} (f : Fg lb l le le S S1) (hw : le < lb) (hlo : lb + 120 ≤ lo) : Fz lo hi li S S1 := ⟨f.1, f.2.1, f.2.2.1, fun a h1 h2 => by
  have := f.2.2.2.2.2.2 a (by omega) (by omega) (by omega)
  exact ⟨fun _ => this.2, fun _ k _ => by rw [this.1]⟩⟩
/-- what a search for layings answers, and its steps -/
def Rl (o : Option (Bool × Nat)) (v s : Int) : Prop := (∃ b st, o = some (b, st) ∧ st ≤ 4000 ∧ v = (if b then 1 else 0 : Int) ∧ s = (st : Nat)) ∨ (o = none ∧ v = 0 ∧ s = 4001)
theorem Rl.b {o : Option (Bool × Nat)} {v s : Int} (h : Rl o v s) : v = 0 ∨ v = 1 := by
  rcases h with ⟨b, st, -, -, h, -⟩ | ⟨-, h, -⟩
  · cases b
    · exact Or.inl h
    · exact Or.inr h
  · exact Or.inl h
theorem Rl.r {o : Option (Bool × Nat)} {v s : Int} (h : Rl o v s) : R32 v := by
  rcases h.b with e | e
  · rw [e]; exact r32_0
  · rw [e]; exact r32_1
def LI (S : MS) (le b y lv lb n k lo hi li lev : Nat) (p : Nat → Bool) : Prop := S.K le = 3 ∧ AR S b n lo hi li ∧ LY S y n k lo hi li ∧ LVL S lv lb ∧ HR S (lb + 3 * lev) n lo p
theorem LI.mv {le b y lv lb n k lo hi li lev : Nat} {p : Nat → Bool} {S S1 : MS} (h : LI S le b y lv lb n k lo hi li lev p) (f : Fg lb lev le le S S1) (v : LVL S1 lv lb) (hw : le < lb) (hlo : lb + 120 ≤ lo) (hl : lev < 40) : LI S1 le b y lv lb n k lo hi li lev p := ⟨by rw [f.1]; exact h.1, (f.fz hw hlo).ar h.2.1, (f.fz hw hlo).ly h.2.1.2.2.2.1.2.2.1 h.2.2.1, v, by
  have e := fun a (h : lb + 3 * lev ≤ a ∧ a < lb + 3 * lev + 3) => f.2.2.2.2.2.2 a (by omega) (by omega) (by omega)
  have k := h.2.2.2.2.1
  unfold RS_ RY RC
  rw [f.1, f.2.1, f.2.2.1, (e (lb + 3 * lev) (by omega)).1, (e (lb + 3 * lev + 1) (by omega)).2, (e (lb + 3 * lev + 2) (by omega)).1]
  exact k, h.2.2.2.2.2⟩
theorem drop_s {X : List Nat} {i : Nat} (h : i < X.length) : X.drop i = X.getD i 0 :: X.drop (i + 1) := by
  rw [List.drop_eq_getElem_cons h, List.getD_eq_getElem?_getD, List.getElem?_eq_getElem h]
  rfl
theorem k_learn {le b y lv lb n k lo hi li : Nat} (h3 : 3 ≤ n) (h7 : n ≤ 7) (hk : k < 3) (hw : le < lb) (hlo : lb + 120 ≤ lo) : ∀ (kk : Nat) {d lev st : Nat} {p : Nat → Bool} {S : MS} {x z : Int} {Q : Out → MS → Prop}, lev + kk ≤ 8 → 2 * kk + 6 ≤ d → x = (lev : Int) → z = (kk : Int) → LI S le b y lv lb n k lo hi li lev p → S.I le 0 = (st : Nat) → st ≤ 4000 → (∀ S' v, Fg lb lev le le S S' → LVL S' lv lb → Rl (lr n k kk (lsR p 5056) st) v (S'.I le 0) → Q (.inl (some (vI v))) S') → Mw hX3_canLearn yX3_canLearn d [vA le, vA b, vA y, vA lv, vI x, vI z] S Q := by
  have pk := pansK_le k
  have ck := (cmb_k (kn := k) h7).1
  intro kk
  induction kk with
  | zero =>
    intro d lev st p S x z Q hl hd hx hz hG hs hst h
    subst hx hz
    obtain ⟨k3, hAR, hY, hV, hR⟩ := hG
    have sz : S.I (lb + 3 * lev) 0 = ((lsR p 5056).length : Nat) := by rw [lsR_len]; exact hR.1.2.2.2.2
    have ll := ls_len h3 h7 hR.2.1
    have yes : Dn n (lsR p 5056) → Q (.inl (some (vI 1))) S := fun z => h S 1 Fg.rf hV (Or.inl ⟨true, st, by unfold lr pln; rw [cD_y z]; rfl, hst, rfl, hs⟩)
    have no : ¬ Dn n (lsR p 5056) → Q (.inl (some (vI 0))) S := fun z => h S 0 Fg.rf hV (Or.inl ⟨false, st, by unfold lr pln; rw [cD_n z, if_pos (Or.inl rfl)]; rfl, hst, rfl, hs⟩)
    obtain ⟨dd, rfl⟩ : ∃ e, d = e + 1 := ⟨d - 1, by omega⟩
    refine MX3_canLearn ?_
    unfold VX3_canLearn_0
    rw [Int.toNat_natCast]
    refine ⟨⟨hV.1, ⟨by omega, by omega⟩, by omega, by rw [hV.2.1]; omega⟩, lb + 3 * lev, (hV.2.2 lev (by omega)).1, hR.1.1.1, ?_⟩
    rw [sz]
    refine ⟨(by unfold R32; omega), fun c => ⟨b01_1, yes (Or.inl (by omega))⟩, fun c => ⟨hAR.1.1, k_areKnown (by omega) h3 h7 hAR hR.1 hR.2.1 (fun q hq => oI_i ⟨hq.r, fun c2 => ⟨(by unfold R32; omega), fun _ => ⟨b01_0, no ?_⟩, fun c3 => by omega⟩, fun c2 => ⟨b01_1, yes (Or.inr ?_)⟩⟩)⟩⟩
    · rintro (z | z)
      · omega
      · rcases hq with ⟨rfl, -⟩ | ⟨-, w⟩
        · exact absurd c2 (by decide)
        · exact w z
    · rcases hq with ⟨-, w⟩ | ⟨rfl, -⟩
      · exact w
      · exact absurd rfl c2
  | succ kk ih =>
    intro d lev st p S x z Q hl hd hx hz hG hs hst h
    subst hx hz
    have hG0 := hG
    obtain ⟨k3, hAR, hY, hV, hR⟩ := hG
    have sz : S.I (lb + 3 * lev) 0 = ((lsR p 5056).length : Nat) := by rw [lsR_len]; exact hR.1.2.2.2.2
    have ll := ls_len h3 h7 hR.2.1
    have hm := hR.2.1.m
    have lre : lr n k (kk + 1) (lsR p 5056) st = (if pln n k (kk + 1) (lsR p 5056) = 2 then lrX (idl n k (lsR p 5056)) (fun x st => lrM (fun p' st => lr n k kk (prt n k x (mbN x p') (lsR p 5056)) st) (pansK k) 0 st) (cmb n n (pansK k)) st else some (decide (pln n k (kk + 1) (lsR p 5056) = 1), st)) := by
      generalize lsR p 5056 = L
      rfl
    have yes : Dn n (lsR p 5056) → Q (.inl (some (vI 1))) S := fun z => h S 1 Fg.rf hV (Or.inl ⟨true, st, by rw [lre]; unfold pln; rw [cD_y z]; rfl, hst, rfl, hs⟩)
    have no : ¬ Dn n (lsR p 5056) → bdF (pansK k) (kk + 1) < (lsR p 5056).length → Q (.inl (some (vI 0))) S := fun z z2 => h S 0 Fg.rf hV (Or.inl ⟨false, st, by rw [lre]; unfold pln; rw [cD_n z, if_pos (Or.inr z2)]; rfl, hst, rfl, hs⟩)
    -- is one set enough
    have enough : ∀ {dd i st1 : Nat} {S1 : MS} {Q1 : Out → MS → Prop}, 2 * kk + 7 ≤ dd → i < (cmb n n (pansK k)).length → Fg lb lev le le S S1 → LVL S1 lv lb → S1.I le 0 = (st1 : Nat) → st1 ≤ 4000 → (∀ S' v, Fg lb lev le le S S' → LVL S' lv lb → Rl (lrM (fun p' st => lr n k kk (prt n k ((cmb n n (pansK k)).getD i 0) (mbN ((cmb n n (pansK k)).getD i 0) p') (lsR p 5056)) st) (pansK k) 0 st1) v (S'.I le 0) → Q1 (.inl (some (vI v))) S') → Mw hX3_isEnough yX3_isEnough dd [vA le, vA b, vA y, vA lv, vI (lev : Nat), vI (i : Nat), vI ((kk + 1 : Nat) : Int)] S1 Q1 := by
      intro dd i st1 S1 Q1 hdd hi' f1 v1 s1 hst1 hq
      obtain ⟨de, rfl⟩ : ∃ e, dd = e + 1 := ⟨dd - 1, by omega⟩
      refine MX3_isEnough ?_
      unfold VX3_isEnough_0
      have key : ∀ (q : Nat) {S2 : MS} {j st2 : Nat}, j + q = pansK k → Fg lb lev le le S S2 → LVL S2 lv lb → S2.I le 0 = (st2 : Nat) → st2 ≤ 4000 → (∀ S' v, Fg lb lev le le S S' → LVL S' lv lb → Rl (lrM (fun p' st => lr n k kk (prt n k ((cmb n n (pansK k)).getD i 0) (mbN ((cmb n n (pansK k)).getD i 0) p') (lsR p 5056)) st) q j st2) v (S'.I le 0) → Q1 (.inl (some (vI v))) S') → VX3_isEnough_6 de Q1 (q + 1) le b y lv (lev : Nat) (i : Nat) ((kk + 1 : Nat) : Int) 1 (j : Nat) S2 := by
        intro q
        induction q with
        | zero =>
          intro S2 j st2 hj f2 v2 s2 hst2 hq2
          have g2 := hG0.mv f2 v2 hw hlo (by omega)
          unfold VX3_isEnough_6 VX3_isEnough_64
          rw [g2.2.2.1.1.2.2.1]
          exact ⟨g2.2.2.1.1.1, ⟨(by unfold R32; omega), (by unfold R32; omega)⟩, fun _ => ⟨b01_1, hq2 S2 1 f2 v2 (Or.inl ⟨true, st2, rfl, hst2, rfl, s2⟩)⟩, fun c => by omega⟩
        | succ q ihq =>
          intro S2 j st2 hj f2 v2 s2 hst2 hq2
          obtain ⟨k3', hAR', hY1, hV1, hR1⟩ := hG0.mv f2 v2 hw hlo (by omega)
          obtain ⟨q0, hq0⟩ := (hV1.2.2 (lev + 1) (by omega)).2
          have ha2 := hR1.2.1.a h3 h7
          have hW := Wn_le h3 h7
          have yl := hY1.1.2.1
          unfold VX3_isEnough_6
          rw [hY1.1.2.2.1, show (lev : Int) + 1 = ((lev + 1 : Nat) : Int) by omega, show ((kk + 1 : Nat) : Int) - 1 = (kk : Int) by omega, Int.toNat_natCast, Int.toNat_natCast]
          refine ⟨hY1.1.1, ⟨(by unfold R32; omega), (by unfold R32; omega)⟩, fun c => by omega, fun _ => ⟨r32_1, fun c => absurd c (by decide), fun _ => ⟨⟨hV1.1, ⟨by omega, by omega⟩, by omega, by rw [hV1.2.1]; omega⟩, lb + 3 * (lev + 1), (hV1.2.2 (lev + 1) (by omega)).1, ⟨hV1.1, ⟨by omega, by omega⟩, by omega, by rw [hV1.2.1]; omega⟩, lb + 3 * lev, (hV1.2.2 lev (by omega)).1, hY1.1.1, k_risingAt (by omega) h7 hY1 hi' (by omega) rfl rfl (fun e e1 e2 => oA_i ⟨hq0.1.1, c_rTake (by omega) (by omega) (by omega) hW.1 ha2.2 hR1.1 e2 hq0 (fun S3 f3 r3 => oV_i ⟨by rw [f3.1]; exact k3', ?_⟩)⟩)⟩⟩⟩
          have le' : lsR (fun r => p r && inR n (fun r => decide (rsN n k ((cmb n n (pansK k)).getD i 0) r = mbN ((cmb n n (pansK k)).getD i 0) j)) r) 5056 = prt n k ((cmb n n (pansK k)).getD i 0) (mbN ((cmb n n (pansK k)).getD i 0) j) (lsR p 5056) := lsR_and hR1.2.1
          have v3 : LVL S3 lv lb := hV1.fl f3 r3
          have fz3 : Fz lo hi li S2 S3 := f3.fz (by omega)
          have fg3 : Fg lb lev le le S2 S3 := f3.fgl (by omega) (by omega)
          have g3 : LI S3 le b y lv lb n k lo hi li (lev + 1) (fun r => p r && inR n (fun r => decide (rsN n k ((cmb n n (pansK k)).getD i 0) r = mbN ((cmb n n (pansK k)).getD i 0) j)) r) := ⟨by rw [f3.1]; exact k3', fz3.ar hAR', fz3.ly hAR'.2.2.2.1.2.2.1 hY1, v3, r3, hR1.2.1.and, by omega⟩
          refine ih (d := de) (lev := lev + 1) (st := st2) (by omega) (by omega) rfl rfl g3 (by rw [f3.I (by omega)]; exact s2) hst2 (fun S4 v f4 v4 r4 => oI_i ?_)
          rw [le'] at r4
          have f24 : Fg lb lev le le S S4 := f2.tr (fg3.tr (f4.wk (by omega)))
          have lm : ∀ o, lr n k kk (prt n k ((cmb n n (pansK k)).getD i 0) (mbN ((cmb n n (pansK k)).getD i 0) j) (lsR p 5056)) st2 = o → lrM (fun p' st => lr n k kk (prt n k ((cmb n n (pansK k)).getD i 0) (mbN ((cmb n n (pansK k)).getD i 0) p') (lsR p 5056)) st) (q + 1) j st2 = (match o with | none => none | some (true, st') => lrM (fun p' st => lr n k kk (prt n k ((cmb n n (pansK k)).getD i 0) (mbN ((cmb n n (pansK k)).getD i 0) p') (lsR p 5056)) st) q (j + 1) st' | some (false, st') => some (false, st')) := by
            intro o ho
            subst ho
            rfl
          have g4 := hG0.mv f24 v4 hw hlo (by omega)
          have stop : v = 0 → Rl (lrM (fun p' st => lr n k kk (prt n k ((cmb n n (pansK k)).getD i 0) (mbN ((cmb n n (pansK k)).getD i 0) p') (lsR p 5056)) st) (q + 1) j st2) 0 (S4.I le 0) → VX3_isEnough_6 de Q1 (q + 1) le b y lv (lev : Nat) (i : Nat) ((kk + 1 : Nat) : Int) v ((j : Int) + 1) S4 := by
            intro e r
            subst e
            have fin := hq2 S4 0 f24 v4 r
            unfold VX3_isEnough_6 VX3_isEnough_64
            rw [g4.2.2.1.1.2.2.1]
            exact ⟨g4.2.2.1.1.1, ⟨(by unfold R32; omega), (by unfold R32; omega)⟩, fun _ => ⟨b01_0, fin⟩, fun _ => ⟨r32_0, fun _ => ⟨b01_0, fin⟩, fun c => absurd rfl c⟩⟩
          rcases r4 with ⟨bb, st4, o1, o2, o3, o4⟩ | ⟨o1, o2, o3⟩
          · cases bb
            · refine stop o3 ?_
              rw [lm _ o1]
              exact Or.inl ⟨false, st4, rfl, o2, rfl, o4⟩
            · rw [lm _ o1] at hq2
              have e : v = 1 := o3
              rw [e]
              exact ihq (j := j + 1) (by omega) f24 v4 o4 o2 hq2
          · refine stop o2 ?_
            rw [lm _ o1]
            exact Or.inr ⟨rfl, rfl, o3⟩
      exact ⟨_, key (pansK k) (j := 0) (by omega) f1 v1 s1 hst1 hq⟩
    obtain ⟨dd, rfl⟩ : ∃ e, d = e + 1 := ⟨d - 1, by omega⟩
    refine MX3_canLearn ?_
    unfold VX3_canLearn_0
    have f0 : ∀ {S1 : MS} {v : Int}, Fi le (le+1) S1 (S1.setI le 0 v) := Fi.sI (by omega)
    have spent : ∀ (q : Nat) {i : Nat} {S1 : MS}, i ≤ 35 → Fg lb lev le le S S1 → LVL S1 lv lb → S1.I le 0 = 4001 → Q (.inl (some (vI 0))) S1 → VX3_canLearn_61 dd Q (q + 1) le b y lv (lev : Nat) ((kk + 1 : Nat) : Int) (lb + 3 * lev) (i : Nat) S1 := by
      intro q i S1 hi f1 v1 s1 hq
      obtain ⟨k3', hAR', hY1, hV1, hR1⟩ := hG0.mv f1 v1 hw hlo (by omega)
      obtain ⟨c, b1, b2, b3, b4, b5, b6⟩ := hY1.2.1
      unfold VX3_canLearn_61
      rw [s1]
      exact ⟨hY1.1.1, c, b1, by rw [b4]; omega, ⟨(by unfold R32; omega), by rw [b5]; exact (by unfold R32; omega)⟩, fun _ => ⟨b01_0, hq⟩, fun _ => ⟨k3', ⟨(by unfold R32; omega), (by unfold R32; omega)⟩, fun _ => ⟨b01_0, hq⟩, fun c => absurd (by decide) c⟩⟩
    have loop : ∀ (q : Nat) {S1 : MS} {i st1 : Nat}, i + q = (cmb n n (pansK k)).length → Fg lb lev le le S S1 → LVL S1 lv lb → S1.I le 0 = (st1 : Nat) → st1 ≤ 4000 → (∀ S' v, Fg lb lev le le S S' → LVL S' lv lb → Rl (lrX (idl n k (lsR p 5056)) (fun x st => lrM (fun p' st => lr n k kk (prt n k x (mbN x p') (lsR p 5056)) st) (pansK k) 0 st) ((cmb n n (pansK k)).drop i) st1) v (S'.I le 0) → Q (.inl (some (vI v))) S') → VX3_canLearn_61 dd Q (q + 1) le b y lv (lev : Nat) ((kk + 1 : Nat) : Int) (lb + 3 * lev) (i : Nat) S1 := by
      intro q
      induction q with
      | zero =>
        intro S1 i st1 hi f1 v1 s1 hst1 hq
        obtain ⟨k3', hAR', hY1, hV1, hR1⟩ := hG0.mv f1 v1 hw hlo (by omega)
        obtain ⟨c, b1, b2, b3, b4, b5, b6⟩ := hY1.2.1
        unfold VX3_canLearn_61
        refine ⟨hY1.1.1, c, b1, by rw [b4]; omega, ⟨(by unfold R32; omega), by rw [b5]; exact (by unfold R32; omega)⟩, fun _ => ⟨b01_0, hq S1 0 f1 v1 (Or.inl ⟨false, st1, ?_, hst1, rfl, s1⟩)⟩, fun c2 => absurd (by rw [b5]; omega) c2⟩
        rw [List.drop_of_length_le (by omega)]
        rfl
      | succ q ihq =>
        intro S1 i st1 hi f1 v1 s1 hst1 hq
        have hi' : i < (cmb n n (pansK k)).length := by omega
        have g1 := hG0.mv f1 v1 hw hlo (by omega)
        obtain ⟨k3', hAR', hY1, hV1, hR1⟩ := g1
        obtain ⟨c, b1, b2, b3, b4, b5, b6⟩ := hY1.2.1
        rw [drop_s hi'] at hq
        unfold VX3_canLearn_61 VX3_canLearn_130
        rw [s1]
        refine ⟨hY1.1.1, c, b1, by rw [b4]; omega, ⟨(by unfold R32; omega), by rw [b5]; exact (by unfold R32; omega)⟩, fun c2 => absurd c2 (by rw [b5]; omega), fun _ => ⟨k3', ⟨(by unfold R32; omega), (by unfold R32; omega)⟩, fun c2 => by omega, fun _ => ⟨hY1.1.1, k_partsNothing (by omega) h3 h7 hk hi' rfl hY1 hR1.1 hR1.2.1 (fun w hw' => oI_i ⟨hw'.r, fun c2 => ?_, fun c2 => ⟨k3', k3', k3', ?_⟩⟩)⟩⟩⟩
        · have e : idl n k (lsR p 5056) ((cmb n n (pansK k)).getD i 0) = true := by
            rcases hw' with ⟨-, z⟩ | ⟨rfl, -⟩
            · exact z
            · exact absurd rfl c2
          refine ihq (i := i + 1) (by omega) f1 v1 s1 hst1 (fun S' v f' v' r' => hq S' v f' v' ?_)
          unfold lrX
          rw [if_pos e]
          exact r'
        · have e : ¬ idl n k (lsR p 5056) ((cmb n n (pansK k)).getD i 0) = true := by
            rcases hw' with ⟨rfl, -⟩ | ⟨-, z⟩
            · exact absurd c2 (by decide)
            · exact z
          rw [s1, sI_I, if_pos ⟨rfl, rfl⟩]
          have f2 : Fg lb lev le le S (S1.setI le 0 ((st1 : Int) + 1)) := f1.tr (f0.fgw)
          have v2 : LVL (S1.setI le 0 ((st1 : Int) + 1)) lv lb := v1.fi f0 (by omega)
          have s2 : (S1.setI le 0 ((st1 : Int) + 1)).I le 0 = ((st1 + 1 : Nat) : Int) := by rw [sI_I, if_pos ⟨rfl, rfl⟩]; rfl
          unfold lrX at hq
          rw [if_neg e] at hq
          refine ⟨⟨(by unfold R32; omega), (by unfold R32; omega)⟩, fun c3 => ?_, fun c3 => ⟨k3', enough (by omega) hi' f2 v2 s2 (by omega) (fun S3 v f3 v3 r3 => oI_i ⟨r3.r, fun c4 => ?_, fun c4 => ⟨b01_1, ?_⟩⟩)⟩⟩
          · have e4 : (S1.setI le 0 ((st1 : Int) + 1)).I le 0 = 4001 := by rw [s2]; omega
            refine spent q (i := i + 1) (by omega) f2 v2 e4 (hq _ 0 f2 v2 (Or.inr ⟨?_, rfl, e4⟩))
            rw [if_pos (by omega)]
          · rw [if_neg (by omega)] at hq
            rcases r3 with ⟨bb, st4, o1, o2, o3, o4⟩ | ⟨o1, o2, o3⟩
            · cases bb
              · refine ihq (i := i + 1) (by omega) f3 v3 o4 o2 (fun S' v f' v' r' => hq S' v f' v' ?_)
                rw [o1]
                exact r'
              · rw [c4] at o3; exact absurd o3 (by decide)
            · refine spent q (i := i + 1) (by omega) f3 v3 o3 (hq S3 0 f3 v3 (Or.inr ⟨?_, rfl, o3⟩))
              rw [o1]
          · rw [if_neg (by omega)] at hq
            rcases r3 with ⟨bb, st4, o1, o2, o3, o4⟩ | ⟨o1, o2, o3⟩
            · cases bb
              · exact absurd o3 c4
              · refine hq S3 1 f3 v3 (Or.inl ⟨true, st4, ?_, o2, rfl, o4⟩)
                rw [o1]
            · exact absurd o2 c4
    rw [Int.toNat_natCast]
    refine ⟨⟨hV.1, ⟨by omega, by omega⟩, by omega, by rw [hV.2.1]; omega⟩, lb + 3 * lev, (hV.2.2 lev (by omega)).1, hR.1.1.1, ?_⟩
    rw [sz]
    refine ⟨(by unfold R32; omega), fun c => ⟨b01_1, yes (Or.inl (by omega))⟩, fun c => ⟨hAR.1.1, k_areKnown (by omega) h3 h7 hAR hR.1 hR.2.1 (fun q hq => oI_i ⟨hq.r, fun c2 => ⟨(by unfold R32; omega), fun c3 => by omega, fun c3 => ⟨hR.1.1.1, hY.1.1, k_leastBound (s := (lsR p 5056).length) (p := pansK k) (by omega) sz hY.1.2.2.1 pk.1 pk.2 ll (oI_i ?_)⟩⟩, fun c2 => ⟨b01_1, yes (Or.inr ?_)⟩⟩)⟩⟩
    · have nd : ¬ Dn n (lsR p 5056) := by
        rintro (z | z)
        · omega
        · rcases hq with ⟨rfl, -⟩ | ⟨-, w⟩
          · exact absurd c2 (by decide)
          · exact w z
      have bi := bdK_iff (p := pansK k) (s := (lsR p 5056).length) (by omega) 20 0 (kk + 1) (by omega) (by omega) (fun u hu => absurd hu (Nat.not_lt_zero u))
      have b20 : bdK (pansK k) (lsR p 5056).length 20 0 ≤ 20 := by
        have : ∀ j i, bdK (pansK k) (lsR p 5056).length j i ≤ i + j := by
          intro j
          induction j with
          | zero => intro i; exact Nat.le_refl _
          | succ j ihj =>
            intro i
            unfold bdK
            split
            · omega
            · have := ihj (i + 1); omega
        exact this 20 0
      refine ⟨⟨(by unfold R32; omega), (by unfold R32; omega)⟩, fun c4 => ⟨b01_0, no nd (by omega)⟩, fun c4 => ⟨by rw [hV.1]; omega, ⟨(by unfold R32; omega), by rw [hV.2.1]; exact (by unfold R32; omega)⟩, fun _ => ⟨_, loop (cmb n n (pansK k)).length (i := 0) (by omega) Fg.rf hV hs hst (fun S' v f' v' r' => h S' v f' v' ?_)⟩, fun c5 => absurd (by rw [hV.2.1]; omega) c5⟩⟩
      rw [lre, if_pos (by unfold pln; rw [cD_n nd, if_neg (by omega)])]
      exact r'
    · rcases hq with ⟨-, w⟩ | ⟨rfl, -⟩
      · exact w
      · exact absurd rfl c2
