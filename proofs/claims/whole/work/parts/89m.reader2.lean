/-! the class's reader: lines -/
theorem SS.wt_ {s n t : Nat} {w : Nat → Int} {v : Int} {S : MS} (hS : SS S s n w) (ht : t < 7) (h0 : 0 ≤ v) (h1 : v ≤ 999) : SS (S.setI (s+1) t v) s n (upW w (4 + t) v) := by
  have f : Fi (s+1) (s+2) S (S.setI (s+1) t v) := Fi.sI (by omega)
  obtain ⟨hY, ⟨⟨w0, w1, w2, w3⟩, wt, wk, wn⟩, hg⟩ := hS
  have g1 := hg.2.1
  have g2 := hg.2.2.1
  have e : ∀ q, q ≠ 4 + t → upW w (4 + t) v q = w q := fun q hq => upW_ne hq
  have es : sN (upW w (4 + t) v) = sN w := by unfold sN; rw [e 1 (by omega)]
  have en : nN (upW w (4 + t) v) = nN w := by unfold nN; rw [e 2 (by omega)]
  refine ⟨f.sy hY, ⟨?_, fun u hu => ?_, fun i hi => ?_, fun i hi => ?_⟩, hg.weight ht h0 h1⟩
  · rw [f.I (by omega), e 0 (by omega), e 1 (by omega), e 2 (by omega), e 3 (by omega)]
    exact ⟨w0, w1, w2, w3⟩
  · rw [sI_I]
    by_cases c : u = t
    · rw [if_pos ⟨rfl, c⟩, c, upW_eq]
    · rw [if_neg (fun k => c k.2), e _ (by omega)]
      exact wt u hu
  · rw [es] at hi
    rw [f.I (by omega), f.I (by omega), f.I (by omega), e _ (by omega), e _ (by omega), e _ (by omega)]
    exact wk i hi
  · rw [en] at hi
    rw [f.I (by omega), f.I (by omega), f.I (by omega), e _ (by omega), e _ (by omega), e _ (by omega)]
    exact wn i hi
def PG (S : MS) (g : Nat) (tb : Nat → Nat) (len n : Nat) (w : Nat → Int) (p : Nat) : Prop := TG S g tb len ∧ S.R g 1 = some (g+3) ∧ SS S (g+3) n w ∧ S.I g 3 = (p : Int) ∧ p ≤ len
/-- only the reader's own cell and its store change -/
def Fq (g : Nat) (S S' : MS) : Prop := S'.K = S.K ∧ S'.N = S.N ∧ S'.R = S.R ∧ S'.T = S.T ∧ S'.nx = S.nx ∧ S'.us = S.us ∧ ∀ a, a ≠ g → (a < g+3 ∨ g+11 ≤ a) → S'.I a = S.I a ∧ S'.J a = S.J a
theorem Fq.rf {g : Nat} {S : MS} : Fq g S S := ⟨rfl, rfl, rfl, rfl, rfl, rfl, fun _ _ _ => ⟨rfl, rfl⟩⟩
theorem Fq.tr {g : Nat} {S S1 S2 : MS} (f : Fq g S S1) (k : Fq g S1 S2) : Fq g S S2 := ⟨k.1.trans f.1, k.2.1.trans f.2.1, k.2.2.1.trans f.2.2.1, k.2.2.2.1.trans f.2.2.2.1, k.2.2.2.2.1.trans f.2.2.2.2.1, k.2.2.2.2.2.1.trans f.2.2.2.2.2.1, fun a h1 h2 => ⟨((k.2.2.2.2.2.2 a h1 h2).1).trans (f.2.2.2.2.2.2 a h1 h2).1, ((k.2.2.2.2.2.2 a h1 h2).2).trans (f.2.2.2.2.2.2 a h1 h2).2⟩⟩
theorem Fh.fq {g : Nat} {L : List Nat} {S S1 : MS} (f : Fh g L S S1) : Fq g S S1 := ⟨f.1.1, f.1.2.1, f.1.2.2.1, f.1.2.2.2.1, f.1.2.2.2.2.1, f.1.2.2.2.2.2.1, fun a h1 _ => f.1.2.2.2.2.2.2 a (by omega)⟩
theorem Fi.fq {g : Nat} {S S1 : MS} (f : Fi (g+3) (g+3+8) S S1) : Fq g S S1 := ⟨f.1, f.2.1, f.2.2.1, f.2.2.2.1, f.2.2.2.2.1, f.2.2.2.2.2.1, fun a _ h => f.2.2.2.2.2.2 a (by omega)⟩
theorem Fq.fi {g : Nat} {S S1 : MS} (f : Fq g S S1) : Fi g (g+11) S S1 := ⟨f.1, f.2.1, f.2.2.1, f.2.2.2.1, f.2.2.2.2.1, f.2.2.2.2.2.1, fun a h => f.2.2.2.2.2.2 a (by omega) (by omega)⟩
theorem PG.h {g len n p q : Nat} {tb : Nat → Nat} {w : Nat → Int} {L : List Nat} {S S1 : MS} (h : PG S g tb len n w p) (f : Fh g L S S1) (h2 : 2 ∉ L) (h3 : S1.I g 3 = (q : Int)) (hq : q ≤ len) : PG S1 g tb len n w q := ⟨h.1.h f h2, by rw [f.1.2.2.1]; exact h.2.1, f.1.ss (by omega) h.2.2.1, h3, hq⟩
theorem PG.w {g len n n' p : Nat} {tb : Nat → Nat} {w w' : Nat → Int} {S S1 : MS} (h : PG S g tb len n w p) (f : Fi (g+3) (g+3+8) S S1) (hS : SS S1 (g+3) n' w') : PG S1 g tb len n' w' p := ⟨⟨by rw [f.1]; exact h.1.1, by rw [f.2.2.1]; exact h.1.2.1, f.ty h.1.2.2.1, f.tb (by omega) h.1.2.2.2.1, by rw [f.I (by omega)]; exact h.1.2.2.2.2⟩, by rw [f.2.2.1]; exact h.2.1, hS, by rw [f.I (by omega)]; exact h.2.2.2.1, h.2.2.2.2⟩
/-- how a reading came out -/
def RP (S' : MS) (g : Nat) (tb : Nat → Nat) (len : Nat) (wr r : Int) (res : Nat ⊕ ((Nat → Int) × Nat)) : Prop := (∀ f, res = .inl f → r = 0 ∧ S'.I g 5 = (f : Nat) ∧ ∃ n w p, PG S' g tb len n w p) ∧ ∀ w' e, res = .inr (w', e) → r = 1 ∧ S'.I g 5 = wr ∧ ∃ n, PG S' g tb len n w' e
theorem RP.no {S' : MS} {g len f n p : Nat} {tb : Nat → Nat} {w : Nat → Int} {wr : Int} (h : S'.I g 5 = (f : Nat)) (k : PG S' g tb len n w p) : RP S' g tb len wr 0 (.inl f) := ⟨fun _ e => by cases e; exact ⟨rfl, h, n, w, p, k⟩, fun _ _ k => by cases k⟩
theorem RP.ye {S' : MS} {g len n e : Nat} {tb : Nat → Nat} {w' : Nat → Int} {wr : Int} (h : S'.I g 5 = wr) (k : PG S' g tb len n w' e) : RP S' g tb len wr 1 (.inr (w', e)) := ⟨fun _ e => (by cases e), fun _ _ z => by cases z; exact ⟨rfl, h, n, k⟩⟩
theorem RP.b {S' : MS} {g len : Nat} {tb : Nat → Nat} {wr r : Int} {res : Nat ⊕ ((Nat → Int) × Nat)} (h : RP S' g tb len wr r res) : B01 r := by
  cases res with
  | inl f => rw [(h.1 f rfl).1]; exact b01_0
  | inr q => obtain ⟨w', e⟩ := q; rw [(h.2 w' e rfl).1]; exact b01_1
theorem k_readThings {d g len n e b : Nat} {tb : Nat → Nat} {w : Nat → Int} {S : MS} {Q : Out → MS → Prop} (hd : 4 ≤ d) (hP : PG S g tb len n w e) (h0 : nN w = 0) (h : ∀ S' r, Fq g S S' → RP S' g tb len (S.I g 5) r (pThings tb len w b e) → Q (.inl (some (vI r))) S') : Mw hX4_readThings yX4_readThings d [vA g] S Q := by
  have no : ¬ 0 < nN w := by omega
  unfold pThings at h
  rw [if_neg no] at h
  obtain ⟨dd, rfl⟩ : ∃ e, d = e + 1 := ⟨d - 1, by omega⟩
  refine MX4_readThings ?_
  unfold VX4_readThings_0
  refine ⟨hP.1.1, k_readNumber (by omega) hP.1 hP.2.2.2.1 hP.2.2.2.2 (by unfold R32; omega) (by unfold R32; omega) (fun S1 f hn F P1 hq h5 => oI_i ?_) (fun S1 v q hn F P1 q3 h4 h5 => oI_i ?_)⟩
  · rw [hn] at h
    obtain ⟨q, q1, q2⟩ := hq
    exact ⟨⟨(by unfold R32; omega), (by unfold R32; omega)⟩, fun k => absurd rfl k, fun _ => ⟨b01_0, h S1 0 F.fq (RP.no h5 (hP.h F (by decide) q1 q2))⟩⟩
  · rw [hn] at h
    obtain ⟨a1, a2, a3, a4⟩ := pNum_r hP.2.2.2.2 hn
    have G := hP.h F (by decide) q3 a4
    exact ⟨⟨(by unfold R32; omega), (by unfold R32; omega)⟩, fun _ => ⟨P1.1, g+3, G.2.1, G.2.2.1.1.1, k_setThings (by omega) G.2.2.1 rfl (by omega) (by omega) h0 (fun S2 f2 s2 => oV_i ⟨b01_1, h S2 1 (F.fq.tr f2.fq) (RP.ye (by rw [f2.I (by omega)]; exact h5) (G.w f2 s2))⟩)⟩, fun k => absurd k (by omega)⟩
theorem k_readKind {d g len p : Nat} {tb : Nat → Nat} {S : MS} {Q : Out → MS → Prop} (hd : 6 ≤ d) (hP : TG S g tb len) (hp : S.I g 3 = (p : Int)) (hpl : p ≤ len) (h : ∀ S', Fh g [3] S S' → (pKind tb (skb tb len p) (lte tb len (skb tb len p)) < 0 → S'.I g 3 = (skb tb len p : Nat)) → (0 ≤ pKind tb (skb tb len p) (lte tb len (skb tb len p)) → S'.I g 3 = (lte tb len (skb tb len p) : Nat)) → Q (.inl (some (vI (pKind tb (skb tb len p) (lte tb len (skb tb len p)))))) S') : Mw hX4_readKind yX4_readKind d [vA g] S Q := by
  have a := skb_le (tb := tb) hpl
  obtain ⟨dd, rfl⟩ : ∃ e, d = e + 1 := ⟨d - 1, by omega⟩
  refine MX4_readKind ?_
  unfold VX4_readKind_0
  refine ⟨hP.1, k_blanks (by omega) hP hp hpl (fun S1 f1 P1 k1 => oV_i ⟨P1.1, k_readWord (i := 4) (by omega) P1 k1 a.2 (by decide) rfl (fun y4 => oI_i ?_) (fun n4 => oI_i ?_)⟩)⟩
  · refine ⟨r32_1, fun k => absurd k (by decide), fun _ => ?_⟩
    have e : pKind tb (skb tb len p) (lte tb len (skb tb len p)) = 0 := by unfold pKind; rw [cD_y y4]
    rw [e] at h
    exact h _ (f1.tr (Fh.s (by decide))) (fun k => absurd k (by decide)) (fun _ => by rw [sI_I, if_pos ⟨rfl, rfl⟩])
  · refine ⟨r32_0, fun _ => ⟨P1.1, k_readWord (i := 5) (by omega) P1 k1 a.2 (by decide) rfl (fun y5 => oI_i ?_) (fun n5 => oI_i ?_)⟩, fun k => absurd rfl k⟩
    · refine ⟨r32_1, fun k => absurd k (by decide), fun _ => ?_⟩
      have e : pKind tb (skb tb len p) (lte tb len (skb tb len p)) = 1 := by unfold pKind; rw [cD_n n4, cD_y y5]
      rw [e] at h
      exact h _ (f1.tr (Fh.s (by decide))) (fun k => absurd k (by decide)) (fun _ => by rw [sI_I, if_pos ⟨rfl, rfl⟩])
    · refine ⟨r32_0, fun _ => ⟨P1.1, k_readWord (i := 6) (by omega) P1 k1 a.2 (by decide) rfl (fun y6 => oI_i ?_) (fun n6 => oI_i ?_)⟩, fun k => absurd rfl k⟩
      · refine ⟨r32_1, fun k => absurd k (by decide), fun _ => ?_⟩
        have e : pKind tb (skb tb len p) (lte tb len (skb tb len p)) = 2 := by unfold pKind; rw [cD_n n4, cD_n n5, cD_y y6]
        rw [e] at h
        exact h _ (f1.tr (Fh.s (by decide))) (fun k => absurd k (by decide)) (fun _ => by rw [sI_I, if_pos ⟨rfl, rfl⟩])
      · refine ⟨r32_0, fun _ => ?_, fun k => absurd rfl k⟩
        have e : pKind tb (skb tb len p) (lte tb len (skb tb len p)) = -1 := by unfold pKind; rw [cD_n n4, cD_n n5, cD_n n6]
        rw [e] at h
        exact h _ f1 (fun _ => k1) (fun k => absurd k (by decide))
theorem pKind_r {tb : Nat → Nat} {b e : Nat} : -1 ≤ pKind tb b e ∧ pKind tb b e ≤ 2 := by
  unfold pKind
  by_cases d1 : isW tb 4 b e
  · rw [cD_y d1]; decide
  · rw [cD_n d1]
    by_cases d2 : isW tb 5 b e
    · rw [cD_y d2]; decide
    · rw [cD_n d2]
      by_cases d3 : isW tb 6 b e
      · rw [cD_y d3]; decide
      · rw [cD_n d3]; decide
theorem k_readScale {d g len n e b : Nat} {tb : Nat → Nat} {w : Nat → Int} {S : MS} {Q : Out → MS → Prop} (hd : 7 ≤ d) (hP : PG S g tb len n w e) (h4 : sN w ≠ 4) (h : ∀ S' r, Fq g S S' → RP S' g tb len (S.I g 5) r (pScale tb len w b e) → Q (.inl (some (vI r))) S') : Mw hX4_readScale yX4_readScale d [vA g] S Q := by
  have c1 := skb_le (tb := tb) hP.2.2.2.2
  have c2 := lte_le (tb := tb) c1.2
  have kr := pKind_r (tb := tb) (b := skb tb len e) (e := lte tb len (skb tb len e))
  unfold pScale at h
  rw [if_neg h4] at h
  obtain ⟨dd, rfl⟩ : ∃ e, d = e + 1 := ⟨d - 1, by omega⟩
  refine MX4_readScale ?_
  unfold VX4_readScale_0
  refine ⟨hP.1.1, k_readKind (by omega) hP.1 hP.2.2.2.1 hP.2.2.2.2 (fun S1 f1 q1 q2 => oI_i ?_)⟩
  have K1 : S1.K g = 4 := by rw [f1.1.1]; exact hP.1.1
  by_cases k0 : pKind tb (skb tb len e) (lte tb len (skb tb len e)) < 0
  · rw [if_pos k0] at h
    refine ⟨⟨(by unfold R32; omega), (by unfold R32; omega)⟩, fun k => absurd (by omega) k, fun _ => ⟨K1, K1, k_refuse (by omega) K1 (oI_i ⟨b01_0, ?_⟩)⟩⟩
    rw [q1 k0]
    have f2 : Fh g [3, 5] S (S1.setI g 5 (skb tb len e : Nat)) := (f1.wk (by decide)).tr (Fh.s (by decide))
    exact h _ 0 f2.fq (RP.no (by rw [sI_I, if_pos ⟨rfl, rfl⟩]) (hP.h f2 (by decide) (by rw [sI_I, if_neg (by omega)]; exact q1 k0) c1.2))
  · rw [if_neg k0] at h
    have G1 := hP.h f1 (by decide) (q2 (by omega)) c2.2
    refine ⟨⟨(by unfold R32; omega), (by unfold R32; omega)⟩, fun _ => ⟨K1, k_readNumber (by omega) G1.1 G1.2.2.2.1 G1.2.2.2.2 (by unfold R32; omega) (by unfold R32; omega) (fun S2 f hn F P2 hq h5 => oI_i ?_) (fun S2 v q hn F P2 q3 _ h5 => oI_i ?_)⟩, fun k => by omega⟩
    · rw [hn] at h
      obtain ⟨q, z1, z2⟩ := hq
      unfold VX4_readScale_42
      exact ⟨⟨(by unfold R32; omega), (by unfold R32; omega)⟩, fun k => absurd rfl k, fun _ => ⟨⟨(by unfold R32; omega), (by unfold R32; omega)⟩, fun k => absurd rfl k, fun _ => ⟨b01_0, h S2 0 (f1.fq.tr F.fq) (RP.no h5 (G1.h F (by decide) z1 z2))⟩⟩⟩
    · rw [hn] at h
      simp only at h
      obtain ⟨a1, a2, a3, a4⟩ := pNum_r G1.2.2.2.2 hn
      have G2 := G1.h F (by decide) q3 a4
      refine ⟨⟨(by unfold R32; omega), (by unfold R32; omega)⟩, fun _ => ⟨P2.1, k_readNumber (by omega) G2.1 G2.2.2.2.1 G2.2.2.2.2 (by unfold R32; omega) (by unfold R32; omega) (fun S3 f hn3 F3 P3 hq h53 => oI_i ?_) (fun S3 l r hn3 F3 P3 r3 _ h53 => oI_i ?_)⟩, fun k => by omega⟩
      · rw [hn3] at h
        obtain ⟨q', z1, z2⟩ := hq
        unfold VX4_readScale_42
        exact ⟨⟨(by unfold R32; omega), (by unfold R32; omega)⟩, fun k => absurd rfl k, fun _ => ⟨b01_0, h S3 0 (f1.fq.tr (F.fq.tr F3.fq)) (RP.no h53 (G2.h F3 (by decide) z1 z2))⟩⟩
      · rw [hn3] at h
        obtain ⟨b1, b2, b3, b4⟩ := pNum_r G2.2.2.2.2 hn3
        have G3 := G2.h F3 (by decide) r3 b4
        unfold VX4_readScale_42
        exact ⟨⟨(by unfold R32; omega), (by unfold R32; omega)⟩, fun _ => ⟨P3.1, g+3, G3.2.1, G3.2.2.1.1.1, k_addScale (by omega) G3.2.2.1 h4 (by omega) (by omega) (by omega) (fun S4 f4 s4 => oI_i ⟨b01_1, h S4 1 (f1.fq.tr (F.fq.tr (F3.fq.tr f4.fq))) (RP.ye (by rw [f4.I (by omega), h53, h5, f1.2 5 (by decide)]) (G3.w f4 s4))⟩)⟩, fun k => by omega⟩
theorem k_readWeight {d g len n e : Nat} {tb : Nat → Nat} {w : Nat → Int} {S : MS} {Q : Out → MS → Prop} (hd : 4 ≤ d) (hP : PG S g tb len n w e) (h : ∀ S' r, Fq g S S' → RP S' g tb len (S.I g 5) r (pWeight tb len w n e) → Q (.inl (some (vI r))) S') : Mw hX4_readWeight yX4_readWeight d [vA g] S Q := by
  have g0 := hP.2.2.1.2.2.1
  have i7 : S.I (g+3) 7 = (n : Int) := by rw [hP.2.2.1.2.1.1.1, g0.2.2]
  unfold pWeight at h
  obtain ⟨dd, rfl⟩ : ∃ e, d = e + 1 := ⟨d - 1, by omega⟩
  refine MX4_readWeight ?_
  unfold VX4_readWeight_0
  refine ⟨hP.1.1, g+3, hP.2.1, hP.2.2.1.1.1, hP.1.1, ?_⟩
  rw [i7]
  refine k_readNumber (by omega) hP.1 hP.2.2.2.1 hP.2.2.2.2 (by unfold R32; omega) (by unfold R32; omega) (fun S2 f hn F P2 hq h5 => oI_i ?_) (fun S2 v q hn F P2 q3 _ h5 => oI_i ?_)
  · rw [hn] at h
    obtain ⟨q, z1, z2⟩ := hq
    unfold VX4_readWeight_32
    exact ⟨⟨(by unfold R32; omega), (by unfold R32; omega)⟩, fun k => absurd rfl k, fun _ => ⟨⟨(by unfold R32; omega), (by unfold R32; omega)⟩, fun k => absurd rfl k, fun _ => ⟨b01_0, h S2 0 F.fq (RP.no h5 (hP.h F (by decide) z1 z2))⟩⟩⟩
  · rw [hn] at h
    simp only at h
    obtain ⟨a1, a2, a3, a4⟩ := pNum_r hP.2.2.2.2 hn
    have G2 := hP.h F (by decide) q3 a4
    refine ⟨⟨(by unfold R32; omega), (by unfold R32; omega)⟩, fun _ => ⟨P2.1, k_readNumber (by omega) G2.1 G2.2.2.2.1 G2.2.2.2.2 (by unfold R32; omega) (by unfold R32; omega) (fun S3 f hn3 F3 P3 hq h53 => oI_i ?_) (fun S3 l r hn3 F3 P3 r3 _ h53 => oI_i ?_)⟩, fun k => by omega⟩
    · rw [hn3] at h
      obtain ⟨q', z1, z2⟩ := hq
      unfold VX4_readWeight_32
      exact ⟨⟨(by unfold R32; omega), (by unfold R32; omega)⟩, fun k => absurd rfl k, fun _ => ⟨b01_0, h S3 0 (F.fq.tr F3.fq) (RP.no h53 (G2.h F3 (by decide) z1 z2))⟩⟩
    · rw [hn3] at h
      obtain ⟨b1, b2, b3, b4⟩ := pNum_r G2.2.2.2.2 hn3
      have G3 := G2.h F3 (by decide) r3 b4
      have hl := G3.2.2.1.1
      unfold SY at hl
      unfold VX4_readWeight_32
      have f4 : Fi (g+3) (g+3+8) S3 (S3.setI (g+3+1) v (l : Int)) := Fi.sI (by omega)
      have s4 := SS.wt_ (t := v) (v := (l : Int)) G3.2.2.1 (by omega) b1 b2
      refine ⟨⟨(by unfold R32; omega), (by unfold R32; omega)⟩, fun _ => ⟨P3.1, g+3, G3.2.1, hl.1, g+3+1, hl.2.1.1, ⟨hl.2.2.1.1, by omega, by rw [hl.2.2.2.1]; omega⟩, b01_1, ?_⟩, fun k => by omega⟩
      rw [Int.toNat_natCast]
      exact h _ 1 (F.fq.tr (F3.fq.tr f4.fq)) (RP.ye (by rw [f4.I (by omega), h53, h5]) (G3.w f4 s4))
/-- a thing that lies there, or does not -/
theorem k_readThing {d g len n p x : Nat} {lb : Bool} {tb : Nat → Nat} {w : Nat → Int} {S : MS} {Q : Out → MS → Prop} {y z : Int} (hd : 4 ≤ d) (hP : PG S g tb len n w p) (hx : x < 2 ^ n) (ey : y = (x : Int)) (ez : z = (if lb then 1 else 0 : Int)) (hl : ∀ S' f, (pNum tb len 0 ((n : Int) - 1) p = .inl f ∨ ∃ t e, pNum tb len 0 ((n : Int) - 1) p = .inr (t, e) ∧ x.testBit t ≠ lb ∧ f = skb tb len p) → Fh g [3, 4, 5] S S' → (∃ q, S'.I g 3 = (q : Nat) ∧ q ≤ len) → S'.I g 5 = (f : Nat) → Q (.inl (some (vI (-1)))) S') (hr : ∀ S' t e, pNum tb len 0 ((n : Int) - 1) p = .inr (t, e) → x.testBit t = lb → Fh g [3, 4, 5] S S' → S'.I g 3 = (e : Nat) → S'.I g 5 = S.I g 5 → Q (.inl (some (vI (t : Nat)))) S') : Mw hX4_readThing yX4_readThing d [vA g, vI y, vI z] S Q := by
  subst ey ez
  have g0 := hP.2.2.1.2.2.1
  have p7 := p2_7 g0.2.1
  have i7 : S.I (g+3) 7 = (n : Int) := by rw [hP.2.2.1.2.1.1.1, g0.2.2]
  obtain ⟨dd, rfl⟩ : ∃ e, d = e + 1 := ⟨d - 1, by omega⟩
  refine MX4_readThing ?_
  unfold VX4_readThing_0
  refine ⟨hP.1.1, g+3, hP.2.1, hP.2.2.1.1.1, hP.1.1, ?_⟩
  rw [i7]
  refine k_readNumber (by omega) hP.1 hP.2.2.2.1 hP.2.2.2.2 (by unfold R32; omega) (by unfold R32; omega) (fun S2 f hn F P2 hq h5 => oI_i ?_) (fun S2 v q hn F P2 q3 q4 h5 => oI_i ?_)
  · unfold VX4_readThing_40
    exact ⟨⟨(by unfold R32; omega), (by unfold R32; omega)⟩, fun _ => hl S2 f (Or.inl hn) F hq h5, fun k => absurd rfl k⟩
  · obtain ⟨a1, a2, a3, a4⟩ := pNum_r hP.2.2.2.2 hn
    unfold VX4_readThing_40
    refine ⟨⟨(by unfold R32; omega), (by unfold R32; omega)⟩, fun k => by omega, fun _ => c_holds (by omega) rfl rfl (by omega) (by omega) (fun b hb => oI_i ⟨⟨hb.r, by cases lb; exact r32_0; exact r32_1⟩, fun c => ?_, fun c => ⟨P2.1, P2.1, k_refuse (by omega) P2.1 (oI_i ?_)⟩⟩)⟩
    · refine hr S2 v q hn ?_ F q3 h5
      cases lb
      · rcases hb with ⟨rfl, -⟩ | ⟨-, k⟩
        · exact absurd c (by decide)
        · simpa using k
      · rcases hb with ⟨-, k⟩ | ⟨rfl, -⟩
        · exact k
        · exact absurd c (by decide)
    · rw [q4]
      have f3 : Fh g [3, 4, 5] S (S2.setI g 5 (skb tb len p : Nat)) := F.tr (Fh.s (by decide))
      refine hl _ (skb tb len p) (Or.inr ⟨v, q, hn, ?_, rfl⟩) f3 ⟨q, by rw [sI_I, if_neg (by omega)]; exact q3, a4⟩ (by rw [sI_I, if_pos ⟨rfl, rfl⟩])
      cases lb
      · rcases hb with ⟨-, k⟩ | ⟨rfl, -⟩
        · rw [k]; decide
        · exact absurd rfl c
      · rcases hb with ⟨rfl, -⟩ | ⟨-, k⟩
        · exact absurd rfl c
        · exact k
noncomputable def pTail (tb : Nat → Nat) (len : Nat) (w : Nat → Int) (n s x r : Nat) : Nat ⊕ ((Nat → Int) × Nat) := cD (isW tb 7 (skb tb len r) (lte tb len (skb tb len r))) (match pNum tb len 0 ((n : Int) - 1) (lte tb len (skb tb len r)) with
      | .inl f => .inl f
      | .inr (t, u) => if x.testBit t then .inr (W_note w s x t, u) else .inl (skb tb len (lte tb len (skb tb len r)))) (.inl (skb tb len r))
noncomputable def pnR (tb : Nat → Nat) (len : Nat) (w : Nat → Int) (n s : Nat) : Nat ⊕ (Nat × Nat) → Nat ⊕ ((Nat → Int) × Nat)
  | .inl f => .inl f
  | .inr (x, r) => pTail tb len w n s x r
theorem pNote_R {tb : Nat → Nat} {len n b e : Nat} {w : Nat → Int} (h : nN w ≠ 16) : pNote tb len w n b e = match pNum tb len 0 ((sN w : Int) - 1) e with
    | .inl f => .inl f
    | .inr (s, q) => pnR tb len w n s (pMem tb len n (pansK (kd w s)) 0 q) := by
  unfold pNote
  rw [if_neg h]
  cases pNum tb len 0 ((sN w : Int) - 1) e with
  | inl f => rfl
  | inr q =>
    obtain ⟨s, q⟩ := q
    simp only
    cases pMem tb len n (pansK (kd w s)) 0 q with
    | inl f => rfl
    | inr r => obtain ⟨x, r⟩ := r; rfl
theorem pc_one {x t : Nat} (ht : t < 7) (c : x.testBit t = false) : pc (x ||| 2 ^ t) = pc x + 1 := by
  unfold pc
  have : (fun u => (x ||| 2 ^ t).testBit u) = fun u => x.testBit u || decide (u = t) := by
    funext u
    rw [Nat.testBit_or, Nat.testBit_two_pow]
    congr 1
    simp only [eq_comm]
  rw [this, cntB_upd (fun u => x.testBit u) ht, if_neg (by rw [c]; decide)]
theorem kf_note40 {d g len n s : Nat} {tb : Nat → Nat} {w : Nat → Int} {Q : Out → MS → Prop} (hd : 5 ≤ d) (h16 : nN w ≠ 16) (hs : s < sN w) : ∀ (k : Nat) {S : MS} {x p : Nat}, PG S g tb len n w p → x < 2 ^ n → k ≤ pansK (kd w s) → pc x + k = pansK (kd w s) → (∀ S' r, Fq g S S' → RP S' g tb len (S.I g 5) r (pnR tb len w n s (pMem tb len n k x p)) → Q (.inl (some (vI r))) S') → VX4_readNote_40 d Q (k + 1) g (s : Nat) (pansK (kd w s) : Nat) (x : Nat) ((pansK (kd w s) - k : Nat) : Int) S := by
  intro k
  induction k with
  | zero =>
    intro S x p hP hx hk hpc h
    have g0 := hP.2.2.1.2.2.1
    have g1 := hP.2.2.1.2.2.2.1
    have p4 : pansK (kd w s) ≤ 4 := by unfold pansK; split <;> (try split) <;> omega
    have c1 := skb_le (tb := tb) hP.2.2.2.2
    have c2 := lte_le (tb := tb) c1.2
    have h' : ∀ S' r, Fq g S S' → RP S' g tb len (S.I g 5) r (pTail tb len w n s x p) → Q (.inl (some (vI r))) S' := h
    unfold pTail at h'
    unfold VX4_readNote_40
    refine ⟨⟨(by unfold R32; omega), (by unfold R32; omega)⟩, fun _ => ⟨hP.1.1, k_blanks (by omega) hP.1 hP.2.2.2.1 hP.2.2.2.2 (fun S1 f1 P1 k1 => oV_i ⟨P1.1, k_readWord (i := 7) (by omega) P1 k1 c1.2 (by decide) rfl (fun y7 => oI_i ⟨r32_1, fun _ => ?_, fun k => absurd k (by decide)⟩) (fun n7 => oI_i ⟨r32_0, fun k => absurd rfl k, fun _ => ⟨P1.1, P1.1, k_refuse (by omega) P1.1 (oI_i ⟨b01_0, ?_⟩)⟩⟩)⟩)⟩, fun c => by omega⟩
    · rw [cD_y y7] at h'
      have f2 : Fh g [3] S (S1.setI g 3 ((lte tb len (skb tb len p) : Nat) : Int)) := f1.tr (Fh.s (by decide))
      have G2 := hP.h f2 (by decide) (by rw [sI_I, if_pos ⟨rfl, rfl⟩]) c2.2
      refine ⟨P1.1, k_readThing (lb := true) (by omega) G2 hx rfl rfl (fun S3 f hf F hq h5 => oI_i ⟨⟨(by unfold R32; omega), (by unfold R32; omega)⟩, fun k => absurd rfl k, fun _ => ⟨b01_0, ?_⟩⟩) (fun S3 t e hn hb F q3 h5 => oI_i ?_)⟩
      · obtain ⟨q, z1, z2⟩ := hq
        refine h' S3 0 (f2.fq.tr F.fq) ?_
        rcases hf with hn | ⟨t, e, hn, hb, rfl⟩
        · rw [hn]
          exact RP.no h5 (G2.h F (by decide) z1 z2)
        · rw [hn]
          simp only
          rw [if_neg hb]
          exact RP.no h5 (G2.h F (by decide) z1 z2)
      · obtain ⟨a1, a2, a3, a4⟩ := pNum_r c2.2 hn
        rw [hn] at h'
        simp only at h'
        rw [if_pos hb] at h'
        have G3 := G2.h F (by decide) q3 a4
        exact ⟨⟨(by unfold R32; omega), (by unfold R32; omega)⟩, fun _ => ⟨G3.1.1, g+3, G3.2.1, G3.2.2.1.1.1, k_addNote (by omega) G3.2.2.1 rfl rfl rfl h16 hs hx (by omega) (by omega) hb (fun S4 f4 s4 => oI_i ⟨b01_1, h' S4 1 (f2.fq.tr (F.fq.tr f4.fq)) (RP.ye (by rw [f4.I (by omega), h5, f2.2 5 (by decide)]) (G3.w f4 s4))⟩)⟩, fun k => by omega⟩
    · rw [cD_n n7] at h'
      rw [k1]
      have f2 : Fh g [3, 5] S (S1.setI g 5 (skb tb len p : Nat)) := (f1.wk (by decide)).tr (Fh.s (by decide))
      exact h' _ 0 f2.fq (RP.no (by rw [sI_I, if_pos ⟨rfl, rfl⟩]) (hP.h f2 (by decide) (by rw [sI_I, if_neg (by omega)]; exact k1) c1.2))
  | succ k ih =>
    intro S x p hP hx hk hpc h
    have g0 := hP.2.2.1.2.2.1
    have p4 : pansK (kd w s) ≤ 4 := by unfold pansK; split <;> (try split) <;> omega
    unfold pMem at h
    unfold VX4_readNote_40
    refine ⟨⟨(by unfold R32; omega), (by unfold R32; omega)⟩, fun c => by omega, fun _ => ⟨hP.1.1, k_readThing (lb := false) (by omega) hP hx rfl rfl (fun S3 f hf F hq h5 => oI_i ⟨⟨(by unfold R32; omega), (by unfold R32; omega)⟩, fun k => absurd rfl k, fun _ => ⟨b01_0, ?_⟩⟩) (fun S3 t e hn hb F q3 h5 => oI_i ?_)⟩⟩
    · obtain ⟨q, z1, z2⟩ := hq
      refine h S3 0 F.fq ?_
      rcases hf with hn | ⟨t, e, hn, hb, rfl⟩
      · rw [hn]
        exact RP.no h5 (hP.h F (by decide) z1 z2)
      · rw [hn]
        simp only
        rw [if_pos (by simpa using hb)]
        exact RP.no h5 (hP.h F (by decide) z1 z2)
    · obtain ⟨a1, a2, a3, a4⟩ := pNum_r hP.2.2.2.2 hn
      refine ⟨⟨(by unfold R32; omega), (by unfold R32; omega)⟩, fun _ => ?_, fun k => by omega⟩
      rw [hn] at h
      simp only at h
      rw [if_neg (by rw [hb]; decide)] at h
      have G3 := hP.h F (by decide) q3 a4
      have o := pow_or hx g0.2.1 (show t < n by omega)
      rw [o.1]
      have := ih (S := S3) (x := x ||| 2 ^ t) (p := e) G3 o.2 (by omega) (by rw [pc_one (by omega) hb]; omega) (fun S4 r f4 hr => h S4 r (F.fq.tr f4) (by rw [h5] at hr; exact hr))
      rw [show ((pansK (kd w s) - k : Nat) : Int) = ((pansK (kd w s) - (k + 1) : Nat) : Int) + 1 by omega] at this
      exact this
theorem k_readNote {d g len n e b : Nat} {tb : Nat → Nat} {w : Nat → Int} {S : MS} {Q : Out → MS → Prop} (hd : 6 ≤ d) (hP : PG S g tb len n w e) (h16 : nN w ≠ 16) (h : ∀ S' r, Fq g S S' → RP S' g tb len (S.I g 5) r (pNote tb len w n b e) → Q (.inl (some (vI r))) S') : Mw hX4_readNote yX4_readNote d [vA g] S Q := by
  have g0 := hP.2.2.1.2.2.1
  have g1 := hP.2.2.1.2.2.2.1
  have i8 : S.I (g+3) 8 = (sN w : Int) := by rw [hP.2.2.1.2.1.1.2.1, g1.1]
  rw [pNote_R h16] at h
  obtain ⟨dd, rfl⟩ : ∃ e, d = e + 1 := ⟨d - 1, by omega⟩
  refine MX4_readNote ?_
  unfold VX4_readNote_0
  refine ⟨hP.1.1, g+3, hP.2.1, hP.2.2.1.1.1, hP.1.1, ?_⟩
  rw [i8]
  refine k_readNumber (by omega) hP.1 hP.2.2.2.1 hP.2.2.2.2 (by unfold R32; omega) (by unfold R32; omega) (fun S2 f hn F P2 hq h5 => oI_i ?_) (fun S2 v q hn F P2 q3 _ h5 => oI_i ?_)
  · rw [hn] at h
    obtain ⟨q, z1, z2⟩ := hq
    exact ⟨⟨(by unfold R32; omega), (by unfold R32; omega)⟩, fun k => absurd rfl k, fun _ => ⟨b01_0, h S2 0 F.fq (RP.no h5 (hP.h F (by decide) z1 z2))⟩⟩
  · rw [hn] at h
    simp only at h
    obtain ⟨a1, a2, a3, a4⟩ := pNum_r hP.2.2.2.2 hn
    have G2 := hP.h F (by decide) q3 a4
    have hv : v < sN w := by omega
    have hl := G2.2.2.1.1
    unfold SY at hl
    have kv := G2.2.2.1.2.1.2.2.1 v hv
    have k1 := (G2.2.2.1.2.2.sc hv).1
    refine ⟨⟨(by unfold R32; omega), (by unfold R32; omega)⟩, fun _ => ⟨P2.1, g+3, G2.2.1, hl.1, g+3+2, hl.2.1.2.1, ⟨hl.2.2.1.2.1, by omega, by rw [hl.2.2.2.2.1]; omega⟩, ?_⟩, fun k => by omega⟩
    rw [Int.toNat_natCast, kv.1, k1.1]
    refine c_kPans (by omega) rfl k1.2 (oI_i ⟨pansK (kd w v) + 1, ?_⟩)
    have pc0 : pc 0 = 0 := by decide
    have := kf_note40 (d := dd) (Q := Q) (by omega) h16 hv (pansK (kd w v)) (x := 0) G2 (Nat.two_pow_pos n) (Nat.le_refl _) (by omega) (fun S4 r f4 hr => h S4 r (F.fq.tr f4) (by rw [h5] at hr; exact hr))
    rw [Nat.sub_self] at this
    exact this
theorem isW_23 {tb : Nat → Nat} {b e : Nat} (h2 : isW tb 2 b e) (h3 : isW tb 3 b e) : False := by
  have a := h2.1
  rw [h3.1] at a
  exact absurd a (by decide)
theorem k_readLine {d g len n p c : Nat} {tb : Nat → Nat} {w : Nat → Int} {S : MS} {Q : Out → MS → Prop} {x : Int} (hd : 8 ≤ d) (hP : PG S g tb len n w p) (ex : x = (c : Int)) (hc : c ≤ 12) (h : ∀ S' r, Fq g S S' → RP S' g tb len (S.I g 5) r (pLine tb len c w n p) → Q (.inl (some (vI r))) S') : Mw hX4_readLine yX4_readLine d [vA g, vI x] S Q := by
  subst ex
  have c1 := skb_le (tb := tb) hP.2.2.2.2
  have c2 := lte_le (tb := tb) c1.2
  have g1 := hP.2.2.1.2.2.2.1
  have g2 := hP.2.2.1.2.2.2.2.1
  unfold pLine at h
  obtain ⟨dd, rfl⟩ : ∃ e, d = e + 1 := ⟨d - 1, by omega⟩
  refine MX4_readLine ?_
  unfold VX4_readLine_0
  refine ⟨hP.1.1, k_blanks (by omega) hP.1 hP.2.2.2.1 hP.2.2.2.2 (fun S1 f1 P1 k1 => oV_i ⟨P1.1, ⟨(by unfold R32; omega), (by unfold R32; omega)⟩, fun c3 => ⟨P1.1, ?_⟩, fun c3 => ⟨P1.1, k_refuse (by omega) P1.1 (oI_i ⟨b01_0, ?_⟩)⟩⟩)⟩
  · have G1 := hP.h f1 (by decide) k1 c1.2
    have i8 : S1.I (g+3) 8 = (sN w : Int) := by rw [G1.2.2.1.2.1.1.2.1, g1.1]
    have i9 : S1.I (g+3) 9 = (nN w : Int) := by rw [G1.2.2.1.2.1.1.2.2.1, g2.1]
    have K7 := G1.2.2.1.1.1
    have ref : ∀ {Q' : Out → MS → Prop}, (∀ S', Fq g S S' → RP S' g tb len (S.I g 5) 0 (.inl (skb tb len p)) → Q' (.inl (some (vI 0))) S') → ∀ {S2 : MS}, Fh g [3] S1 S2 → (∃ q, S2.I g 3 = (q : Nat) ∧ q ≤ len) → Mw hX4_refuse yX4_refuse dd [vA g, vI (S1.I g 3)] S2 Q' := by
      intro Q' hq S2 f2 hz
      obtain ⟨q, z1, z2⟩ := hz
      refine k_refuse (by omega) (by rw [f2.1.1]; exact P1.1) ?_
      rw [k1]
      have f3 : Fh g [3, 5] S (S2.setI g 5 (skb tb len p : Nat)) := (f1.wk (by decide)).tr ((f2.wk (by decide)).tr (Fh.s (by decide)))
      exact hq _ f3.fq (RP.no (by rw [sI_I, if_pos ⟨rfl, rfl⟩]) (hP.h f3 (by decide) (by rw [sI_I, if_neg (by omega)]; exact z1) z2))
    have f2 : Fh g [3] S1 (S1.setI g 3 ((lte tb len (skb tb len p) : Nat) : Int)) := Fh.s (by decide)
    have G2 := G1.h f2 (by decide) (by rw [sI_I, if_pos ⟨rfl, rfl⟩]) c2.2
    have e5 : (S1.setI g 3 ((lte tb len (skb tb len p) : Nat) : Int)).I g 5 = S.I g 5 := by rw [f2.2 5 (by decide), f1.2 5 (by decide)]
    have F12 : Fq g S (S1.setI g 3 ((lte tb len (skb tb len p) : Nat) : Int)) := f1.fq.tr f2.fq
    have z2 : ∃ q, (S1.setI g 3 ((lte tb len (skb tb len p) : Nat) : Int)).I g 3 = (q : Nat) ∧ q ≤ len := ⟨_, G2.2.2.2.1, c2.2⟩
    have j8 : (S1.setI g 3 ((lte tb len (skb tb len p) : Nat) : Int)).I (g+3) 8 = (sN w : Int) := by rw [sI_Ia (by omega)]; exact i8
    have j9 : (S1.setI g 3 ((lte tb len (skb tb len p) : Nat) : Int)).I (g+3) 9 = (nN w : Int) := by rw [sI_Ia (by omega)]; exact i9
    rw [if_neg (show c ≠ 12 by omega)] at h
    refine k_readWord (i := 0) (by omega) P1 k1 c1.2 (by decide) rfl (fun y0 => oI_i ⟨r32_1, fun k => absurd k (by decide), fun _ => ⟨P1.1, g+3, G2.2.1, K7, ?_⟩⟩) (fun n0 => oI_i ⟨r32_0, fun _ => ⟨P1.1, ?_⟩, fun k => absurd rfl k⟩)
    · rw [cD_y y0] at h
      rw [j9]
      refine ⟨(by unfold R32; omega), fun z => ⟨P1.1, ref (fun S' F' r' => oI_i ⟨b01_0, h S' 0 F' ?_⟩) f2 z2⟩, fun z => ⟨P1.1, k_readThings (b := skb tb len p) (by omega) G2 (by omega) (fun S' r F' r' => oI_i ⟨r'.b, h S' r (F12.tr F') (by rw [e5] at r'; exact r')⟩)⟩⟩
      unfold pThings
      rw [if_pos (by omega)]
      exact r'
    rw [cD_n n0] at h
    refine k_readWord (i := 1) (by omega) P1 k1 c1.2 (by decide) rfl (fun y1 => oI_i ⟨r32_1, fun k => absurd k (by decide), fun _ => ⟨P1.1, g+3, G2.2.1, K7, ?_⟩⟩) (fun n1 => oI_i ⟨r32_0, fun _ => ⟨P1.1, ?_⟩, fun k => absurd rfl k⟩)
    · rw [cD_y y1] at h
      rw [j8]
      refine ⟨⟨(by unfold R32; omega), (by unfold R32; omega)⟩, fun z => ⟨P1.1, ref (fun S' F' r' => oI_i ⟨b01_0, h S' 0 F' ?_⟩) f2 z2⟩, fun z => ⟨P1.1, k_readScale (b := skb tb len p) (by omega) G2 (by omega) (fun S' r F' r' => oI_i ⟨r'.b, h S' r (F12.tr F') (by rw [e5] at r'; exact r')⟩)⟩⟩
      unfold pScale
      rw [if_pos (by omega)]
      exact r'
    rw [cD_n n1] at h
    refine k_readWord (i := 2) (by omega) P1 k1 c1.2 (by decide) rfl (fun y2 => oI_i ⟨r32_1, fun k => absurd k (by decide), fun _ => ⟨P1.1, ?_⟩⟩) (fun n2 => oI_i ⟨r32_0, fun _ => ⟨P1.1, ?_⟩, fun k => absurd rfl k⟩)
    · rw [cD_n (fun z => isW_23 y2 z), cD_y y2] at h
      exact k_readWeight (by omega) G2 (fun S' r F' r' => oI_i ⟨r'.b, h S' r (F12.tr F') (by rw [e5] at r'; exact r')⟩)
    refine k_readWord (i := 3) (by omega) P1 k1 c1.2 (by decide) rfl (fun y3 => oI_i ⟨r32_1, fun k => absurd k (by decide), fun _ => ⟨P1.1, g+3, G2.2.1, K7, ?_⟩⟩) (fun n3 => oI_i ⟨r32_0, fun _ => ⟨P1.1, ?_⟩, fun k => absurd rfl k⟩)
    · rw [cD_y y3] at h
      rw [j9]
      refine ⟨⟨(by unfold R32; omega), (by unfold R32; omega)⟩, fun z => ⟨P1.1, ref (fun S' F' r' => oI_i ⟨b01_0, h S' 0 F' ?_⟩) f2 z2⟩, fun z => ⟨P1.1, k_readNote (b := skb tb len p) (by omega) G2 (by omega) (fun S' r F' r' => oI_i ⟨r'.b, h S' r (F12.tr F') (by rw [e5] at r'; exact r')⟩)⟩⟩
      unfold pNote
      rw [if_pos (by omega)]
      exact r'
    · rw [cD_n n3, cD_n n2] at h
      exact ref (fun S' F' r' => oI_i ⟨b01_0, h S' 0 F' r'⟩) Fh.rf ⟨_, k1, c1.2⟩
  · rw [if_pos (by omega)] at h
    rw [k1]
    have f2 : Fh g [3, 5] S (S1.setI g 5 (skb tb len p : Nat)) := (f1.wk (by decide)).tr (Fh.s (by decide))
    exact h _ 0 f2.fq (RP.no (by rw [sI_I, if_pos ⟨rfl, rfl⟩]) (hP.h f2 (by decide) (by rw [sI_I, if_neg (by omega)]; exact k1) c1.2))
theorem kf_read38 {d g len : Nat} {tb : Nat → Nat} {Q : Out → MS → Prop} (hd : 8 ≤ d) : ∀ (j : Nat) {S : MS} {c p n : Nat} {w : Nat → Int}, PG S g tb len n w p → S.I g 5 = -1 → c + j = 13 → 1 ≤ j → (∀ S' f, Fq g S S' → pAll tb len j c w p = .inl f → (∃ n w p, PG S' g tb len n w p) → Q (.inl (some (vI (f : Nat)))) S') → (∀ S' w', Fq g S S' → pAll tb len j c w p = .inr w' → (∃ n p, PG S' g tb len n w' p) → Q (.inl (some (vI (-1)))) S') → VX4_read_38 d Q (j + 1) g 1 (c : Nat) S := by
  intro j
  induction j with
  | zero => intro S c p n w _ _ _ h; omega
  | succ j ih =>
    intro S c p n w hP h5 hc _ hl hr
    have hn : (w 0).toNat = n := by rw [hP.2.2.1.2.2.1.2.2]; rfl
    unfold pAll at hl hr
    rw [hn] at hl hr
    unfold VX4_read_38 VX4_read_67 VX4_read_68
    refine ⟨r32_1, fun k => absurd k (by decide), fun _ => ⟨⟨(by unfold R32; omega), (by unfold R32; omega)⟩, fun k => by omega, fun _ => ⟨hP.1.1, k_readLine hd hP rfl (by omega) (fun S1 r F1 hR => oI_i ?_)⟩⟩⟩
    have h4 := hP.1.2.2.2.1.1
    cases hline : pLine tb len c w n p with
    | inl f =>
      obtain ⟨rfl, i5, n1, w1, p1, G1⟩ := hR.1 f hline
      refine ⟨r32_0, fun _ => ?_, fun k => absurd rfl k⟩
      unfold VX4_read_38 VX4_read_75
      refine ⟨r32_0, fun _ => ⟨G1.1.1, ?_⟩, fun k => absurd rfl k⟩
      rw [i5]
      exact hl S1 f F1 (by rw [hline]) ⟨n1, w1, p1, G1⟩
    | inr q =>
      obtain ⟨w', q⟩ := q
      obtain ⟨rfl, i5, n1, G1⟩ := hR.2 w' q hline
      rw [hline] at hl hr
      simp only at hl hr
      have a := skb_le (tb := tb) G1.2.2.2.2
      refine ⟨r32_1, fun k => absurd k (by decide), fun _ => ⟨G1.1.1, ?_⟩⟩
      obtain ⟨dd, rfl⟩ : ∃ e, d = e + 1 := ⟨d - 1, by omega⟩
      refine MX4_goesOn ?_
      unfold VX4_goesOn_0
      refine ⟨G1.1.1, k_blanks (by omega) G1.1 G1.2.2.2.1 G1.2.2.2.2 (fun S2 f2 P2 k2 => oV_i ⟨P2.1, P2.1, by rw [k2, P2.2.2.2.2]; exact ⟨(by unfold R32; omega), (by unfold R32; omega)⟩, fun z => ⟨P2.1, g+1, P2.2.1, P2.1, P2.2.2.1.1, ?_⟩, fun z => ⟨b01_0, oI_i ?_⟩⟩)⟩
      · rw [k2, P2.2.2.2.2] at z
        have ne : skb tb len q ≠ len := by omega
        have t1 := (P2.2.2.2.1.2 (skb tb len q) (by omega)).1
        rw [if_neg ne] at hl hr
        refine k_tAt (i := skb tb len q) (by omega) P2.2.2.1 P2.2.2.2.1 k2 (by omega) (oI_i ⟨⟨(by unfold R32; omega), (by unfold R32; omega)⟩, fun y => ⟨P2.1, P2.1, b01_1, oI_i ?_⟩, fun y => ⟨P2.1, P2.1, k_refuse (by omega) P2.1 (oI_i ⟨b01_0, oI_i ?_⟩)⟩⟩)
        · have y' : tb (skb tb len q) = 59 := by omega
          rw [if_pos y'] at hl hr
          refine ⟨r32_1, fun k => absurd k (by decide), fun _ => ?_⟩
          rw [k2]
          have f3 : Fh g [3] S1 (S2.setI g 3 ((skb tb len q : Nat) + 1 : Int)) := f2.tr (Fh.s (by decide))
          by_cases j0 : j = 0
          · -- the thirteenth line is refused, so it never goes on
            subst j0
            have : c = 12 := by omega
            unfold pLine at hline
            rw [if_pos this] at hline
            cases hline
          · exact ih (c := c + 1) (p := skb tb len q + 1) (w := w') (G1.h f3 (by decide) (by rw [sI_I, if_pos ⟨rfl, rfl⟩]; omega) (by omega)) (by rw [f3.2 5 (by decide), i5, h5]) (by omega) (by omega) (fun S' f F' => hl S' f (F1.tr (f3.fq.tr F'))) (fun S' w'' F' => hr S' w'' (F1.tr (f3.fq.tr F')))
        · have y' : tb (skb tb len q) ≠ 59 := by omega
          rw [if_neg y'] at hl hr
          refine ⟨r32_0, fun _ => ?_, fun k => absurd rfl k⟩
          unfold VX4_read_38 VX4_read_75
          rw [k2]
          have f3 : Fh g [3, 5] S1 (S2.setI g 5 (skb tb len q : Nat)) := (f2.wk (by decide)).tr (Fh.s (by decide))
          have G3 := G1.h f3 (by decide) (by rw [sI_I, if_neg (by omega)]; exact k2) a.2
          refine ⟨r32_0, fun _ => ⟨G3.1.1, ?_⟩, fun k => absurd rfl k⟩
          rw [sI_I, if_pos ⟨rfl, rfl⟩]
          exact hl _ _ (F1.tr f3.fq) rfl ⟨_, _, _, G3⟩
      · rw [k2, P2.2.2.2.2] at z
        rw [if_pos (show skb tb len q = len by omega)] at hl hr
        refine ⟨r32_0, fun _ => ?_, fun k => absurd rfl k⟩
        unfold VX4_read_38 VX4_read_75
        refine ⟨r32_0, fun _ => ⟨P2.1, ?_⟩, fun k => absurd rfl k⟩
        rw [f2.2 5 (by decide), i5, h5]
        exact hr S2 w' (F1.tr f2.fq) rfl ⟨_, _, G1.h f2 (by decide) k2 a.2⟩
/-- a text, read -/
theorem k_read {d g len n : Nat} {tb : Nat → Nat} {w : Nat → Int} {S : MS} {Q : Out → MS → Prop} {x : Int} (hd : 9 ≤ d) (hK : S.K g = 4) (hR0 : S.R g 0 = some (g+1)) (hR1 : S.R g 1 = some (g+3)) (hY : TY S (g+1)) (hB : TBy S (g+1) tb len) (hS : SS S (g+3) n w) (hx : x = (len : Int)) (hl : ∀ S' f, Fq g S S' → pText tb len w = .inl f → (∃ n w, SS S' (g+3) n w) → Q (.inl (some (vI (f : Nat)))) S') (hr : ∀ S' w', Fq g S S' → pText tb len w = .inr w' → (∃ n, SS S' (g+3) n w') → Q (.inl (some (vI (-1)))) S') : Mw hX4_read yX4_read d [vA g, vI x] S Q := by
  subst hx
  unfold pText at hl hr
  have h4 := hB.1
  have f1 : Fh g [2, 3, 5] S (((S.setI g 2 (len : Int)).setI g 3 0).setI g 5 (-1)) := (Fh.s (by decide)).tr ((Fh.s (by decide)).tr (Fh.s (by decide)))
  have P1 : TG (((S.setI g 2 (len : Int)).setI g 3 0).setI g 5 (-1)) g tb len := ⟨hK, hR0, f1.1.ty hY, f1.1.tb (by omega) hB, by rw [sI_I, if_neg (by omega), sI_I, if_neg (by omega), sI_I, if_pos ⟨rfl, rfl⟩]⟩
  have i3 : (((S.setI g 2 (len : Int)).setI g 3 0).setI g 5 (-1)).I g 3 = ((0 : Nat) : Int) := by rw [sI_I, if_neg (by omega), sI_I, if_pos ⟨rfl, rfl⟩]; rfl
  have i5 : (((S.setI g 2 (len : Int)).setI g 3 0).setI g 5 (-1)).I g 5 = -1 := by rw [sI_I, if_pos ⟨rfl, rfl⟩]
  have a := skb_le (tb := tb) (Nat.zero_le len)
  obtain ⟨dd, rfl⟩ : ∃ e, d = e + 1 := ⟨d - 1, by omega⟩
  refine MX4_read ?_
  unfold VX4_read_0
  refine ⟨hK, hK, hK, hK, k_blanks (by omega) P1 i3 (Nat.zero_le _) (fun S1 f2 P2 k2 => oV_i ⟨P2.1, P2.1, by rw [k2, P2.2.2.2.2]; exact ⟨(by unfold R32; omega), (by unfold R32; omega)⟩, fun z => ?_, fun z => ?_⟩)⟩
  · rw [k2, P2.2.2.2.2] at z
    rw [if_pos (show skb tb len 0 = len by omega)] at hl hr
    have j5 : S1.I g 5 = -1 := by rw [f2.2 5 (by decide)]; exact i5
    unfold VX4_read_35
    refine ⟨1, ?_⟩
    unfold VX4_read_38 VX4_read_75
    refine ⟨r32_0, fun _ => ⟨P2.1, ?_⟩, fun k => absurd rfl k⟩
    rw [j5]
    exact hr S1 w (f1.fq.tr f2.fq) rfl ⟨n, f2.1.ss (by omega) (f1.1.ss (by omega) hS)⟩
  · rw [k2, P2.2.2.2.2] at z
    rw [if_neg (show skb tb len 0 ≠ len by omega)] at hl hr
    unfold VX4_read_35
    have G2 : PG S1 g tb len n w (skb tb len 0) := ⟨P2, by rw [f2.1.2.2.1]; exact hR1, f2.1.ss (by omega) (f1.1.ss (by omega) hS), k2, a.2⟩
    exact ⟨_, kf_read38 (by omega) 13 (c := 0) G2 (by rw [f2.2 5 (by decide)]; exact i5) (by omega) (by omega) (fun S' f F' e hz => hl S' f (f1.fq.tr (f2.fq.tr F')) e (by obtain ⟨n, w, p, G⟩ := hz; exact ⟨n, w, G.2.2.1⟩)) (fun S' w' F' e hz => hr S' w' (f1.fq.tr (f2.fq.tr F')) e (by obtain ⟨n, p, G⟩ := hz; exact ⟨n, G.2.2.1⟩))⟩
