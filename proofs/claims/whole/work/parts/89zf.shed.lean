/-! where a text fails lies within it -/
theorem pNum_l {tb : Nat → Nat} {len p f : Nat} {lo hi : Int} (hp : p ≤ len) (h : pNum tb len lo hi p = .inl f) : f ≤ len := by
  have a := skb_le (tb := tb) hp
  unfold pNum at h
  by_cases c : nmB tb lo hi (skb tb len p) (dge tb len (skb tb len p))
  · rw [cD_y c] at h; cases h; exact a.2
  · rw [cD_n c] at h; cases h
theorem pMem_l {tb : Nat → Nat} {len n f : Nat} : ∀ {k x p : Nat}, p ≤ len → pMem tb len n k x p = .inl f → f ≤ len
  | 0, x, p, hp, h => by unfold pMem at h; cases h
  | k + 1, x, p, hp, h => by
    unfold pMem at h
    cases hn : pNum tb len 0 ((n : Int) - 1) p with
    | inl g => rw [hn] at h; cases h; exact pNum_l hp hn
    | inr q =>
      obtain ⟨t, q⟩ := q
      rw [hn] at h
      obtain ⟨a1, a2, a3, a4⟩ := pNum_r hp hn
      simp only at h
      by_cases c : x.testBit t = true
      · rw [if_pos c] at h; cases h; exact (skb_le hp).2
      · rw [if_neg c] at h; exact pMem_l a4 h
theorem pLine_l {tb : Nat → Nat} {len c n p f : Nat} {w : Nat → Int} (hg : GW n w) (hp : p ≤ len) (h : pLine tb len c w n p = .inl f) : f ≤ len := by
  have a := skb_le (tb := tb) hp
  have b := lte_le (tb := tb) a.2
  unfold pLine at h
  by_cases c12 : c = 12
  · rw [if_pos c12] at h; cases h; exact a.2
  rw [if_neg c12] at h
  by_cases w0 : isW tb 0 (skb tb len p) (lte tb len (skb tb len p))
  · rw [cD_y w0] at h
    unfold pThings at h
    by_cases n0 : 0 < nN w
    · rw [if_pos n0] at h; cases h; exact a.2
    rw [if_neg n0] at h
    cases hn : pNum tb len 3 7 (lte tb len (skb tb len p)) with
    | inl f => rw [hn] at h; cases h; exact pNum_l b.2 hn
    | inr q => obtain ⟨v, q⟩ := q; rw [hn] at h; cases h
  rw [cD_n w0] at h
  by_cases w1 : isW tb 1 (skb tb len p) (lte tb len (skb tb len p))
  · rw [cD_y w1] at h
    unfold pScale at h
    have c1 := skb_le (tb := tb) b.2
    have c2 := lte_le (tb := tb) c1.2
    by_cases n0 : sN w = 4
    · rw [if_pos n0] at h; cases h; exact a.2
    rw [if_neg n0] at h
    by_cases k0 : pKind tb (skb tb len (lte tb len (skb tb len p))) (lte tb len (skb tb len (lte tb len (skb tb len p)))) < 0
    · rw [if_pos k0] at h; cases h; exact c1.2
    rw [if_neg k0] at h
    cases hn : pNum tb len 0 99 (lte tb len (skb tb len (lte tb len (skb tb len p)))) with
    | inl f => rw [hn] at h; cases h; exact pNum_l c2.2 hn
    | inr q =>
      obtain ⟨v, q⟩ := q
      rw [hn] at h
      obtain ⟨a1, a2, a3, a4⟩ := pNum_r c2.2 hn
      simp only at h
      cases hn2 : pNum tb len 0 3 q with
      | inl f => rw [hn2] at h; cases h; exact pNum_l a4 hn2
      | inr r => obtain ⟨l, r⟩ := r; rw [hn2] at h; cases h
  rw [cD_n w1] at h
  by_cases w3 : isW tb 3 (skb tb len p) (lte tb len (skb tb len p))
  · rw [cD_y w3] at h
    unfold pNote at h
    by_cases n0 : nN w = 16
    · rw [if_pos n0] at h; cases h; exact a.2
    rw [if_neg n0] at h
    cases hn : pNum tb len 0 ((sN w : Int) - 1) (lte tb len (skb tb len p)) with
    | inl f => rw [hn] at h; cases h; exact pNum_l b.2 hn
    | inr q =>
      obtain ⟨s, q⟩ := q
      rw [hn] at h
      obtain ⟨a1, a2, a3, a4⟩ := pNum_r b.2 hn
      simp only at h
      cases hm : pMem tb len n (pansK (kd w s)) 0 q with
      | inl f => rw [hm] at h; cases h; exact pMem_l a4 hm
      | inr r =>
        obtain ⟨y, r⟩ := r
        rw [hm] at h
        have b4 := (pMem_r hg.1.2.1 a4 (Nat.two_pow_pos n) hm).2.1
        have c1 := skb_le (tb := tb) b4
        have c2 := lte_le (tb := tb) c1.2
        simp only at h
        by_cases w7 : isW tb 7 (skb tb len r) (lte tb len (skb tb len r))
        · rw [cD_y w7] at h
          cases hn2 : pNum tb len 0 ((n : Int) - 1) (lte tb len (skb tb len r)) with
          | inl f => rw [hn2] at h; cases h; exact pNum_l c2.2 hn2
          | inr z =>
            obtain ⟨t, z⟩ := z
            rw [hn2] at h
            simp only at h
            by_cases g : y.testBit t = true
            · rw [if_pos g] at h; cases h
            · rw [if_neg g] at h; cases h; exact (skb_le c2.2).2
        · rw [cD_n w7] at h; cases h; exact c1.2
  rw [cD_n w3] at h
  by_cases w2 : isW tb 2 (skb tb len p) (lte tb len (skb tb len p))
  · rw [cD_y w2] at h
    unfold pWeight at h
    cases hn : pNum tb len 0 ((n : Int) - 1) (lte tb len (skb tb len p)) with
    | inl f => rw [hn] at h; cases h; exact pNum_l b.2 hn
    | inr q =>
      obtain ⟨t, q⟩ := q
      rw [hn] at h
      obtain ⟨a1, a2, a3, a4⟩ := pNum_r b.2 hn
      simp only at h
      cases hn2 : pNum tb len 0 999 q with
      | inl f => rw [hn2] at h; cases h; exact pNum_l a4 hn2
      | inr r => obtain ⟨l, r⟩ := r; rw [hn2] at h; cases h
  rw [cD_n w2] at h
  cases h
  exact a.2
theorem pAll_l {tb : Nat → Nat} {len f : Nat} : ∀ (j : Nat) {c p n : Nat} {w : Nat → Int}, GW n w → p ≤ len → pAll tb len j c w p = .inl f → f ≤ len
  | 0, c, p, n, w, hg, hp, h => by unfold pAll at h; cases h; exact hp
  | j + 1, c, p, n, w, hg, hp, h => by
    unfold pAll at h
    have en : (w 0).toNat = n := by rw [hg.1.2.2]; rfl
    rw [en] at h
    cases hn : pLine tb len c w n p with
    | inl g => rw [hn] at h; cases h; exact pLine_l hg hp hn
    | inr q =>
      obtain ⟨w1, q⟩ := q
      rw [hn] at h
      simp only at h
      obtain ⟨⟨n1, g1⟩, a1, a2, a3⟩ := pLine_ok hg hp hn
      have b := skb_le (tb := tb) a2
      by_cases c1 : skb tb len q = len
      · rw [if_pos c1] at h
        cases h
      · rw [if_neg c1] at h
        by_cases c2 : tb (skb tb len q) = 59
        · rw [if_pos c2] at h
          exact pAll_l j g1 (by omega) h
        · rw [if_neg c2] at h; cases h; exact b.2
theorem pText_l {tb : Nat → Nat} {len n f : Nat} {w : Nat → Int} (hg : GW n w) (h : pText tb len w = .inl f) : f ≤ len := by
  unfold pText at h
  by_cases c : skb tb len 0 = len
  · rw [if_pos c] at h
    cases h
  · rw [if_neg c] at h
    exact pAll_l 13 hg (skb_le (Nat.zero_le len)).2 h
/-! a text for the shed -/
theorem Fq.g {x : Nat} {A B : Nat → Prop} {S S1 : MS} (f : Fq (x+1) S S1) (hA : ∀ a, x + 1 ≤ a → a < x + 12 → A a) : CG x A B 0 S S1 := ⟨f.2.2.2.1, fun a g1 g2 g3 => by
  by_cases c : x + 1 ≤ a ∧ a < x + 12
  · exact absurd (hA a c.1 c.2) g3
  · exact (f.2.2.2.2.2.2 a (by omega) (by omega)).1, fun k _ => by rw [(f.2.2.2.2.2.2 x (by omega) (by omega)).1], fun a _ => ⟨by rw [f.1], by rw [f.2.1]⟩, fun a _ _ => ⟨(f.2.2.2.2.2.2 a (by omega) (by omega)).1, (f.2.2.2.2.2.2 a (by omega) (by omega)).2, by rw [f.2.2.1]⟩, by
  have a3 : wn0 S1 x = wn0 S x := by unfold wn0; rw [f.2.2.1]
  have := f.2.2.2.2.1
  omega, by
  have a3 : wn0 S1 x = wn0 S x := by unfold wn0; rw [f.2.2.1]
  have := f.2.2.2.2.2.1
  omega⟩
theorem FS.jk {x n len : Nat} {w v : Nat → Int} {tb : Nat → Nat} {i f : Int} {S : MS} (h : FS S x n w tb len i v f) : FS (S.junk 6) x n w tb len i v f := h.mv h.1.junk h.2.1 (fun _ _ _ => rfl) rfl rfl
theorem q_shed {d x n len : Nat} {w u v : Nat → Int} {tb : Nat → Nat} {i f : Int} {S : MS} {Q : Out → MS → Prop} (hd : 11 ≤ d) (h : FS S x n w tb len i v f) (hu : ∀ q, q < 71 → u q = w q)
    (h1 : ∀ g : Nat, pText tb len u = .inl g → ∀ S', FS S' x n w tb 0 i v (g : Int) → CG x tA tA 1 S S' → Q (.inr iae) S')
    (h2 : ∀ w', pText tb len u = .inr w' → w 3 = 8 → ∀ S', FS S' x n w tb 0 i v (-1) → CG x tA tA 1 S S' → Q (.inr uoe) S')
    (h0 : ∀ w' n', pText tb len u = .inr w' → w 3 ≠ 8 → ∀ S', FS S' x n' (upW w' 3 (w 3 + 1)) tb 0 i v (-1) → CG x tA tA 1 S S' → Q (.inl (some (vI (w 3 + 1)))) S') : Mw hX10_shed yX10_shed d [vA x] S Q := by
  have hC := h.1
  have hX := hC.1
  have hx := hC.2.2.2.1.1
  have hg := hC.2.1.2.2
  have g3 := hg.2.2.2.1
  have hgu : GW n u := hg.cong hu
  have hlen := h.2.1.2.1
  obtain ⟨dd, rfl⟩ : ∃ e, d = e + 1 := ⟨d - 1, by omega⟩
  refine MX10_shed ?_
  unfold VX10_shed_0
  refine ⟨hX.1, x+1, hX.2.1.1, hX.2.2.1.1, x+4, hX.2.2.1.2.2, hX.1, x+12, hX.2.1.2.2.1, hX.2.2.2.1.1, k_takeOver (by omega) hX.2.2.2.1 hC.2.1 (by omega) (fun S1 f1 s1 => oV_i ?_)⟩
  have C1 := hC.low f1 (by omega) (by omega)
  have X1 := C1.1
  have T1 : TW S1 (x+2) tb len := f1.tw (by omega) h.2.1
  refine ⟨X1.1, x+1, X1.2.1.1, X1.1, x+2, X1.2.1.2.1, X1.2.2.2.2.1.1, k_useUp (by omega) X1.2.2.2.2.1 T1 (fun S2 f2 b2 z2 => oI_i ?_)⟩
  have C2 := C1.low f2 (by omega) (by omega)
  have X2 := C2.1
  have s2 : SS S2 (x+4) n u := (f2.ss (by omega) s1).cong hu
  have G2 : CG x tA tA 0 S S2 := (f1.g (A := tA) (B := tA) (by omega) (by omega) (fun _ _ _ _ => trivial)).tr (f2.g (A := tA) (B := tA) (by omega) (by omega) (fun _ _ _ _ => trivial))
  have i2 : ∀ a, (a < x + 2 ∨ x + 12 ≤ a) → S2.I a = S.I a := fun a ha => by rw [f2.I (by omega), f1.I (by omega)]
  have st : ∀ {S3 : MS} {r : Int}, Fq (x+1) S2 S3 → R32 r → FS (S3.setI x 14 r) x n w tb 0 i v r ∧ CG x tA tA 0 S (S3.setI x 14 r) := by
    intro S3 r F hr
    have i3 : ∀ a, a ≠ x → a ≠ x + 1 → (a < x + 2 ∨ x + 12 ≤ a) → (S3.setI x 14 r).I a = S.I a := fun a z0 z1 z2 => by rw [sI_Ia z0, (F.2.2.2.2.2.2 a z1 (by omega)).1, i2 a z2]
    have ix : ∀ k, k ≠ 14 → (S3.setI x 14 r).I x k = S.I x k := fun k z => by rw [sI_I, if_neg (fun y => z y.2), (F.2.2.2.2.2.2 x (by omega) (by omega)).1, i2 x (by omega)]
    have C3 : CI (S3.setI x 14 r) x n w := C2.all (by show S3.K = _; rw [F.1]) (by show S3.N = _; rw [F.2.1]) (by show S3.R = _; rw [F.2.2.1]) (by show S3.nx = _; rw [F.2.2.2.2.1]) (fun a z => ⟨by rw [sI_Ia (by omega), (F.2.2.2.2.2.2 a (by omega) (by omega)).1], by show S3.J a = _; rw [(F.2.2.2.2.2.2 a (by omega) (by omega)).2]⟩) (by rw [ix 12 (by decide), i2 x (by omega)])
    obtain ⟨j1, j2, j3⟩ := h.2.2.1
    refine ⟨⟨C3, ⟨by rw [sI_Ia (by omega), (F.2.2.2.2.2.2 (x+2) (by omega) (by omega)).1]; exact z2, Nat.zero_le _, fun k hk => absurd hk (Nat.not_lt_zero k)⟩, ⟨by rw [ix 13 (by decide)]; exact j1, j2, fun z => ?_⟩, by rw [sI_I, if_pos ⟨rfl, rfl⟩], hr⟩, (G2.tr (F.g (A := tA) (B := tA) (fun _ _ _ => trivial))).tr (CG.sx trivial)⟩
    obtain ⟨m, hm⟩ := j3 z
    exact ⟨m, ss_I hm C3.1.2.2.2.2.2.1 (fun a z1 z2 => i3 a (by omega) (by omega) (by omega))⟩
  refine ⟨X2.2.2.1.1, k_read (tb := tb) (len := len) (n := n) (w := u) (by omega) X2.2.2.1.1 X2.2.2.1.2.1 X2.2.2.1.2.2 X2.2.2.2.2.1 b2 s2 rfl (fun S3 g F e hz => oI_i ?_) (fun S3 w' F e hz => oI_i ?_)⟩
  · have hgl := pText_l hgu e
    obtain ⟨H3, G3⟩ := st (r := (g : Int)) F (by unfold R32; omega)
    have y14 : (S3.setI x 14 ((g : Nat) : Int)).I x 14 = (g : Int) := H3.2.2.2.1
    refine ⟨H3.1.1.1, H3.1.1.1, ?_⟩
    rw [y14]
    refine ⟨⟨(by unfold R32; omega), (by unfold R32; omega)⟩, fun c => by omega, fun _ => ⟨by omega, h1 g e _ H3.jk (G3.jk H3.1.2.2.2.1.1)⟩⟩
  · obtain ⟨n', s3⟩ := hz
    obtain ⟨-, w3⟩ := pText_ok hgu e
    rw [hu 3 (by decide)] at w3
    obtain ⟨H3, G3⟩ := st (r := -1) F (by unfold R32; omega)
    have C3 := H3.1
    have X3 := C3.1
    have y14 : (S3.setI x 14 (-1)).I x 14 = -1 := H3.2.2.2.1
    refine ⟨X3.1, X3.1, ?_⟩
    rw [y14]
    refine ⟨⟨(by unfold R32; omega), (by unfold R32; omega)⟩, fun _ => ⟨X3.1, x+12, X3.2.1.2.2.1, C3.2.1.1.1, ?_⟩, fun c => absurd rfl c⟩
    rw [C3.i8.2.2.1]
    refine ⟨⟨(by unfold R32; omega), (by unfold R32; omega)⟩, fun c => ?_, fun c => ⟨by omega, h2 w' e (by omega) _ H3.jk (G3.jk H3.1.2.2.2.1.1)⟩⟩
    have s4 : SS (S3.setI x 14 (-1)) (x+4) n' w' := (Fi.sI (lo := x) (hi := x+1) (by omega) : Fi x (x+1) S3 (S3.setI x 14 (-1))).ss (by omega) s3
    have i10 : (S3.setI x 14 (-1)).I (x+4) 10 = w 3 := by rw [s4.2.1.1.2.2.2, w3]
    rw [i10]
    have s5 := s4.tx (v := w 3 + 1) (by omega) (by omega)
    have f5 : Fi (x+4) (x+5) (S3.setI x 14 (-1)) ((S3.setI x 14 (-1)).setI (x+4) 10 (w 3 + 1)) := Fi.sI (by omega)
    have C5 := C3.low f5 (by omega) (by omega)
    have X5 := C5.1
    refine ⟨X3.2.2.2.1.1, X3.2.2.2.1.1, X5.1, x+12, X5.2.1.2.2.1, C5.2.1.1.1, k_takeOver (by omega) C5.2.1.1 s5 (by omega) (fun S6 f6 s6 => oV_i ?_)⟩
    have i6 : ∀ a, a ≠ x → (a < x + 4 ∨ (x + 5 ≤ a ∧ a < x + 12) ∨ x + 20 ≤ a) → (S6.setI x 12 0).I a = (S3.setI x 14 (-1)).I a := fun a z1 z2 => by rw [sI_Ia z1, f6.I (by omega), f5.I (by omega)]
    have ix : ∀ k, k ≠ 12 → (S6.setI x 12 0).I x k = (S3.setI x 14 (-1)).I x k := fun k z => by rw [sI_I, if_neg (fun y => z y.2), f6.I (by omega), f5.I (by omega)]
    have C6 : CI (S6.setI x 12 0) x n' (upW w' 3 (w 3 + 1)) := C5.mut (by show S6.K = _; rw [f6.1]) (by show S6.N = _; rw [f6.2.1]) (by show S6.R = _; rw [f6.2.2.1]) (by show S6.nx = _; rw [f6.2.2.2.2.1]) (fun a z1 z2 => ⟨by rw [sI_Ia z1, f6.I (by omega)], by show S6.J a = _; rw [f6.J (by omega)]⟩) (by rw [sI_I, if_pos ⟨rfl, rfl⟩]) ((Fi.sI (lo := x) (hi := x+1) (by omega) : Fi x (x+1) S6 (S6.setI x 12 0)).ss (by omega) s6)
    refine ⟨⟨by rw [f6.1]; exact X5.1, b01_0⟩, C6.1.1, x+12, C6.1.2.1.2.2.1, C6.2.1.1.1, ?_⟩
    rw [C6.i8.2.2.1, upW_eq]
    refine h0 w' n' e (by omega) _ (H3.mv C6 (tw_I H3.2.1 (by rw [i6 _ (by omega) (by omega)]) (i6 _ (by omega) (by omega))) (fun a z1 z2 => i6 a (by omega) (by omega)) (ix 13 (by decide)) (ix 14 (by decide))) (((G3.tr (f5.g (A := tA) (B := tA) (by omega) (by omega) (fun _ _ _ _ => trivial))).tr ((f6.g (A := tA) (B := tA) (by omega) (by omega) (fun _ _ _ _ => trivial)).tr (CG.sx trivial))).t (by omega))
