/-! what changes of the shed leave it good -/
theorem upW_eq {w : Nat → Int} {k : Nat} {v : Int} : upW w k v k = v := if_pos rfl
theorem upW_ne {w : Nat → Int} {k q : Nat} {v : Int} (h : q ≠ k) : upW w k v q = w q := if_neg h
theorem GW.things {n k : Nat} {w : Nat → Int} (h : GW n w) (h0 : nN w = 0) (h3 : 3 ≤ k) (h7 : k ≤ 7) : GW k (W_things w k) := by
  have e : ∀ q, q ≠ 0 → ¬ (4 + k ≤ q ∧ q < 11) → W_things w k q = w q := fun q h1 h2 => by unfold W_things; rw [if_neg h1, if_neg h2]
  have es : sN (W_things w k) = sN w := by unfold sN; rw [e 1 (by decide) (by omega)]
  have en : nN (W_things w k) = nN w := by unfold nN; rw [e 2 (by decide) (by omega)]
  refine ⟨⟨h3, h7, by unfold W_things; rw [if_pos rfl]⟩, ?_, ?_, ?_, fun t ht => ?_, fun s hs => ?_, fun i hi => ?_⟩
  · rw [es, e 1 (by decide) (by omega)]; exact h.2.1
  · rw [en, e 2 (by decide) (by omega)]; exact h.2.2.1
  · rw [e 3 (by decide) (by omega)]; exact h.2.2.2.1
  · by_cases c : t < k
    · rw [e _ (by omega) (by omega)]; exact h.wt ht
    · unfold W_things; rw [if_neg (by omega), if_pos (by omega)]; omega
  · rw [es] at hs
    have := h.sc hs
    unfold kd prc lie at this ⊢
    rw [e _ (by omega) (by omega), e _ (by omega) (by omega), e _ (by omega) (by omega)]
    exact this
  · rw [en, h0] at hi
    omega
theorem GW.weight {n t : Nat} {v : Int} {w : Nat → Int} (h : GW n w) (ht : t < 7) (h0 : 0 ≤ v) (h1 : v ≤ 999) : GW n (upW w (4 + t) v) := by
  have e : ∀ q, q ≠ 4 + t → upW w (4 + t) v q = w q := fun q hq => upW_ne hq
  have es : sN (upW w (4 + t) v) = sN w := by unfold sN; rw [e 1 (by omega)]
  have en : nN (upW w (4 + t) v) = nN w := by unfold nN; rw [e 2 (by omega)]
  refine ⟨⟨h.1.1, h.1.2.1, by rw [e 0 (by omega)]; exact h.1.2.2⟩, by rw [es, e 1 (by omega)]; exact h.2.1, by rw [en, e 2 (by omega)]; exact h.2.2.1, by rw [e 3 (by omega)]; exact h.2.2.2.1, fun u hu => ?_, fun s hs => ?_, fun i hi => ?_⟩
  · by_cases c : u = t
    · rw [c, upW_eq]; omega
    · rw [e _ (by omega)]; exact h.wt hu
  · rw [es] at hs
    have := h.sc hs
    unfold kd prc lie at this ⊢
    rw [e _ (by omega), e _ (by omega), e _ (by omega)]
    exact this
  · rw [en] at hi
    have := h.nt hi
    rw [es]
    unfold kd nS nX nT at this ⊢
    rw [e (23 + 3 * i) (by omega), e (24 + 3 * i) (by omega), e (25 + 3 * i) (by omega), e (11 + 3 * (w (23 + 3 * i)).toNat) (by omega)]
    exact this
theorem scale_at {w : Nat → Int} {k p l : Int} {q : Nat} : W_scale w k p l q = if q = 1 then (sN w : Int) + 1 else if q = 13 + 3 * sN w then l else if q = 12 + 3 * sN w then p else if q = 11 + 3 * sN w then k else w q := by
  unfold W_scale upW
  rfl
theorem GW.scale {n : Nat} {k p l : Int} {w : Nat → Int} (h : GW n w) (h4 : sN w ≠ 4) (hk : 0 ≤ k ∧ k ≤ 2) (hp : 0 ≤ p ∧ p ≤ 99) (hl : 0 ≤ l ∧ l ≤ 3) : GW n (W_scale w k p l) := by
  have g1 := h.2.1
  have e : ∀ q, q ≠ 1 → ¬ (11 + 3 * sN w ≤ q ∧ q ≤ 13 + 3 * sN w) → W_scale w k p l q = w q := fun q h1 h2 => by rw [scale_at, if_neg h1, if_neg (by omega), if_neg (by omega), if_neg (by omega)]
  have e1 : W_scale w k p l 1 = (sN w : Int) + 1 := by rw [scale_at, if_pos rfl]
  have es : sN (W_scale w k p l) = sN w + 1 := by unfold sN; rw [e1]; omega
  have en : nN (W_scale w k p l) = nN w := by unfold nN; rw [e 2 (by omega) (by omega)]
  refine ⟨⟨h.1.1, h.1.2.1, by rw [e 0 (by omega) (by omega)]; exact h.1.2.2⟩, by rw [es, e1]; omega, by rw [en, e 2 (by omega) (by omega)]; exact h.2.2.1, by rw [e 3 (by omega) (by omega)]; exact h.2.2.2.1, fun u hu => by rw [e _ (by omega) (by omega)]; exact h.wt hu, fun s hs => ?_, fun i hi => ?_⟩
  · rw [es] at hs
    unfold kd prc lie
    by_cases c : s = sN w
    · subst c
      have a1 : W_scale w k p l (11 + 3 * sN w) = k := by rw [scale_at, if_neg (by omega), if_neg (by omega), if_neg (by omega), if_pos rfl]
      have a2 : W_scale w k p l (12 + 3 * sN w) = p := by rw [scale_at, if_neg (by omega), if_neg (by omega), if_pos rfl]
      have a3 : W_scale w k p l (13 + 3 * sN w) = l := by rw [scale_at, if_neg (by omega), if_pos rfl]
      rw [a1, a2, a3]
      omega
    · have := h.sc (s := s) (by omega)
      unfold kd prc lie at this
      rw [e _ (by omega) (by omega), e _ (by omega) (by omega), e _ (by omega) (by omega)]
      exact this
  · rw [en] at hi
    have := h.nt hi
    have g2 := h.2.2.1
    have hs := this.1.2
    rw [es]
    unfold kd nS nX nT at this ⊢
    unfold nS at hs
    rw [e (23 + 3 * i) (by omega) (by omega), e (24 + 3 * i) (by omega) (by omega), e (25 + 3 * i) (by omega) (by omega), e (11 + 3 * (w (23 + 3 * i)).toNat) (by omega) (by omega)]
    exact ⟨⟨this.1.1, by omega⟩, this.2⟩
theorem note_at {w : Nat → Int} {s x t : Int} {q : Nat} : W_note w s x t q = if q = 2 then (nN w : Int) + 1 else if q = 25 + 3 * nN w then t else if q = 24 + 3 * nN w then x else if q = 23 + 3 * nN w then s else w q := by
  unfold W_note upW
  rfl
theorem GW.note {n : Nat} {s x t : Nat} {w : Nat → Int} (h : GW n w) (h16 : nN w ≠ 16) (hs : s < sN w) (hx : x < 2 ^ n) (hp : pc x = pansK (kd w s)) (ht : t < n) (hb : x.testBit t = true) : GW n (W_note w s x t) := by
  have g1 := h.2.1
  have g2 := h.2.2.1
  have e : ∀ q, q ≠ 2 → ¬ (23 + 3 * nN w ≤ q ∧ q ≤ 25 + 3 * nN w) → W_note w s x t q = w q := fun q h1 h2 => by rw [note_at, if_neg h1, if_neg (by omega), if_neg (by omega), if_neg (by omega)]
  have e2 : W_note w s x t 2 = (nN w : Int) + 1 := by rw [note_at, if_pos rfl]
  have es : sN (W_note w s x t) = sN w := by unfold sN; rw [e 1 (by omega) (by omega)]
  have en : nN (W_note w s x t) = nN w + 1 := by unfold nN; rw [e2]; omega
  have ek : ∀ u, u < sN w → kd (W_note w s x t) u = kd w u := fun u hu => by unfold kd; rw [e _ (by omega) (by omega)]
  refine ⟨⟨h.1.1, h.1.2.1, by rw [e 0 (by omega) (by omega)]; exact h.1.2.2⟩, by rw [es, e 1 (by omega) (by omega)]; exact g1, by rw [en, e2]; omega, by rw [e 3 (by omega) (by omega)]; exact h.2.2.2.1, fun u hu => by rw [e _ (by omega) (by omega)]; exact h.wt hu, fun u hu => ?_, fun i hi => ?_⟩
  · rw [es] at hu
    have := h.sc hu
    unfold kd prc lie at this ⊢
    rw [e _ (by omega) (by omega), e _ (by omega) (by omega), e _ (by omega) (by omega)]
    exact this
  · rw [en] at hi
    rw [es]
    by_cases c : i = nN w
    · subst c
      have a1 : W_note w s x t (23 + 3 * nN w) = s := by rw [note_at, if_neg (by omega), if_neg (by omega), if_neg (by omega), if_pos rfl]
      have a2 : W_note w s x t (24 + 3 * nN w) = x := by rw [note_at, if_neg (by omega), if_neg (by omega), if_pos rfl]
      have a3 : W_note w s x t (25 + 3 * nN w) = t := by rw [note_at, if_neg (by omega), if_pos rfl]
      have b1 : nS (W_note w s x t) (nN w) = s := by unfold nS; rw [a1]; rfl
      have b2 : nX (W_note w s x t) (nN w) = x := by unfold nX; rw [a2]; rfl
      have b3 : nT (W_note w s x t) (nN w) = t := by unfold nT; rw [a3]; rfl
      rw [a1, a2, a3, b1, b2, b3, ek s hs]
      exact ⟨⟨rfl, hs⟩, ⟨rfl, hx, hp⟩, rfl, ht, hb⟩
    · have := h.nt (i := i) (by omega)
      have a1 : W_note w s x t (23 + 3 * i) = w (23 + 3 * i) := e _ (by omega) (by omega)
      have a2 : W_note w s x t (24 + 3 * i) = w (24 + 3 * i) := e _ (by omega) (by omega)
      have a3 : W_note w s x t (25 + 3 * i) = w (25 + 3 * i) := e _ (by omega) (by omega)
      have b1 : nS (W_note w s x t) i = nS w i := by unfold nS; rw [a1]
      have b2 : nX (W_note w s x t) i = nX w i := by unfold nX; rw [a2]
      have b3 : nT (W_note w s x t) i = nT w i := by unfold nT; rw [a3]
      rw [a1, a2, a3, b1, b2, b3, ek _ this.1.2]
      exact this
theorem GW.cong {n : Nat} {w u : Nat → Int} (h : GW n w) (e : ∀ q, q < 71 → u q = w q) : GW n u := by
  have g1 := h.2.1
  have g2 := h.2.2.1
  have es : sN u = sN w := by unfold sN; rw [e 1 (by decide)]
  have en : nN u = nN w := by unfold nN; rw [e 2 (by decide)]
  refine ⟨⟨h.1.1, h.1.2.1, by rw [e 0 (by decide)]; exact h.1.2.2⟩, by rw [es, e 1 (by decide)]; exact g1, by rw [en, e 2 (by decide)]; exact g2, by rw [e 3 (by decide)]; exact h.2.2.2.1, fun t ht => by rw [e _ (by omega)]; exact h.wt ht, fun s hs => ?_, fun i hi => ?_⟩
  · rw [es] at hs
    have := h.sc hs
    unfold kd prc lie at this ⊢
    rw [e _ (by omega), e _ (by omega), e _ (by omega)]
    exact this
  · rw [en] at hi
    have := h.nt hi
    have hs := this.1.2
    rw [es]
    unfold kd nS nX nT at this ⊢
    unfold nS at hs
    rw [e (23 + 3 * i) (by omega), e (24 + 3 * i) (by omega), e (25 + 3 * i) (by omega), e (11 + 3 * (w (23 + 3 * i)).toNat) (by omega)]
    exact this
/-! a text, read -/
def rn (P : Nat → Bool) : Nat → Nat → Nat
  | 0, p => p
  | j + 1, p => if P p then rn P j (p + 1) else p
theorem rn_le (P : Nat → Bool) : ∀ j p, p ≤ rn P j p ∧ rn P j p ≤ p + j
  | 0, p => ⟨Nat.le_refl _, Nat.le_refl _⟩
  | j + 1, p => by
    unfold rn
    have := rn_le P j (p + 1)
    split <;> omega
section TX
variable (tb : Nat → Nat) (len : Nat)
def skb (p : Nat) : Nat := rn (fun i => decide (tb i = 32)) (len - p) p
def lte (p : Nat) : Nat := rn (fun i => decide (97 ≤ tb i ∧ tb i ≤ 122)) (len - p) p
def dge (p : Nat) : Nat := rn (fun i => decide (48 ≤ tb i ∧ tb i ≤ 57)) (len - p) p
/-- the first k digits from b on -/
def vl (b : Nat) : Nat → Nat
  | 0 => 0
  | k + 1 => 10 * vl b k + (tb (b + k) - 48)
def nmB (lo hi : Int) (b e : Nat) : Prop := e = b ∨ 3 < e - b ∨ (vl tb b (min 3 (e - b)) : Int) < lo ∨ hi < (vl tb b (min 3 (e - b)) : Int)
noncomputable def pNum (lo hi : Int) (p : Nat) : Nat ⊕ (Nat × Nat) := cD (nmB tb lo hi (skb tb len p) (dge tb len (skb tb len p))) (.inl (skb tb len p)) (.inr (vl tb (skb tb len p) (min 3 (dge tb len (skb tb len p) - skb tb len p)), dge tb len (skb tb len p)))
def wdL : List (List Nat) := [[116, 104, 105, 110, 103, 115], [115, 99, 97, 108, 101], [119, 101, 105, 103, 104, 116], [110, 111, 116, 101], [116, 104, 114, 101, 101], [102, 111, 117, 114], [116, 119, 111], [114, 111, 115, 101]]
def wd (i : Nat) : List Nat := wdL.getD i []
def isW (i b e : Nat) : Prop := e - b = (wd i).length ∧ ∀ k, k < (wd i).length → tb (b + k) = (wd i).getD k 0
noncomputable def pMem (n : Nat) : Nat → Nat → Nat → Nat ⊕ (Nat × Nat)
  | 0, x, p => .inr (x, p)
  | k + 1, x, p => match pNum tb len 0 ((n : Int) - 1) p with
    | .inl f => .inl f
    | .inr (t, e) => if x.testBit t then .inl (skb tb len p) else pMem n k (x ||| 2 ^ t) e
noncomputable def pThings (w : Nat → Int) (b e : Nat) : Nat ⊕ ((Nat → Int) × Nat) := if 0 < nN w then .inl b else match pNum tb len 3 7 e with
  | .inl f => .inl f
  | .inr (v, q) => .inr (W_things w v, q)
noncomputable def pKind (b e : Nat) : Int := cD (isW tb 4 b e) 0 (cD (isW tb 5 b e) 1 (cD (isW tb 6 b e) 2 (-1)))
noncomputable def pScale (w : Nat → Int) (b e : Nat) : Nat ⊕ ((Nat → Int) × Nat) := if sN w = 4 then .inl b else if pKind tb (skb tb len e) (lte tb len (skb tb len e)) < 0 then .inl (skb tb len e) else match pNum tb len 0 99 (lte tb len (skb tb len e)) with
  | .inl f => .inl f
  | .inr (p, q) => match pNum tb len 0 3 q with
    | .inl f => .inl f
    | .inr (l, r) => .inr (W_scale w (pKind tb (skb tb len e) (lte tb len (skb tb len e))) p l, r)
noncomputable def pNote (w : Nat → Int) (n b e : Nat) : Nat ⊕ ((Nat → Int) × Nat) := if nN w = 16 then .inl b else match pNum tb len 0 ((sN w : Int) - 1) e with
  | .inl f => .inl f
  | .inr (s, q) => match pMem tb len n (pansK (kd w s)) 0 q with
    | .inl f => .inl f
    | .inr (x, r) => cD (isW tb 7 (skb tb len r) (lte tb len (skb tb len r))) (match pNum tb len 0 ((n : Int) - 1) (lte tb len (skb tb len r)) with
      | .inl f => .inl f
      | .inr (t, u) => if x.testBit t then .inr (W_note w s x t, u) else .inl (skb tb len (lte tb len (skb tb len r)))) (.inl (skb tb len r))
noncomputable def pWeight (w : Nat → Int) (n e : Nat) : Nat ⊕ ((Nat → Int) × Nat) := match pNum tb len 0 ((n : Int) - 1) e with
  | .inl f => .inl f
  | .inr (t, q) => match pNum tb len 0 999 q with
    | .inl f => .inl f
    | .inr (v, r) => .inr (upW w (4 + t) v, r)
noncomputable def pLine (c : Nat) (w : Nat → Int) (n p : Nat) : Nat ⊕ ((Nat → Int) × Nat) := if c = 12 then .inl (skb tb len p) else
  cD (isW tb 0 (skb tb len p) (lte tb len (skb tb len p))) (pThings tb len w (skb tb len p) (lte tb len (skb tb len p)))
  (cD (isW tb 1 (skb tb len p) (lte tb len (skb tb len p))) (pScale tb len w (skb tb len p) (lte tb len (skb tb len p)))
  (cD (isW tb 3 (skb tb len p) (lte tb len (skb tb len p))) (pNote tb len w n (skb tb len p) (lte tb len (skb tb len p)))
  (cD (isW tb 2 (skb tb len p) (lte tb len (skb tb len p))) (pWeight tb len w n (lte tb len (skb tb len p))) (.inl (skb tb len p)))))
noncomputable def pAll : Nat → Nat → (Nat → Int) → Nat → Nat ⊕ (Nat → Int)
  | 0, _, _, p => .inl p
  | j + 1, c, w, p => match pLine tb len c w (w 0).toNat p with
    | .inl f => .inl f
    | .inr (w', q) => if skb tb len q = len then .inr w' else if tb (skb tb len q) = 59 then pAll j (c + 1) w' (skb tb len q + 1) else .inl (skb tb len q)
noncomputable def pText (w : Nat → Int) : Nat ⊕ (Nat → Int) := if skb tb len 0 = len then .inr w else pAll tb len 13 0 w (skb tb len 0)
end TX
theorem skb_le {tb : Nat → Nat} {len p : Nat} (h : p ≤ len) : p ≤ skb tb len p ∧ skb tb len p ≤ len := by
  have := rn_le (fun i => decide (tb i = 32)) (len - p) p
  unfold skb
  omega
theorem lte_le {tb : Nat → Nat} {len p : Nat} (h : p ≤ len) : p ≤ lte tb len p ∧ lte tb len p ≤ len := by
  have := rn_le (fun i => decide (97 ≤ tb i ∧ tb i ≤ 122)) (len - p) p
  unfold lte
  omega
theorem dge_le {tb : Nat → Nat} {len p : Nat} (h : p ≤ len) : p ≤ dge tb len p ∧ dge tb len p ≤ len := by
  have := rn_le (fun i => decide (48 ≤ tb i ∧ tb i ≤ 57)) (len - p) p
  unfold dge
  omega
theorem rn_all {P : Nat → Bool} : ∀ {j p i : Nat}, p ≤ i → i < rn P j p → P i = true
  | 0, p, i, h1, h2 => by unfold rn at h2; omega
  | j + 1, p, i, h1, h2 => by
    unfold rn at h2
    by_cases c : P p = true
    · rw [if_pos c] at h2
      by_cases e : i = p
      · rw [e]; exact c
      · exact rn_all (j := j) (p := p + 1) (by omega) h2
    · rw [if_neg c] at h2; omega
theorem dge_d {tb : Nat → Nat} {len b i : Nat} (h1 : b ≤ i) (h2 : i < dge tb len b) : 48 ≤ tb i ∧ tb i ≤ 57 := by
  have := rn_all h1 h2
  simpa using this
theorem vl_lt {tb : Nat → Nat} {len b : Nat} : ∀ {k : Nat}, b + k ≤ dge tb len b → vl tb b k < 10 ^ k
  | 0, _ => by unfold vl; decide
  | k + 1, h => by
    have ih := vl_lt (tb := tb) (len := len) (b := b) (k := k) (by omega)
    have := dge_d (tb := tb) (len := len) (b := b) (i := b + k) (by omega) (by omega)
    unfold vl
    rw [Nat.pow_succ]
    omega
theorem pNum_r {tb : Nat → Nat} {len p v e : Nat} {lo hi : Int} (hp : p ≤ len) (h : pNum tb len lo hi p = .inr (v, e)) : lo ≤ (v : Int) ∧ (v : Int) ≤ hi ∧ p ≤ e ∧ e ≤ len := by
  have a := skb_le (tb := tb) hp
  have b := dge_le (tb := tb) a.2
  unfold pNum at h
  by_cases c : nmB tb lo hi (skb tb len p) (dge tb len (skb tb len p))
  · rw [cD_y c] at h; cases h
  · rw [cD_n c] at h
    unfold nmB at c
    simp only [Sum.inr.injEq, Prod.mk.injEq] at h
    obtain ⟨rfl, rfl⟩ := h
    omega
theorem pMem_r {tb : Nat → Nat} {len n : Nat} (h7 : n ≤ 7) : ∀ {k x p x' e : Nat}, p ≤ len → x < 2 ^ n → pMem tb len n k x p = .inr (x', e) → p ≤ e ∧ e ≤ len ∧ x' < 2 ^ n ∧ pc x' = pc x + k
  | 0, x, p, x', e, hp, hx, h => by
    unfold pMem at h
    simp only [Sum.inr.injEq, Prod.mk.injEq] at h
    obtain ⟨rfl, rfl⟩ := h
    exact ⟨Nat.le_refl _, hp, hx, rfl⟩
  | k + 1, x, p, x', e, hp, hx, h => by
    unfold pMem at h
    cases hn : pNum tb len 0 ((n : Int) - 1) p with
    | inl f => rw [hn] at h; cases h
    | inr q =>
      obtain ⟨t, q⟩ := q
      rw [hn] at h
      obtain ⟨a1, a2, a3, a4⟩ := pNum_r hp hn
      simp only at h
      by_cases c : x.testBit t = true
      · rw [if_pos c] at h; cases h
      · rw [if_neg c] at h
        have o : x ||| 2 ^ t < 2 ^ n := Nat.or_lt_two_pow hx (Nat.pow_lt_pow_right (by decide) (by omega))
        obtain ⟨b1, b2, b3, b4⟩ := pMem_r h7 a4 o h
        refine ⟨by omega, b2, b3, ?_⟩
        have e1 : pc (x ||| 2 ^ t) = pc x + 1 := by
          unfold pc
          have ht : t < 7 := by omega
          have : (fun u => (x ||| 2 ^ t).testBit u) = fun u => x.testBit u || decide (u = t) := by
            funext u
            rw [Nat.testBit_or, Nat.testBit_two_pow]
            congr 1
            simp only [eq_comm]
          rw [this, cntB_upd (fun u => x.testBit u) ht, if_neg c]
        omega
/-- a line leaves the shed good -/
theorem pLine_ok {tb : Nat → Nat} {len c n p e : Nat} {w w' : Nat → Int} (hg : GW n w) (hp : p ≤ len) (h : pLine tb len c w n p = .inr (w', e)) : (∃ n', GW n' w') ∧ p ≤ e ∧ e ≤ len ∧ w' 3 = w 3 := by
  have a := skb_le (tb := tb) hp
  have b := lte_le (tb := tb) a.2
  have h37 := hg.1
  unfold pLine at h
  by_cases c12 : c = 12
  · rw [if_pos c12] at h; cases h
  rw [if_neg c12] at h
  by_cases w0 : isW tb 0 (skb tb len p) (lte tb len (skb tb len p))
  · rw [cD_y w0] at h
    unfold pThings at h
    by_cases n0 : 0 < nN w
    · rw [if_pos n0] at h; cases h
    rw [if_neg n0] at h
    cases hn : pNum tb len 3 7 (lte tb len (skb tb len p)) with
    | inl f => rw [hn] at h; cases h
    | inr q =>
      obtain ⟨v, q⟩ := q
      rw [hn] at h
      obtain ⟨a1, a2, a3, a4⟩ := pNum_r b.2 hn
      simp only [Sum.inr.injEq, Prod.mk.injEq] at h
      obtain ⟨rfl, rfl⟩ := h
      exact ⟨⟨v, hg.things (by omega) (by omega) (by omega)⟩, by omega, a4, by unfold W_things; rw [if_neg (by decide), if_neg (by omega)]⟩
  rw [cD_n w0] at h
  by_cases w1 : isW tb 1 (skb tb len p) (lte tb len (skb tb len p))
  · rw [cD_y w1] at h
    unfold pScale at h
    have c1 := skb_le (tb := tb) b.2
    have c2 := lte_le (tb := tb) c1.2
    by_cases n0 : sN w = 4
    · rw [if_pos n0] at h; cases h
    rw [if_neg n0] at h
    generalize hk : pKind tb (skb tb len (lte tb len (skb tb len p))) (lte tb len (skb tb len (lte tb len (skb tb len p)))) = k at h
    by_cases k0 : k < 0
    · rw [if_pos k0] at h; cases h
    rw [if_neg k0] at h
    have k2 : k ≤ 2 := by
      rw [← hk]
      unfold pKind
      by_cases d1 : isW tb 4 (skb tb len (lte tb len (skb tb len p))) (lte tb len (skb tb len (lte tb len (skb tb len p))))
      · rw [cD_y d1]; decide
      · rw [cD_n d1]
        by_cases d2 : isW tb 5 (skb tb len (lte tb len (skb tb len p))) (lte tb len (skb tb len (lte tb len (skb tb len p))))
        · rw [cD_y d2]; decide
        · rw [cD_n d2]
          by_cases d3 : isW tb 6 (skb tb len (lte tb len (skb tb len p))) (lte tb len (skb tb len (lte tb len (skb tb len p))))
          · rw [cD_y d3]; decide
          · rw [cD_n d3]; decide
    cases hn : pNum tb len 0 99 (lte tb len (skb tb len (lte tb len (skb tb len p)))) with
    | inl f => rw [hn] at h; cases h
    | inr q =>
      obtain ⟨v, q⟩ := q
      rw [hn] at h
      obtain ⟨a1, a2, a3, a4⟩ := pNum_r c2.2 hn
      simp only at h
      cases hn2 : pNum tb len 0 3 q with
      | inl f => rw [hn2] at h; cases h
      | inr r =>
        obtain ⟨l, r⟩ := r
        rw [hn2] at h
        obtain ⟨b1, b2, b3, b4⟩ := pNum_r a4 hn2
        simp only [Sum.inr.injEq, Prod.mk.injEq] at h
        obtain ⟨rfl, rfl⟩ := h
        exact ⟨⟨n, hg.scale n0 (by omega) (by omega) (by omega)⟩, by omega, b4, by rw [scale_at, if_neg (by decide), if_neg (by omega), if_neg (by omega), if_neg (by omega)]⟩
  rw [cD_n w1] at h
  by_cases w3 : isW tb 3 (skb tb len p) (lte tb len (skb tb len p))
  · rw [cD_y w3] at h
    unfold pNote at h
    by_cases n0 : nN w = 16
    · rw [if_pos n0] at h; cases h
    rw [if_neg n0] at h
    cases hn : pNum tb len 0 ((sN w : Int) - 1) (lte tb len (skb tb len p)) with
    | inl f => rw [hn] at h; cases h
    | inr q =>
      obtain ⟨s, q⟩ := q
      rw [hn] at h
      obtain ⟨a1, a2, a3, a4⟩ := pNum_r b.2 hn
      simp only at h
      cases hm : pMem tb len n (pansK (kd w s)) 0 q with
      | inl f => rw [hm] at h; cases h
      | inr r =>
        obtain ⟨x, r⟩ := r
        rw [hm] at h
        obtain ⟨b1, b2, b3, b4⟩ := pMem_r h37.2.1 a4 (Nat.two_pow_pos n) hm
        simp only at h
        have c1 := skb_le (tb := tb) b2
        have c2 := lte_le (tb := tb) c1.2
        by_cases w7 : isW tb 7 (skb tb len r) (lte tb len (skb tb len r))
        · rw [cD_y w7] at h
          cases hn2 : pNum tb len 0 ((n : Int) - 1) (lte tb len (skb tb len r)) with
          | inl f => rw [hn2] at h; cases h
          | inr u =>
            obtain ⟨t, u⟩ := u
            rw [hn2] at h
            obtain ⟨d1, d2, d3, d4⟩ := pNum_r c2.2 hn2
            simp only at h
            by_cases bt : x.testBit t = true
            · rw [if_pos bt] at h
              simp only [Sum.inr.injEq, Prod.mk.injEq] at h
              obtain ⟨rfl, rfl⟩ := h
              have pc0 : pc 0 = 0 := by decide
              exact ⟨⟨n, hg.note n0 (by omega) b3 (by omega) (by omega) bt⟩, by omega, d4, by rw [note_at, if_neg (by decide), if_neg (by omega), if_neg (by omega), if_neg (by omega)]⟩
            · rw [if_neg bt] at h; cases h
        · rw [cD_n w7] at h; cases h
  rw [cD_n w3] at h
  by_cases w2 : isW tb 2 (skb tb len p) (lte tb len (skb tb len p))
  · rw [cD_y w2] at h
    unfold pWeight at h
    cases hn : pNum tb len 0 ((n : Int) - 1) (lte tb len (skb tb len p)) with
    | inl f => rw [hn] at h; cases h
    | inr q =>
      obtain ⟨t, q⟩ := q
      rw [hn] at h
      obtain ⟨a1, a2, a3, a4⟩ := pNum_r b.2 hn
      simp only at h
      cases hn2 : pNum tb len 0 999 q with
      | inl f => rw [hn2] at h; cases h
      | inr r =>
        obtain ⟨v, r⟩ := r
        rw [hn2] at h
        obtain ⟨b1, b2, b3, b4⟩ := pNum_r a4 hn2
        simp only [Sum.inr.injEq, Prod.mk.injEq] at h
        obtain ⟨rfl, rfl⟩ := h
        exact ⟨⟨n, hg.weight (by omega) b1 b2⟩, by omega, b4, upW_ne (by omega)⟩
  · rw [cD_n w2] at h; cases h
