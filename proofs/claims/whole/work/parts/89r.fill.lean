/-! all rows are filled -/
theorem all_of {S : MS} {b n : Nat} (hB : AB S b n) (hY : YB S b n 3) : ALL S b n ∧ ALI S b n ∧ CT S b n 0 := by
  obtain ⟨⟨k1, i0, i1, i2⟩, ⟨r3, l3⟩, ⟨r4, k4, n4⟩, ⟨r5, k5, n5⟩, ⟨r6, k6, n6⟩, s6, ⟨r7, k7, n7⟩, s7, ⟨r8, k8, n8⟩⟩ := hB
  refine ⟨⟨k1, ⟨r3, l3.1, l3.2.1⟩, ⟨r4, k4, n4⟩, ⟨r5, k5, n5⟩, ⟨r6, k6, n6⟩, fun i hi => ⟨(s6 i hi).1, (s6 i hi).2.1, (s6 i hi).2.2.1⟩, ⟨r7, k7, n7⟩, fun i hi => ⟨(s7 i hi).1, (s7 i hi).2.1, (s7 i hi).2.2.1⟩, ⟨r8, k8, n8⟩, fun k hk => ⟨(hY k hk).1, (hY k hk).2.1⟩⟩, ⟨⟨i0, i1, i2⟩, fun k hk => (hY k hk).2.2.1⟩, fun t ht q hq => (s6 _ (mul_lt hq ht)).2.cong (fun r => by simp), fun r hr => absurd hr (Nat.not_lt_zero r), l3.cong (fun r => by simp)⟩
/-- what filling stands on -/
def FB (S : MS) (b n c : Nat) : Prop := ALL S b n ∧ ALI S b n ∧ (∀ k, k < 3 → LA S (yk n b k + 4 + cl n k * pansK k) (Wn n) (fun _ => false)) ∧ S.K c = 13 ∧ S.N c = n
theorem FB.fi {lo hi b n c : Nat} {S S1 : MS} (h : FB S b n c) (f : Fi lo hi S S1) (hb : b < lo) (hh : hi ≤ b + 7 + 2 * (n * n)) : FB S1 b n c := ⟨f.all h.1, f.ali hb hh h.2.1, fun k hk => by have := yk_ge (n := n) (b := b) k; exact f.la (by omega) (h.2.2.1 k hk), by rw [f.1]; exact h.2.2.2.1, by rw [f.2.1]; exact h.2.2.2.2⟩
def HZ (S : MS) (b n s t : Nat) : Prop := ∀ s' t', s' < n → t' < n → (s < s' ∨ (s = s' ∧ t ≤ t')) → LA S (b+7+n*n+(s'*n+t')) (Wn n) (fun _ => false)
def HD (S : MS) (b n s t : Nat) : Prop := ∀ s' t', s' < n → t' < n → (s' < s ∨ (s = s' ∧ t' < t)) → LA S (b+7+n*n+(s'*n+t')) (Wn n) (inR n (hv n s' t'))
theorem kf_fill94 {d b n c : Nat} {Q : Out → MS → Prop} (hd : 4 ≤ d) (h3 : 3 ≤ n) (h7 : n ≤ 7) (hc : yk n b 3 ≤ c) : ∀ (q : Nat) {S : MS} {j : Nat}, j + q = 3 → FB S b n c → CT S b n (fct n) → HVd S b n → (∀ k, k < j → SE S (yk n b k) n k (cl n k) ∧ RSd S (yk n b k) n k (cl n k * pansK k)) → (∀ S', Fi (b+2) c S S' → FB S' b n c → CT S' b n (fct n) → HVd S' b n → (∀ k, k < 3 → SE S' (yk n b k) n k (cl n k) ∧ RSd S' (yk n b k) n k (cl n k * pansK k)) → Q (.inl none) S') → VX0_fill_94 d Q (q + 1) b (j : Nat) S := by
  intro q
  induction q with
  | zero =>
    intro S j hj hB hT hH hY h
    unfold VX0_fill_94
    have : j = 3 := by omega
    subst this
    exact ⟨⟨(by unfold R32; omega), (by unfold R32; omega)⟩, fun _ => h S Fi.rf hB hT hH hY, fun c => by omega⟩
  | succ q ih =>
    intro S j hj hB hT hH hY h
    have yg := yk_ge (n := n) (b := b) j
    have ym := yk_mono (n := n) (b := b) (show j < 3 by omega)
    obtain ⟨r8, k8, n8⟩ := hB.1.2.2.2.2.2.2.2.2.1
    obtain ⟨ry, ly⟩ := hB.1.2.2.2.2.2.2.2.2.2 j (by omega)
    unfold VX0_fill_94
    rw [Int.toNat_natCast]
    have hyk : ∀ k', k' < 3 → yk n b k' < yk n b j + 1 ∨ yk n b j + 3 ≤ yk n b k' := fun k' hk' => by
      rcases Nat.lt_trichotomy k' j with g | g | g
      · have := yk_mono (n := n) (b := b) g; omega
      · rw [g]; omega
      · have := yk_mono (n := n) (b := b) g; omega
    refine ⟨⟨(by unfold R32; omega), (by unfold R32; omega)⟩, fun c => by omega, fun _ => ⟨hB.1.1, b+1, r8, ⟨k8, by omega, by omega, by rw [n8]; omega⟩, _, ry, ly.1, k_fillSets (by omega) h3 h7 (by omega) ly (hB.2.1.2 j (by omega)) (fun S0 f0 E0 => oV_i ⟨by rw [f0.1]; exact hB.1.1, b+1, by rw [f0.2.2.1]; exact r8, ⟨by rw [f0.1]; exact k8, by omega, by omega, by rw [f0.2.1, n8]; omega⟩, _, by rw [f0.2.2.1]; exact ry, by rw [f0.1]; exact ly.1, k_fillRs (by omega) h3 h7 (show j < 3 by omega) yg (f0.all hB.1) ⟨by rw [f0.I (by omega)]; exact hB.2.1.1, fun k' hk' => ?_⟩ ⟨fun t' ht' q hq => by have := mul_lt hq ht'; exact f0.la (by omega) (hT.1 t' ht' q hq), by rw [f0.I (by omega)]; exact hT.2.1, f0.la (by omega) hT.2.2⟩ (fun s hs t' ht' => by have := mul_lt ht' hs; exact f0.la (by omega) (hH s hs t' ht')) (by unfold LYL; rw [f0.1, f0.2.1, f0.2.2.1]; exact ly) (by have := hB.2.1.2 j (by omega); unfold LYI at this ⊢; rw [f0.I (by omega)]; exact this) E0 (fun S1 f2 i2 R1 => oV_i ?_)⟩)⟩⟩
    · have := hB.2.1.2 k' hk'
      have g := hyk k' hk'
      unfold LYI at this ⊢
      rw [f0.I (by omega)]
      exact this
    · have f1 : Fi (yk n b j + 1) (yk n b j + 4 + cl n j * pansK j) S S1 := (f0.wk (by omega) (by omega)).tr (f2.wk (by omega) (by omega))
      have E1 : SE S1 (yk n b j) n j (cl n j) := by unfold SE; rw [i2]; exact E0
      have F1 : Fi (b+2) c S S1 := f1.wk (by omega) (by omega)
      refine ih (j := j + 1) (by omega) ⟨f1.all hB.1, ⟨by rw [f1.I (by omega)]; exact hB.2.1.1, fun k hk => ?_⟩, fun k hk => ?_, by rw [f1.1]; exact hB.2.2.2.1, by rw [f1.2.1]; exact hB.2.2.2.2⟩ ⟨fun t' ht' q hq => by have := mul_lt hq ht'; exact f1.la (by omega) (hT.1 t' ht' q hq), by rw [f1.I (by omega)]; exact hT.2.1, f1.la (by omega) hT.2.2⟩ (fun s hs t' ht' => by have := mul_lt ht' hs; exact f1.la (by omega) (hH s hs t' ht')) (fun k hk => ?_) (fun S' f2 => h S' (F1.tr f2))
      · have := hB.2.1.2 k hk
        unfold LYI at this ⊢
        rw [f1.I (by
          rcases Nat.lt_trichotomy k j with g | g | g
          · have := yk_mono (n := n) (b := b) g; omega
          · rw [g]; omega
          · have := yk_mono (n := n) (b := b) g; omega)]
        exact this
      · refine f1.la ?_ (hB.2.2.1 k hk)
        rcases Nat.lt_trichotomy k j with g | g | g
        · have := yk_mono (n := n) (b := b) g; omega
        · rw [g]; omega
        · have := yk_mono (n := n) (b := b) g; omega
      · by_cases g : k = j
        · subst g
          exact ⟨E1, R1⟩
        · obtain ⟨e1, e2⟩ := hY k (by omega)
          have ym' := yk_mono (n := n) (b := b) (show k < j by omega)
          refine ⟨?_, fun i hi j' hj' hlt => f1.la (by omega) (e2 i hi j' hj' hlt)⟩
          unfold SE at e1 ⊢
          rw [f1.I (by omega), f1.I (by omega)]
          exact e1
theorem kf_fill66 {d b n c s : Nat} {Q : Out → MS → Prop} {c56 : Nat → Int → MS → Prop} (hd : 1 ≤ d) (h3 : 3 ≤ n) (h7 : n ≤ 7) (hs : s < n) (hc : yk n b 3 ≤ c) : ∀ (q : Nat) {S : MS} {t : Nat}, t + q = n → FB S b n c → CT S b n (fct n) → HZ S b n s t → HD S b n s t → (∀ S', Fi (b+2) c S S' → FB S' b n c → CT S' b n (fct n) → HZ S' b n (s+1) 0 → HD S' b n (s+1) 0 → c56 b ((s : Int) + 1) S') → VX0_fill_66 d c56 Q (q + 1) b (s : Nat) (t : Nat) S := by
  have yg := yk_ge (n := n) (b := b) 3
  intro q
  induction q with
  | zero =>
    intro S t ht hB hT hZ hD h
    unfold VX0_fill_66
    rw [hB.2.1.1.1]
    exact ⟨hB.1.1, ⟨(by unfold R32; omega), (by unfold R32; omega)⟩, fun _ => h S Fi.rf hB hT (fun s' t' h1 h2 h4 => hZ s' t' h1 h2 (by omega)) (fun s' t' h1 h2 h4 => hD s' t' h1 h2 (by omega)), fun c => by omega⟩
  | succ q ih =>
    intro S t ht hB hT hZ hD h
    have mst := mul_lt (show t < n by omega) hs
    unfold VX0_fill_66
    rw [hB.2.1.1.1]
    refine ⟨hB.1.1, ⟨(by unfold R32; omega), (by unfold R32; omega)⟩, fun c => by omega, fun _ => ⟨hB.1.1, k_fillHeavier hd h3 h7 hs (show t < n by omega) rfl rfl hB.1 hB.2.1 hT (hZ s t hs (by omega) (by omega)) (fun S1 f1 L1 => oV_i ?_)⟩⟩
    have F1 : Fi (b+2) c S S1 := f1.wk (by omega) (by omega)
    refine ih (t := t + 1) (by omega) (hB.fi f1 (by omega) (by omega)) ⟨fun t' ht' q hq => by have := mul_lt hq ht'; exact f1.la (by omega) (hT.1 t' ht' q hq), by rw [f1.I (by omega)]; exact hT.2.1, f1.la (by omega) hT.2.2⟩ (fun s' t' h1 h2 h4 => ?_) (fun s' t' h1 h2 h4 => ?_) (fun S' f2 => h S' (F1.tr f2))
    · have ne : s' * n + t' ≠ s * n + t := fun e => by have := mul_inj h2 (show t < n by omega) e; omega
      exact f1.la (by omega) (hZ s' t' h1 h2 (by omega))
    · by_cases g : s' = s ∧ t' = t
      · obtain ⟨rfl, rfl⟩ := g
        exact L1
      · have ne : s' * n + t' ≠ s * n + t := fun e => g (mul_inj h2 (show t < n by omega) e)
        exact f1.la (by omega) (hD s' t' h1 h2 (by omega))
theorem kf_fill56 {d b n c : Nat} {Q : Out → MS → Prop} (hd : 4 ≤ d) (h3 : 3 ≤ n) (h7 : n ≤ 7) (hc : yk n b 3 ≤ c) : ∀ (q : Nat) {S : MS} {s : Nat}, s + q = n → FB S b n c → CT S b n (fct n) → HZ S b n s 0 → HD S b n s 0 → (∀ S', Fi (b+2) c S S' → FB S' b n c → CT S' b n (fct n) → HVd S' b n → (∀ k, k < 3 → SE S' (yk n b k) n k (cl n k) ∧ RSd S' (yk n b k) n k (cl n k * pansK k)) → Q (.inl none) S') → VX0_fill_56 d Q (q + 1) b (s : Nat) S := by
  intro q
  induction q with
  | zero =>
    intro S s hs hB hT hZ hD h
    unfold VX0_fill_56
    rw [hB.2.1.1.1]
    exact ⟨hB.1.1, ⟨(by unfold R32; omega), (by unfold R32; omega)⟩, fun _ => ⟨_, kf_fill94 hd h3 h7 hc 3 (j := 0) (by omega) hB hT (fun s' h1 t' h2 => hD s' t' h1 h2 (by omega)) (fun k hk => absurd hk (Nat.not_lt_zero k)) h⟩, fun c => by omega⟩
  | succ q ih =>
    intro S s hs hB hT hZ hD h
    unfold VX0_fill_56
    rw [hB.2.1.1.1]
    exact ⟨hB.1.1, ⟨(by unfold R32; omega), (by unfold R32; omega)⟩, fun c => by omega, fun _ => ⟨_, kf_fill66 (by omega) h3 h7 (show s < n by omega) hc n (t := 0) (by omega) hB hT hZ hD (fun S1 f1 B1 T1 Z1 D1 => ih (s := s + 1) (by omega) B1 T1 Z1 D1 (fun S' f2 => h S' (f1.tr f2)))⟩⟩
theorem Lk.cg {S : MS} {c n : Nat} {f g : Nat → Nat} (h : Lk S c n f) (e : ∀ p, p < n → f p = g p) : Lk S c n g := ⟨h.1, h.2.1, fun p hp => by rw [← e p hp]; exact h.2.2 p hp⟩
theorem kf_fill29 {d b n c : Nat} {Q : Out → MS → Prop} (hd : 4 ≤ d) (h3 : 3 ≤ n) (h7 : n ≤ 7) (hc : yk n b 3 ≤ c) : ∀ (q : Nat) {S : MS} {k : Nat}, k + q = fct n → FB S b n c → CT S b n k → Lk S c n (rat n k) → HZ S b n 0 0 → (∀ S', Fi (b+2) (c+1) S S' → FB S' b n c → CT S' b n (fct n) → HVd S' b n → (∀ k, k < 3 → SE S' (yk n b k) n k (cl n k) ∧ RSd S' (yk n b k) n k (cl n k * pansK k)) → Q (.inl none) S') → VX0_fill_29 d Q (q + 1) b c (k : Nat) S := by
  have hf := fct_le h3 h7
  have yg := yk_ge (n := n) (b := b) 3
  intro q
  induction q with
  | zero =>
    intro S k hk hB hT hL hZ h
    have : k = fct n := by omega
    subst this
    unfold VX0_fill_29
    rw [hB.2.1.1.2.1]
    exact ⟨hB.1.1, ⟨(by unfold R32; omega), (by unfold R32; omega)⟩, fun _ => ⟨_, kf_fill56 hd h3 h7 hc n (s := 0) (by omega) hB hT hZ (fun s' t' h1 h2 h4 => by omega) (fun S' f1 => h S' (f1.wk (by omega) (by omega)))⟩, fun c => by omega⟩
  | succ q ih =>
    intro S k hk hB hT hL hZ h
    unfold VX0_fill_29
    rw [hB.2.1.1.2.1]
    refine ⟨hB.1.1, ⟨(by unfold R32; omega), (by unfold R32; omega)⟩, fun c => by omega, fun _ => ⟨hB.1.1, k_putRow (by omega) h3 h7 (show k < fct n by omega) (by omega) rfl hB.1 hB.2.1 hL hT (fun S1 f1 T1 => oV_i ?_)⟩⟩
    have B1 := hB.fi f1 (by omega) (by omega)
    have L1 : Lk S1 c n (rat n k) := ⟨by rw [f1.1]; exact hL.1, by rw [f1.2.1]; exact hL.2.1, by rw [f1.I (by omega)]; exact hL.2.2⟩
    refine ⟨B1.1.1, k_turnToNext (by omega) h3 h7 B1.1.1 B1.2.1.1.1 (by omega) L1 (fun p hp => by have := rat_lt h3 h7 (show k < fct n by omega) hp; omega) (fun S2 f2 L2 => oV_i ?_)⟩
    have B2 : FB S2 b n c := ⟨f2.all B1.1, ⟨by rw [f2.I (by omega)]; exact B1.2.1.1, fun k' hk' => by
      have := B1.2.1.2 k' hk'
      have ym := yk_mono (n := n) (b := b) hk'
      unfold LYI at this ⊢
      rw [f2.I (by omega)]
      exact this⟩, fun k' hk' => by have ym := yk_mono (n := n) (b := b) hk'; exact f2.la (by omega) (B1.2.2.1 k' hk'), by rw [f2.1]; exact B1.2.2.2.1, by rw [f2.2.1]; exact B1.2.2.2.2⟩
    have F12 : Fi (b+2) (c+1) S S2 := (f1.wk (by omega) (by omega)).tr (f2.wk (by omega) (by omega))
    refine ih (k := k + 1) (by omega) B2 ⟨fun t' ht' q hq => by have := mul_lt hq ht'; exact f2.la (by omega) (T1.1 t' ht' q hq), by rw [f2.I (by omega)]; exact T1.2.1, f2.la (by omega) T1.2.2⟩ (L2.cg (fun p hp => (rat_s (by omega) hp).symm)) (fun s' t' h1 h2 h4 => ?_) (fun S' f3 => h S' (F12.tr f3))
    have := mul_lt h2 h1
    exact f2.la (by omega) (f1.la (by omega) (hZ s' t' h1 h2 h4))
theorem kf_fill9 {d b n c : Nat} {Q : Out → MS → Prop} (hd : 4 ≤ d) (h3 : 3 ≤ n) (h7 : n ≤ 7) (hc : yk n b 3 ≤ c) : ∀ (q : Nat) {S : MS} {t : Nat}, t + q = n → FB S b n c → CT S b n 0 → (∀ u, u < t → S.I c u = (u : Int)) → HZ S b n 0 0 → (∀ S', Fi (b+2) (c+1) S S' → FB S' b n c → CT S' b n (fct n) → HVd S' b n → (∀ k, k < 3 → SE S' (yk n b k) n k (cl n k) ∧ RSd S' (yk n b k) n k (cl n k * pansK k)) → Q (.inl none) S') → VX0_fill_9 d Q (q + 1) b c (t : Nat) S := by
  have yg := yk_ge (n := n) (b := b) 3
  intro q
  induction q with
  | zero =>
    intro S t ht hB hT hz hZ h
    unfold VX0_fill_9
    rw [hB.2.1.1.1]
    exact ⟨hB.1.1, ⟨(by unfold R32; omega), (by unfold R32; omega)⟩, fun _ => ⟨_, kf_fill29 hd h3 h7 hc (fct n) (k := 0) (by omega) hB hT ⟨hB.2.2.2.1, hB.2.2.2.2, fun p hp => by rw [hz p (by omega), rat_0 (by omega) hp]⟩ hZ h⟩, fun c => by omega⟩
  | succ q ih =>
    intro S t ht hB hT hz hZ h
    have f1 : Fi c (c+1) S (S.setI c t (t : Int)) := Fi.sI (by omega)
    have F1 : Fi (b+2) (c+1) S (S.setI c t (t : Int)) := Fi.sI (by omega)
    unfold VX0_fill_9
    rw [hB.2.1.1.1, Int.toNat_natCast]
    refine ⟨hB.1.1, ⟨(by unfold R32; omega), (by unfold R32; omega)⟩, fun c => by omega, fun _ => ⟨⟨hB.2.2.2.1, by omega, by rw [hB.2.2.2.2]; omega⟩, ih (t := t + 1) (by omega) ⟨f1.all hB.1, ⟨by rw [f1.I (by omega)]; exact hB.2.1.1, fun k' hk' => ?_⟩, fun k' hk' => hB.2.2.1 k' hk', hB.2.2.2.1, hB.2.2.2.2⟩ ⟨fun t' ht' q hq => hT.1 t' ht' q hq, by rw [f1.I (by omega)]; exact hT.2.1, hT.2.2⟩ (fun u hu => ?_) (fun s' t' h1 h2 h4 => hZ s' t' h1 h2 h4) (fun S' f2 => h S' (F1.tr f2))⟩⟩
    · have := hB.2.1.2 k' hk'
      have ym := yk_mono (n := n) (b := b) hk'
      unfold LYI at this ⊢
      rw [f1.I (by omega)]
      exact this
    · rw [sI_I]
      by_cases g : u = t
      · rw [if_pos ⟨rfl, g⟩, g]
      · rw [if_neg (fun z => g z.2)]
        exact hz u (by omega)
/-- filled, they are all rows -/
theorem ar_of {S : MS} {b n c : Nat} (hB : FB S b n c) (hT : CT S b n (fct n)) (hH : HVd S b n) (hY : ∀ k, k < 3 → SE S (yk n b k) n k (cl n k) ∧ RSd S (yk n b k) n k (cl n k * pansK k)) : AR S b n b (yk n b 3) (b+4) := by
  have yg := yk_ge (n := n) (b := b) 3
  obtain ⟨k1, ⟨r3, k3, n3⟩, ⟨r4, k4, n4⟩, ⟨r5, k5, n5⟩, ⟨r6, k6, n6⟩, s6, ⟨r7, k7, n7⟩, s7, ⟨r8, k8, n8⟩, sy⟩ := hB.1
  refine ⟨⟨k1, by omega, hB.2.1.1.1, hB.2.1.1.2.1, hB.2.1.1.2.2⟩, ⟨b+2, r3, by omega, hT.2.2.cong (fun r => by unfold inR; simp)⟩, ⟨b+3, r4, by omega, by omega, k4, n4, hT.2.1⟩, ⟨r5, by omega, k5, n5⟩, ⟨b+5, r6, ⟨k6, by omega, by omega⟩, n6, fun t ht p hp => ?_⟩, ⟨b+6+n*n, r7, ⟨k7, by omega, by omega⟩, n7, fun s hs t ht => ?_⟩, ⟨b+1, r8, ⟨k8, by omega, by omega⟩, n8, fun k hk => ⟨yk n b k, (sy k hk).1, ?_⟩⟩⟩
  · have := mul_lt hp ht
    exact ⟨_, (s6 _ this).1, by omega, hT.1 t ht p hp⟩
  · have := mul_lt ht hs
    exact ⟨_, (s7 _ this).1, by omega, hH s hs t ht⟩
  · obtain ⟨l1, ⟨l2, l2k, l2n⟩, ⟨l3, l3k, l3n⟩, ⟨l4, l4k, l4n⟩, l5, ⟨l6, l6k, l6n⟩⟩ := (sy k hk).2
    obtain ⟨e1, e2⟩ := hY k hk
    obtain ⟨i0, i4, i5⟩ := hB.2.1.2 k hk
    have yg' := yk_ge (n := n) (b := b) k
    have ym := yk_mono (n := n) (b := b) hk
    refine ⟨⟨l1, by omega, i0, i4, i5⟩, ⟨yk n b k + 1, l2, by omega, by omega, l2k, l2n, e1.1⟩, ⟨yk n b k + 2, l3, by omega, by omega, l3k, l3n, e1.2⟩, ⟨yk n b k + 3, l4, ⟨l4k, by omega, by omega⟩, l4n, fun i hi j hj => ?_⟩, ⟨yk n b k + 4 + cl n k * pansK k, l6, by omega, hB.2.2.1 k hk⟩⟩
    have := mul_lt hj (show i < cl n k from hi)
    exact ⟨_, (l5 _ this).1, by omega, e2 i hi j hj this⟩
theorem k_fillA {d b n : Nat} {S : MS} {Q : Out → MS → Prop} (hd : 5 ≤ d) (h3 : 3 ≤ n) (h7 : n ≤ 7) (hB : AB S b n) (hY : YB S b n 3) (hx : S.nx = yk n b 3) (h : ∀ S', Fo (b+2) S S' → AR S' b n b (yk n b 3) (b+4) → S'.nx = yk n b 3 + 1 → S'.us = S.us + n → Q (.inl none) S') : Mw hX0_fill yX0_fill d [vA b] S Q := by
  have yg := yk_ge (n := n) (b := b) 3
  have f0 : Fo (yk n b 3) S (S.mk 13 n) := Fo.mk (by omega)
  have B0 := hB.fo f0 (by omega)
  have Y0 : YB (S.mk 13 n) b n 3 := fun k hk => by
    have ym := yk_mono (n := n) (b := b) hk
    obtain ⟨y1, y2, y3, y4⟩ := hY k hk
    exact ⟨by rw [(f0.2 (b+1) (by omega)).2.2.2.2]; exact y1, lyl_fo f0 (by omega) y2, lyi_fo f0 (by omega) y3, lyz_fo f0 (by omega) y4⟩
  obtain ⟨A0, I0, T0⟩ := all_of B0 Y0
  obtain ⟨dd, rfl⟩ : ∃ e, d = e + 1 := ⟨d - 1, by omega⟩
  refine MX0_fill ?_
  unfold VX0_fill_0
  rw [hB.1.2.1, Int.toNat_natCast, hx]
  refine ⟨hB.1.1, ⟨by omega, by omega⟩, n + 1, ?_⟩
  refine kf_fill9 (c := yk n b 3) (by omega) h3 h7 (Nat.le_refl _) n (t := 0) (by omega) ⟨A0, I0, fun k hk => (Y0 k hk).2.2.2 _ (by omega), by rw [mkK_ hx, if_pos rfl], by rw [mkN_ hx, if_pos rfl]⟩ T0 (fun u hu => absurd hu (Nat.not_lt_zero u)) (fun s' t' h1 h2 h4 => (B0.2.2.2.2.2.2.2.1 _ (mul_lt h2 h1)).2) (fun S' f1 B1 T1 H1 Y1 => h S' ((f0.wk (by omega)).tr (f1.fo (Nat.le_refl _))) (ar_of B1 T1 H1 Y1) ?_ ?_)
  · rw [f1.2.2.2.2.1]
    show S.nx + 1 = _
    omega
  · rw [f1.2.2.2.2.2.1]
    rfl
