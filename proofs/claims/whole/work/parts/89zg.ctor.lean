/-! constructors -/
/-- an array is made and put into a field -/
def Mk (o k n x0 f : Nat) (S S' : MS) : Prop := (∀ a, a ≠ o → S'.K a = S.K a ∧ S'.N a = S.N a ∧ S'.I a = S.I a ∧ S'.J a = S.J a ∧ (a ≠ x0 → S'.R a = S.R a)) ∧ (S'.K o = k ∧ S'.N o = n ∧ S'.I o = (fun _ => 0) ∧ S'.J o = (fun _ => 0#64) ∧ S'.R o = (fun _ => none)) ∧ (S'.R x0 f = some o ∧ ∀ j, j ≠ f → S'.R x0 j = S.R x0 j) ∧ S'.T = S.T ∧ S'.nx = o + 1 ∧ S'.us = S.us + n
theorem Mk.of {S : MS} {o k n x0 f : Nat} (hx : S.nx = o) (h : x0 ≠ o) : Mk o k n x0 f S ((S.mk k n).setR x0 f (some S.nx)) := by
  refine ⟨fun a ha => ⟨?_, ?_, ?_, ?_, fun hx0 => ?_⟩, ⟨?_, ?_, ?_, ?_, ?_⟩, ⟨?_, fun j hj => ?_⟩, rfl, by show S.nx + 1 = _; omega, rfl⟩
  · rw [sR_K, mkK_ hx, if_neg ha]
  · rw [sR_N, mkN_ hx, if_neg ha]
  · rw [sR_I, mkI_ hx, if_neg ha]
  · rw [sR_J, mkJ_ hx, if_neg ha]
  · rw [sR_Ra hx0, mkR_ hx, if_neg ha]
  · rw [sR_K, mkK_ hx, if_pos rfl]
  · rw [sR_N, mkN_ hx, if_pos rfl]
  · rw [sR_I, mkI_ hx, if_pos rfl]
  · rw [sR_J, mkJ_ hx, if_pos rfl]
  · rw [sR_Ra (fun z => h z.symm), mkR_ hx, if_pos rfl]
  · rw [sR_R, if_pos ⟨rfl, rfl⟩, hx]
  · rw [sR_R, if_neg (fun z => hj z.2), mkR_ hx, if_neg h]
theorem mk_kx {S : MS} {o k n x0 q : Nat} (hx : S.nx = o) (h : x0 ≠ o) (hK : S.K x0 = q) : (S.mk k n).K x0 = q := by rw [mkK_ hx, if_neg h]; exact hK
theorem Mk.kx {S S' : MS} {o k n x0 f q : Nat} (m : Mk o k n x0 f S S') (h : x0 ≠ o) (hK : S.K x0 = q) : S'.K x0 = q := by rw [(m.1 x0 h).1]; exact hK
theorem Mk.nx {S S' : MS} {o k n x0 f : Nat} (m : Mk o k n x0 f S S') : S'.nx = o + 1 := m.2.2.2.2.1
def MkL (x0 : Nat) : List (Nat × Nat × Nat) → Nat → MS → MS → Prop
  | [], _, S, S' => S' = S
  | (f, k, n) :: L, o, S, S' => ∃ S1, Mk o k n x0 f S S1 ∧ MkL x0 L (o + 1) S1 S'
theorem MkL.fr {x0 : Nat} : ∀ {L : List (Nat × Nat × Nat)} {o : Nat} {S S' : MS}, MkL x0 L o S S' → (∀ a, a < o → S'.K a = S.K a ∧ S'.N a = S.N a ∧ S'.I a = S.I a ∧ S'.J a = S.J a ∧ (a ≠ x0 → S'.R a = S.R a)) ∧ S'.T = S.T ∧ (∀ j, j ∉ L.map (fun q => q.1) → S'.R x0 j = S.R x0 j)
  | [], o, S, S', h => by
    have h' : S' = S := h
    subst h'
    exact ⟨fun _ _ => ⟨rfl, rfl, rfl, rfl, fun _ => rfl⟩, rfl, fun _ _ => rfl⟩
  | (f, k, n) :: L, o, S, S', h => by
    obtain ⟨S1, m, r⟩ := h
    obtain ⟨a1, a2, a3⟩ := MkL.fr r
    refine ⟨fun a ha => ?_, a2.trans m.2.2.2.1, fun j hj => ?_⟩
    · obtain ⟨b1, b2, b3, b4, b5⟩ := a1 a (by omega)
      obtain ⟨c1, c2, c3, c4, c5⟩ := m.1 a (by omega)
      exact ⟨b1.trans c1, b2.trans c2, b3.trans c3, b4.trans c4, fun z => (b5 z).trans (c5 z)⟩
    · rw [List.map_cons, List.mem_cons, not_or] at hj
      rw [a3 j hj.2, m.2.2.1.2 j hj.1]
theorem MkL.out {x0 : Nat} : ∀ {L : List (Nat × Nat × Nat)} {o : Nat} {S S' : MS}, MkL x0 L o S S' → x0 < o → S.nx = o → (L.map (fun q => q.1)).Nodup → (∀ i q, L[i]? = some q → (S'.K (o + i) = q.2.1 ∧ S'.N (o + i) = q.2.2 ∧ S'.I (o + i) = (fun _ => 0) ∧ S'.J (o + i) = (fun _ => 0#64) ∧ S'.R (o + i) = (fun _ => none)) ∧ S'.R x0 q.1 = some (o + i)) ∧ S'.nx = o + L.length ∧ S'.us = S.us + (L.map (fun q => q.2.2)).sum
  | [], o, S, S', h, h0, hx, hn => by
    have h' : S' = S := h
    subst h'
    exact ⟨fun i q z => by simp at z, hx, rfl⟩
  | (f, k, n) :: L, o, S, S', h, h0, hx, hn => by
    obtain ⟨S1, m, r⟩ := h
    rw [List.map_cons, List.nodup_cons] at hn
    obtain ⟨b1, b2, b3⟩ := MkL.out r (by omega) m.nx hn.2
    obtain ⟨a1, a2, a3⟩ := MkL.fr r
    refine ⟨fun i q hq => ?_, by rw [b2, List.length_cons]; omega, by rw [b3, m.2.2.2.2.2, List.map_cons, List.sum_cons]; exact Nat.add_assoc _ _ _⟩
    cases i with
    | zero =>
      rw [List.getElem?_cons_zero] at hq
      obtain rfl := Option.some.inj hq
      obtain ⟨c1, c2, c3, c4, c5⟩ := a1 o (by omega)
      obtain ⟨d1, d2, d3, d4, d5⟩ := m.2.1
      refine ⟨⟨c1.trans d1, c2.trans d2, c3.trans d3, c4.trans d4, (c5 (by omega)).trans d5⟩, ?_⟩
      rw [a3 f hn.1]
      exact m.2.2.1.1
    | succ i =>
      rw [List.getElem?_cons_succ] at hq
      have := b1 i q hq
      rw [show o + (i + 1) = o + 1 + i by omega]
      exact this
theorem k_i8 {d a : Nat} {S : MS} {Q : Out → MS → Prop} (hd : 1 ≤ d) (hK : S.K a = 8) (hx : S.nx = a + 1) (h : ∀ S', Fo a S S' → TY S' a → S'.I a 1 = 0 → S'.nx = a + 2 → S'.us = S.us + 400 → Q (.inl none) S') : Mw hX8_init yX8_init d [vA a] S Q := by
  obtain ⟨dd, rfl⟩ : ∃ e, d = e + 1 := ⟨d - 1, by omega⟩
  refine MX8_init ?_
  unfold VX8_init_0
  simp only [Int.reduceToNat]
  have m := Mk.of (k := 13) (n := 400) (f := 0) hx (show a ≠ a + 1 by omega)
  refine ⟨⟨by decide, by decide⟩, mk_kx hx (by omega) hK, m.kx (by omega) hK, h _ ⟨rfl, fun b hb => ?_⟩ ⟨m.kx (by omega) hK, m.2.2.1.1, m.2.1.1, m.2.1.2.1⟩ ?_ m.nx m.2.2.2.2.2⟩
  · obtain ⟨c1, c2, c3, c4, c5⟩ := m.1 b (by omega)
    exact ⟨c1, c2, by rw [sI_Ia (by omega)]; exact c3, c4, c5 (by omega)⟩
  · rw [sI_I, if_pos ⟨rfl, rfl⟩]
def w00 : Nat → Int := fun q => if q = 0 then 3 else 0
theorem w00_s : sN w00 = 0 := rfl
theorem w00_n : nN w00 = 0 := rfl
theorem gw00 : GW 3 w00 := by
  refine ⟨⟨by decide, by decide, rfl⟩, ⟨by rw [w00_s]; rfl, by rw [w00_s]; decide⟩, ⟨by rw [w00_n]; rfl, by rw [w00_n]; decide⟩, ⟨by decide, by decide⟩, fun t ht => ?_, fun s hs => ?_, fun i hi => ?_⟩
  · unfold w00; rw [if_neg (by omega)]; decide
  · rw [w00_s] at hs; omega
  · rw [w00_n] at hi; omega
theorem k_i7 {d s : Nat} {S : MS} {Q : Out → MS → Prop} (hd : 1 ≤ d) (hK : S.K s = 7) (hx : S.nx = s + 1) (h : ∀ S', Fo s S S' → SS S' s 3 w00 → S'.nx = s + 8 → S'.us = S.us + 67 → Q (.inl none) S') : Mw hX7_init yX7_init d [vA s] S Q := by
  obtain ⟨dd, rfl⟩ : ∃ e, d = e + 1 := ⟨d - 1, by omega⟩
  refine MX7_init ?_
  unfold VX7_init_0
  simp only [Int.reduceToNat]
  have m1 := Mk.of (k := 13) (n := 7) (f := 0) hx (show s ≠ s + 1 by omega)
  have k1 := m1.kx (by omega) hK
  have m2 := Mk.of (k := 13) (n := 4) (x0 := s) (f := 1) m1.nx (by omega)
  have k2 := m2.kx (by omega) k1
  refine ⟨⟨by decide, by decide⟩, mk_kx hx (by omega) hK, ⟨by decide, by decide⟩, mk_kx m1.nx (by omega) k1, fun S1 e1 => ?_⟩
  rw [← e1] at m2 k2
  have m3 := Mk.of (k := 13) (n := 4) (x0 := s) (f := 2) m2.nx (by omega)
  have k3 := m3.kx (by omega) k2
  have m4 := Mk.of (k := 13) (n := 4) (x0 := s) (f := 3) m3.nx (by omega)
  have k4 := m4.kx (by omega) k3
  refine ⟨⟨by decide, by decide⟩, mk_kx m2.nx (by omega) k2, ⟨by decide, by decide⟩, mk_kx m3.nx (by omega) k3, fun S2 e2 => ?_⟩
  rw [← e2] at m4 k4
  have m5 := Mk.of (k := 13) (n := 16) (x0 := s) (f := 4) m4.nx (by omega)
  have k5 := m5.kx (by omega) k4
  have m6 := Mk.of (k := 13) (n := 16) (x0 := s) (f := 5) m5.nx (by omega)
  have k6 := m6.kx (by omega) k5
  refine ⟨⟨by decide, by decide⟩, mk_kx m4.nx (by omega) k4, ⟨by decide, by decide⟩, mk_kx m5.nx (by omega) k5, fun S3 e3 => ?_⟩
  rw [← e3] at m6 k6
  have m7 := Mk.of (k := 13) (n := 16) (x0 := s) (f := 6) m6.nx (by omega)
  have k7 := m7.kx (by omega) k6
  refine ⟨⟨by decide, by decide⟩, mk_kx m6.nx (by omega) k6, k7, k7, k7, fun S4 e4 => ⟨by rw [e4]; exact k7, ?_⟩⟩
  have M : MkL s [(0, 13, 7), (1, 13, 4), (2, 13, 4), (3, 13, 4), (4, 13, 16), (5, 13, 16), (6, 13, 16)] (s + 1) S _ := ⟨_, m1, _, m2, _, m3, _, m4, _, m5, _, m6, _, m7, rfl⟩
  obtain ⟨c, cx, cu⟩ := M.out (by omega) hx (by decide)
  obtain ⟨fa, ft, -⟩ := M.fr
  have c0 := c 0 _ rfl
  have c1 := c 1 _ rfl
  have c2 := c 2 _ rfl
  have c3 := c 3 _ rfl
  have c4 := c 4 _ rfl
  have c5 := c 5 _ rfl
  have c6 := c 6 _ rfl
  have fi : Fi s (s+1) ((S3.mk 13 16).setR s 6 (some S3.nx)) (S4.setI s 10 0) := by
    rw [e4]
    exact (Fi.sI (by omega)).tr ((Fi.sI (by omega)).tr ((Fi.sI (by omega)).tr (Fi.sI (by omega))))
  refine h _ ⟨fi.2.2.2.1.trans ft, fun b hb => ?_⟩ ⟨fi.sy ⟨k7, ⟨c0.2, c1.2, c2.2, c3.2, c4.2, c5.2, c6.2⟩, ⟨c0.1.1, c1.1.1, c2.1.1, c3.1.1, c4.1.1, c5.1.1, c6.1.1⟩, c0.1.2.1, c1.1.2.1, c2.1.2.1, c3.1.2.1, c4.1.2.1, c5.1.2.1, c6.1.2.1⟩, ⟨⟨?_, ?_, ?_, ?_⟩, fun t ht => ?_, fun i hi => ?_, fun i hi => ?_⟩, gw00⟩ (fi.2.2.2.2.1.trans cx) (fi.2.2.2.2.2.1.trans cu)
  · obtain ⟨d1, d2, d3, d4, d5⟩ := fa b (by omega)
    exact ⟨by rw [fi.1]; exact d1, by rw [fi.2.1]; exact d2, by rw [fi.I (by omega)]; exact d3, by rw [fi.J (by omega)]; exact d4, by rw [fi.2.2.1]; exact d5 (by omega)⟩
  · rw [e4, sI_I, if_neg (by omega), sI_I, if_neg (by omega), sI_I, if_neg (by omega), sI_I, if_pos ⟨rfl, rfl⟩]; rfl
  · rw [e4, sI_I, if_neg (by omega), sI_I, if_neg (by omega), sI_I, if_pos ⟨rfl, rfl⟩]; rfl
  · rw [e4, sI_I, if_neg (by omega), sI_I, if_pos ⟨rfl, rfl⟩]; rfl
  · rw [sI_I, if_pos ⟨rfl, rfl⟩]; rfl
  · rw [fi.I (by omega)]
    have := c0.1.2.2.1
    rw [Nat.add_zero] at this
    rw [this]
    unfold w00
    rw [if_neg (by omega)]
  · rw [w00_s] at hi; omega
  · rw [w00_n] at hi; omega
theorem lvs_no : lvs (fun _ => false) 79 = [] := by
  have := lvs_tail (p := fun _ => false) (k := 0) 79 (fun w _ _ => wdv_no w)
  rw [Nat.zero_add] at this
  rw [this]
  rfl
theorem k_i5 {d a : Nat} {S : MS} {Q : Out → MS → Prop} (hd : 1 ≤ d) (hK : S.K a = 5) (hx : S.nx = a + 1) (h : ∀ S', Fo a S S' → RS_ S' a (fun _ => false) → S'.nx = a + 3 → S'.us = S.us + 158 → Q (.inl none) S') : Mw hX5_init yX5_init d [vA a] S Q := by
  obtain ⟨dd, rfl⟩ : ∃ e, d = e + 1 := ⟨d - 1, by omega⟩
  refine MX5_init ?_
  unfold VX5_init_0
  simp only [Int.reduceToNat]
  have hx' : (S.setI a 0 0).nx = a + 1 := hx
  have hK' : (S.setI a 0 0).K a = 5 := hK
  have m1 := Mk.of (k := 14) (n := 79) (x0 := a) (f := 1) hx' (by omega)
  have k1 := m1.kx (by omega) hK'
  have m2 := Mk.of (k := 13) (n := 79) (x0 := a) (f := 2) m1.nx (by omega)
  have k2 := m2.kx (by omega) k1
  refine ⟨hK, ⟨by decide, by decide⟩, mk_kx hx' (by omega) hK', ⟨by decide, by decide⟩, fun S1 e1 => ⟨by rw [e1]; exact mk_kx m1.nx (by omega) k1, fun S2 e2 => ?_⟩⟩
  rw [e1] at e2
  rw [← e2] at m2 k2
  have M : MkL a [(1, 14, 79), (2, 13, 79)] (a + 1) (S.setI a 0 0) S2 := ⟨_, m1, _, m2, rfl⟩
  obtain ⟨c, cx, cu⟩ := M.out (by omega) hx' (by decide)
  obtain ⟨fa, ft, -⟩ := M.fr
  have c0 := c 0 _ rfl
  have c1 := c 1 _ rfl
  refine ⟨k2, h _ ⟨ft, fun b hb => ?_⟩ ⟨⟨k2, c0.2, c1.2, c0.1.1, c0.1.2.1, c1.1.1, c1.1.2.1⟩, fun w hw => ?_, ?_, fun i hi => ?_, ?_⟩ cx cu⟩
  · obtain ⟨d1, d2, d3, d4, d5⟩ := fa b (by omega)
    exact ⟨d1, d2, by rw [sI_Ia (by omega), d3, sI_Ia (by omega)], d4, d5 (by omega)⟩
  · have := c0.1.2.2.2.1
    rw [Nat.add_zero] at this
    rw [sI_J, this, wdv_no]
  · rw [sI_I, if_pos ⟨rfl, rfl⟩, lvs_no]; rfl
  · rw [lvs_no] at hi
    exact absurd hi (Nat.not_lt_zero i)
  · rw [sI_I, if_neg (by omega), (fa a (by omega)).2.2.1, sI_I, if_pos ⟨rfl, rfl⟩, cntB_0 (fun k _ => rfl)]; rfl
theorem k_i1 {d a : Nat} {S : MS} {Q : Out → MS → Prop} (hd : 1 ≤ d) (hK : S.K a = 1) (hx : S.nx = a + 1) (h : ∀ S', Fo a S S' → FT S' a → S'.nx = a + 18 → S'.us = S.us + 16 → Q (.inl none) S') : Mw hX1_init yX1_init d [vA a] S Q := by
  obtain ⟨dd, rfl⟩ : ∃ e, d = e + 1 := ⟨d - 1, by omega⟩
  refine MX1_init ?_
  unfold VX1_init_0
  simp only [Int.reduceToNat]
  have kk : (S.mk2 16 0).K a = 1 := by
    rw [mk2K_ hx]
    repeat (first | rw [if_pos (by omega)] | rw [if_neg (by omega)])
    exact hK
  refine ⟨⟨⟨by decide, by decide⟩, by decide, by decide⟩, kk, h _ ?_ ⟨kk, ?_, ?_, ?_⟩ (by show S.nx + 1 + 16 = _; omega) (by show S.us + 16 + 16 * 0 = _; omega)⟩
  · exact (Fo.mk2 (o := a) (by omega)).tr (Fo.sR (Nat.le_refl _))
  · rw [sR_R, if_pos ⟨rfl, rfl⟩, hx]
  · rw [sR_K, mk2K_ hx, if_pos rfl]
  · rw [sR_N, mk2N_ hx, if_pos rfl]
theorem k_i9 {d a : Nat} {S : MS} {Q : Out → MS → Prop} (hd : 1 ≤ d) (hK : S.K a = 9) (h : ∀ S', Fi a (a+1) S S' → Q (.inl none) S') : Mw hX9_init yX9_init d [vA a] S Q := by
  obtain ⟨dd, rfl⟩ : ∃ e, d = e + 1 := ⟨d - 1, by omega⟩
  refine MX9_init ?_
  unfold VX9_init_0
  exact ⟨hK, hK, ⟨hK, b01_1⟩, h _ ((Fi.sI (by omega)).tr ((Fi.sI (by omega)).tr (Fi.sI (by omega))))⟩
theorem k_i3 {d a : Nat} {S : MS} {Q : Out → MS → Prop} (hd : 1 ≤ d) (hK : S.K a = 3) (h : ∀ S', Fi a (a+1) S S' → Q (.inl none) S') : Mw hX3_init yX3_init d [vA a] S Q := by
  obtain ⟨dd, rfl⟩ : ∃ e, d = e + 1 := ⟨d - 1, by omega⟩
  refine MX3_init ?_
  unfold VX3_init_0
  exact ⟨hK, h _ (Fi.sI (by omega))⟩
theorem k_i6 {d a : Nat} {S : MS} {Q : Out → MS → Prop} (hd : 1 ≤ d) (hK : S.K a = 6) (hx : S.nx = a + 1) (h : ∀ S', Fo a S S' → QY S' a → S'.nx = a + 2 → S'.us = S.us + 7 → Q (.inl none) S') : Mw hX6_init yX6_init d [vA a] S Q := by
  obtain ⟨dd, rfl⟩ : ∃ e, d = e + 1 := ⟨d - 1, by omega⟩
  refine MX6_init ?_
  unfold VX6_init_0
  simp only [Int.reduceToNat]
  have m := Mk.of (k := 13) (n := 7) (f := 0) hx (show a ≠ a + 1 by omega)
  refine ⟨⟨by decide, by decide⟩, mk_kx hx (by omega) hK, m.kx (by omega) hK, h _ ⟨rfl, fun b hb => ?_⟩ ⟨m.kx (by omega) hK, m.2.2.1.1, m.2.1.1, m.2.1.2.1⟩ m.nx m.2.2.2.2.2⟩
  obtain ⟨c1, c2, c3, c4, c5⟩ := m.1 b (by omega)
  exact ⟨c1, c2, by rw [sI_Ia (by omega)]; exact c3, c4, c5 (by omega)⟩
theorem ty_sm {a : Nat} {S S' : MS} (f : Sm a (a+2) S S') (h : TY S a) : TY S' a := by
  have a1 := f a (by omega) (by omega)
  have a2 := f (a+1) (by omega) (by omega)
  unfold TY at h ⊢
  rw [a1.1, a1.2.2.2.2, a2.1, a2.2.1]
  exact h
theorem k_i4 {d g : Nat} {S : MS} {Q : Out → MS → Prop} (hd : 2 ≤ d) (hK : S.K g = 4) (hx : S.nx = g + 1) (h : ∀ S', Fo g S S' → (S'.K g = 4 ∧ S'.R g 0 = some (g+1) ∧ S'.R g 1 = some (g+3)) → TY S' (g+1) → S'.I (g+1) 1 = 0 → SY S' (g+3) → S'.nx = g + 11 → S'.us = S.us + 480 → Q (.inl none) S') : Mw hX4_init yX4_init d [vA g] S Q := by
  obtain ⟨dd, rfl⟩ : ∃ e, d = e + 1 := ⟨d - 1, by omega⟩
  refine MX4_init ?_
  unfold VX4_init_0
  rw [hx]
  have hx1 : (S.mk 8 2).nx = g + 1 + 1 := by show S.nx + 1 = _; omega
  have kk : (S.mk 8 2).K g = 4 := mk_kx hx (by omega) hK
  refine k_i8 (a := g + 1) (by omega) (by rw [mkK_ hx, if_pos rfl]) hx1 (fun S1 f1 t1 z1 n1 u1 => oV_i ?_)
  have k1 : S1.K g = 4 := by rw [(f1.2 g (by omega)).1]; exact kk
  have n1' : (S1.setR g 0 (some (g + 1))).nx = g + 3 := n1
  rw [n1']
  refine ⟨k1, k_i7 (s := g + 3) (by omega) (by rw [mkK_ n1', if_pos rfl]) (by show S1.nx + 1 = _; omega) (fun S2 f2 s2 n2 u2 => oV_i ?_)⟩
  have k2 : S2.K g = 4 := by rw [(f2.2 g (by omega)).1]; exact mk_kx n1' (by omega) k1
  have r2 : S2.R g 0 = some (g + 1) := by rw [(f2.2 g (by omega)).2.2.2.2, mkR_ n1', if_neg (by omega), sR_R, if_pos ⟨rfl, rfl⟩]
  refine ⟨k2, k2, k2, k2, fun S3 e3 => ⟨by rw [e3]; exact k2, ?_⟩⟩
  have fe : ∀ a, a ≠ g → (S3.setI g 5 (-1)).K a = S2.K a ∧ (S3.setI g 5 (-1)).N a = S2.N a ∧ (S3.setI g 5 (-1)).I a = S2.I a ∧ (S3.setI g 5 (-1)).J a = S2.J a ∧ (S3.setI g 5 (-1)).R a = S2.R a := fun a ha => by
    rw [e3]
    exact ⟨rfl, rfl, by rw [sI_Ia ha, sI_Ia ha, sI_Ia ha, sI_Ia ha, sR_I], rfl, by rw [sI_R, sI_R, sI_R, sI_R, sR_Ra ha]⟩
  have s1 : Sm (g+1) (g+3) S1 (S3.setI g 5 (-1)) := fun a h1 h2 => by
    obtain ⟨a1, a2, a3, a4, a5⟩ := fe a (by omega)
    obtain ⟨b1, b2, b3, b4, b5⟩ := f2.2 a (by omega)
    rw [a1, a2, a3, a4, a5, b1, b2, b3, b4, b5, mkK_ n1', mkN_ n1', mkI_ n1', mkJ_ n1', mkR_ n1']
    repeat (first | rw [if_pos (by omega)] | rw [if_neg (by omega)])
    exact ⟨rfl, rfl, rfl, rfl, by rw [sR_Ra (by omega)]⟩
  have s0 : ∀ a, a < g → (S3.setI g 5 (-1)).K a = S.K a ∧ (S3.setI g 5 (-1)).N a = S.N a ∧ (S3.setI g 5 (-1)).I a = S.I a ∧ (S3.setI g 5 (-1)).J a = S.J a ∧ (S3.setI g 5 (-1)).R a = S.R a := fun a ha => by
    obtain ⟨a1, a2, a3, a4, a5⟩ := fe a (by omega)
    obtain ⟨b1, b2, b3, b4, b5⟩ := f2.2 a (by omega)
    obtain ⟨c1, c2, c3, c4, c5⟩ := f1.2 a (by omega)
    rw [a1, a2, a3, a4, a5, b1, b2, b3, b4, b5, mkK_ n1', mkN_ n1', mkI_ n1', mkJ_ n1', mkR_ n1']
    repeat (first | rw [if_pos (by omega)] | rw [if_neg (by omega)])
    rw [sR_K, sR_N, sR_I, sR_J, sR_Ra (by omega), c1, c2, c3, c4, c5, mkK_ hx, mkN_ hx, mkI_ hx, mkJ_ hx, mkR_ hx]
    repeat (first | rw [if_pos (by omega)] | rw [if_neg (by omega)])
    exact ⟨rfl, rfl, rfl, rfl, rfl⟩
  have tt : (S3.setI g 5 (-1)).T = S.T := by
    rw [e3]
    exact f2.1.trans f1.1
  refine h _ ⟨tt, s0⟩ ⟨by rw [e3]; exact k2, ?_, ?_⟩ (ty_sm s1 t1) ?_ (ss_sm (fun a h1 h2 => fe a (by omega)) s2).1 (by rw [e3]; exact n2) ?_
  · rw [e3, sI_R, sI_R, sI_R, sI_R, sR_R, if_neg (by omega)]; exact r2
  · rw [e3, sI_R, sI_R, sI_R, sI_R, sR_R, if_pos ⟨rfl, rfl⟩]
  · rw [(s1 (g+1) (by omega) (by omega)).2.2.1]; exact z1
  · rw [e3]
    show S2.us = _
    rw [u2]
    show S1.us + 11 + 67 = _
    rw [u1]
    show S.us + 2 + 400 + 11 + 67 = _
    omega
