/-- every one of the first m scales bears the row -/
def allS (n : Nat) (w : Nat → Int) (wo : Int) (m r : Nat) : Bool := allB (fun s => decide (mC n w wo s r (nN w) ≤ lie w s)) m
theorem Fi.am {l h ft n lo hi m : Nat} {w : Nat → Int} {S S1 : MS} (f : Fi l h S S1) (hd : h ≤ lo ∨ hi ≤ l) (k : AM S ft n w lo hi m) : AM S1 ft n w lo hi m := fun i hi' => by
  obtain ⟨e, e1, e2, e3⟩ := k i hi'
  exact ⟨e, by rw [f.2.2.1]; exact e1, e2, f.la (by omega) e3⟩
theorem Fi.ft {l h ft : Nat} {S S1 : MS} (f : Fi l h S S1) (k : FT S ft) : FT S1 ft := by
  unfold FT
  rw [f.1, f.2.1, f.2.2.1]
  exact k
theorem kf_fit29 {d ft sr b n lo hi li a v : Nat} {w : Nat → Int} {wo : Int} {S : MS} {Q : Out → MS → Prop} {c8 : Nat → Nat → Nat → Int → Nat → Int → MS → Prop} (hd : 2 ≤ d) (h3 : 3 ≤ n) (h7 : n ≤ 7) (hF : FT S ft) (hS : SS S sr n w) (hM : AM S ft n w lo hi (nN w)) (hv : v < Wn n) (hwo : R32 wo) (hR : RS_ S a (cut (inR n (allS n w wo (sN w))) v)) (h : ∀ S', Fi a (a+3) S S' → RS_ S' a (cut (inR n (allS n w wo (sN w))) (v + 1)) → c8 ft sr b wo a ((v : Int) + 1) S') : ∀ (j : Nat) {m : Nat}, m + j = sN w → VX1_fit_29 d c8 Q (j + 1) ft sr b wo a (v : Nat) (wdv (inR n (allS n w wo m)) v) (m : Nat) S := by
  have hW := Wn_le h3 h7
  have hS' := hS
  obtain ⟨hY, ⟨⟨w0, w1, w2, w3⟩, wt, wk, wn⟩, hg⟩ := hS
  have g0 := hg.1
  have g1 := hg.2.1
  have g2 := hg.2.2.1
  have g3 := hg.2.2.2.1
  have hl := hY
  unfold SY at hl
  intro j
  induction j with
  | zero =>
    intro m hm
    unfold VX1_fit_29
    rw [w1, g1.1]
    rw [show m = sN w by omega]
    exact ⟨hl.1, ⟨(by unfold R32; omega), (by unfold R32; omega)⟩, fun _ => ⟨hR.1.1, c_rAdd hd hR rfl (by omega) rfl (fun S' f r => oV_i (h S' f r))⟩, fun c => by omega⟩
  | succ j ih =>
    intro m hm
    unfold VX1_fit_29
    rw [w1, g1.1]
    refine ⟨hl.1, ⟨(by unfold R32; omega), (by unfold R32; omega)⟩, fun c => by omega, fun _ => ⟨hF.1, k_borne (by omega) h3 h7 hF hS' hM rfl rfl (by omega) hv hwo (oL_i ?_)⟩⟩
    rw [wdv_and]
    have := ih (m := m + 1) (by omega)
    rw [wdv_eq (p := inR n (allS n w wo (m + 1))) (q := fun r => inR n (allS n w wo m) r && decide (mC n w wo m r (nN w) ≤ lie w m)) (w := v) (fun b _ => ?_)] at this
    · exact this
    · unfold inR allS
      show (_ && (_ && _)) = ((_ && _) && _)
      rw [Bool.and_assoc]
      congr 1
      exact Bool.and_comm _ _
theorem kf_fit8 {d ft sr b n lo hi li a : Nat} {w : Nat → Int} {wo : Int} {Q : Out → MS → Prop} (hd : 2 ≤ d) (h3 : 3 ≤ n) (h7 : n ≤ 7) (hwo : R32 wo) (hal : a + 3 ≤ lo) (has : sr + 8 ≤ a ∨ a + 3 ≤ sr) : ∀ (j : Nat) {S : MS} {v : Nat}, v + j = Wn n → FT S ft → SS S sr n w → AM S ft n w lo hi (nN w) → AR S b n lo hi li → RS_ S a (cut (inR n (allS n w wo (sN w))) v) → (∀ S', Fi a (a+3) S S' → RS_ S' a (inR n (allS n w wo (sN w))) → Q (.inl none) S') → VX1_fit_8 d Q (j + 1) ft sr b wo a (v : Nat) S := by
  have hW := Wn_le h3 h7
  intro j
  induction j with
  | zero =>
    intro S v hv hF hS hM hA hR h
    have e : cut (inR n (allS n w wo (sN w))) v = inR n (allS n w wo (sN w)) := by
      funext r
      unfold cut
      rcases Nat.lt_or_ge r (64 * v) with c | c
      · rw [decide_eq_true c, Bool.true_and]
      · rw [decide_eq_false (by omega)]
        unfold inR
        rw [decide_eq_false (show ¬ r < fct n by rw [show v = Wn n by omega] at c; omega)]
        rfl
    rw [e] at hR
    unfold VX1_fit_8
    rw [hA.1.2.2.2.2]
    exact ⟨hA.1.1, ⟨(by unfold R32; omega), (by unfold R32; omega)⟩, fun _ => h S Fi.rf hR, fun c => by omega⟩
  | succ j ih =>
    intro S v hv hF hS hM hA hR h
    obtain ⟨c, c1, c2, c3⟩ := hA.2.1
    unfold VX1_fit_8
    rw [hA.1.2.2.2.2]
    refine ⟨hA.1.1, ⟨(by unfold R32; omega), (by unfold R32; omega)⟩, fun c => by omega, fun _ => ⟨hA.1.1, c, c1, ⟨c3.1, by omega, by rw [c3.2.1]; omega⟩, sN w + 1, ?_⟩⟩
    rw [Int.toNat_natCast, c3.2.2 v (by omega)]
    exact kf_fit29 (li := li) (m := 0) hd h3 h7 hF hS hM (by omega) hwo hR (fun S' f r => ih (v := v + 1) (by omega) (f.ft hF) (f.ss (by omega) hS) (f.am (by omega) hM) ((f.fz (by omega)).ar hA) r (fun S'' f2 => h S'' (f.tr f2))) (sN w) (by omega)
theorem k_fit {d ft sr b n lo hi li a : Nat} {w : Nat → Int} {wo : Int} {q : Nat → Bool} {S : MS} {Q : Out → MS → Prop} (hd : 3 ≤ d) (h3 : 3 ≤ n) (h7 : n ≤ 7) (hwo : R32 wo) (hal : a + 3 ≤ lo) (has : sr + 8 ≤ a ∨ a + 3 ≤ sr) (hF : FT S ft) (hS : SS S sr n w) (hM : AM S ft n w lo hi (nN w)) (hA : AR S b n lo hi li) (hR : RS_ S a q) (h : ∀ S', Fi a (a+3) S S' → RS_ S' a (inR n (allS n w wo (sN w))) → Q (.inl none) S') : Mw hX1_fit yX1_fit d [vA ft, vA sr, vA b, vI wo, vA a] S Q := by
  obtain ⟨dd, rfl⟩ : ∃ e, d = e + 1 := ⟨d - 1, by omega⟩
  refine MX1_fit ?_
  unfold VX1_fit_0
  refine ⟨hR.1.1, c_rClear (by omega) hR (fun S1 f1 r1 => oV_i ⟨Wn n + 1, ?_⟩)⟩
  have e : (fun _ : Nat => false) = cut (inR n (allS n w wo (sN w))) 0 := by
    funext r
    unfold cut
    rw [decide_eq_false (by omega)]
    rfl
  rw [e] at r1
  exact kf_fit8 (by omega) h3 h7 hwo hal has (Wn n) (v := 0) (by omega) (f1.ft hF) (f1.ss (by omega) hS) (f1.am (by omega) hM) ((f1.fz (by omega)).ar hA) r1 (fun S' f' => h S' (f1.tr f'))
