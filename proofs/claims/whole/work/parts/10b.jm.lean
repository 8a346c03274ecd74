section JM
variable {Fz : FinT} {own : String} {cc : ByteArray} {nL : Nat} {ret : Option FieldType} {hh : List (Nat × Nat × Nat × Nat)} {y : MethodName} {d : Nat} {S0 S : MS} {pc : Nat} {lv : List (Nat × Value)} {st : List Value} {Q : Out → MS → Prop}
theorem Cx.wf {T : Nat → Nat} {b0 : Nat} {D : va_G} {p : Program} {l : Launch} {R : Room} {s : State} {m : MethodId} {args : Array Value} {meth : Method} {c : Code} (C : Cx own cc nL ret hh y d T b0 D p l R s m args meth c) : Wf b0 T s := C.2.2.2.2.2.2.2.2.2.2.2.1
theorem j_objInit {idx a : Nat} (hw : Cond.methodLink own idx Lib.objectInit ∈ TB) (hd : decode cc pc = .ok (.invokespecial idx, 3)) (hcat : (st.map fun v => v.category).sum ≤ 8) (hw2 : Cond.instanceMethod Lib.objectInit ∈ TB) (hw3 : Cond.code Lib.objectInit ⟨#[0xb1]⟩ 1 none ∈ TB) (k : Jw Fz own cc nL ret hh y (d + 1) S0 S (pc + 3) lv st Q) : Jw Fz own cc nL ret hh y (d + 1) S0 S pc lv (vA a :: st) Q := by
  obtain ⟨o, S', h1, h2, h3⟩ := k
  refine ⟨o, S', h1, h2, fun C c1 c2 c3 hr hs hl => ?_⟩
  have hts := C.2.2.2.2.1
  have hf := C.2.2.2.2.2.2.2.2.2.2.2.2.2.1
  have hlo := C.2.2.2.2.2.2.2.2.2.2.2.2.2.2
  refine W.objInit C.1 C.2.1 C.2.2.2.1 (hts _ hw) (hts _ hw2) (hts _ hw3) rfl (by rw [C.2.2.1]; exact hl.1) rfl hd (by omega) (by show 2 * 0 + _ + 12 ≤ _; omega) (h3 C c1 c2 c3 hr hs hl)
/-- throw new E("..") -/
def THk (own : String) (ik ic : Nat) (E : String) : Prop := ∃ Lw : List Cond, vx_CT own E ic Lw ∧ Cond.classLink own ik E ∈ TB ∧ Cond.initialized E ∈ TB ∧ (∀ w ∈ Lw.filter vx_no, w ∈ TB ∨ w = Cond.castable E E ∨ w ∈ declW.map Cond.declares) ∧ (E, E) ∈ castW
theorem j_throw {ik ic is : Nat} {E text : String} (hT : THk own ik ic E) (hm : (own, is, text) ∈ msgW)
    (d0 : decode cc pc = .ok (.new ik, 3)) (d3 : decode cc (pc + 3) = .ok (.dup, 1)) (d4 : decode cc (pc + 4) = .ok (.ldc is, 2)) (d6 : decode cc (pc + 6) = .ok (.invokespecial ic, 3)) (d9 : decode cc (pc + 9) = .ok (.athrow, 1)) (hcat : (st.map fun v => v.category).sum ≤ 8) (hh0 : hh = [])
    (h : 5 ≤ d ∧ Q (.inr E) (S.junk 6)) : Jw FinM own cc nL ret hh y (d + 1) S0 S pc lv st Q := by
  have hle : leM S (S.junk 6) := ⟨Nat.le_succ _, Nat.le_add_right _ _, rfl⟩
  obtain ⟨Lw, hT⟩ := hT
  refine ⟨.inr E, S.junk 6, h.2, hle, fun C c1 c2 c3 hR hs hl => ?_⟩
  have hts := C.2.2.2.2.1
  have hf := C.2.2.2.2.2.2.2.2.2.2.2.2.2.1
  have hlo := C.2.2.2.2.2.2.2.2.2.2.2.2.2.2
  obtain ⟨sa, hsa⟩ := C.wf.2.2.2.2.2.1 _ hm
  have e1 : (S.junk 6).nx = S.nx + 1 := rfl
  have e2 : (S.junk 6).us = S.us + 6 := rfl
  have g1 := c1.1; have g2 := c1.2.1
  rw [e1] at c2 ⊢
  rw [e2] at c3 ⊢
  refine vx_throwS C.1 C.2.1 C.2.2.2.2.2.2.2.2.2.1 C.2.2.2.1 hT.1 (hts _ hT.2.1) (hts _ hT.2.2.1) hsa (fun w hw => (hT.2.2.2.1 w hw).elim (hts w) (fun e => e.elim (fun e => by rw [e]; exact va_Nw.use rfl (C.wf.2.1 _ hT.2.2.2.2)) (fun e => by obtain ⟨x, hx, rfl⟩ := List.mem_map.mp e; exact va_Nw.use rfl (C.wf.2.2.2.2.2.2.2.2.2.2.1 x hx)))) (fun w hw => ?_) C.wf.2.2.2.1 C.wf.2.2.2.2.1 hs (by rw [C.2.2.1]; exact hl.1) d0 d3 d4 d6 d9
    (fun x hx => by rw [C.ret.2.2, hh0] at hx; cases hx) (by show 5 < _; omega) (by show _ + 82 ≤ _; omega) (by omega) (by omega) C.ret.2.1 (fun t hal hz ho => ⟨rfl, (hR.junk hz ho).moved hal, ?_⟩) hs.2.2 (by omega) (by omega)
  · have hg : ∀ w, goodWord w = true → vx_ot w = true := fun w hg => by unfold vx_ot; rw [hg, Bool.or_true]
    rcases List.mem_cons.mp hw with q | q
    · subst q; exact hg _ (tbTB hT.2.1).2
    · rcases List.mem_cons.mp q with q | q
      · subst q; exact hg _ (tbTB hT.2.2.1).2
      · rcases hT.2.2.2.1 w q with q | q | q
        · exact hg _ (tbTB q).2
        · subst q; rfl
        · obtain ⟨x, hx, rfl⟩ := List.mem_map.mp q
          rfl
  · exact ⟨Nat.le_trans hs.1 (by omega), fun q h1 h2 => (ho q (Nat.lt_of_lt_of_le h1 hs.1)).trans (hs.2.1 q h1 h2)⟩
theorem j_throwW {ik ic is : Nat} {E text : String} (hT : THk own ik ic E) (hm : (own, is, text) ∈ msgW)
    (d0 : decode cc pc = .ok (.new ik, 3)) (d3 : decode cc (pc + 3) = .ok (.dup, 1)) (d4 : decode cc (pc + 4) = .ok (.ldc_w is, 3)) (d7 : decode cc (pc + 7) = .ok (.invokespecial ic, 3)) (d10 : decode cc (pc + 10) = .ok (.athrow, 1)) (hcat : (st.map fun v => v.category).sum ≤ 8) (hh0 : hh = [])
    (h : 5 ≤ d ∧ Q (.inr E) (S.junk 6)) : Jw FinM own cc nL ret hh y (d + 1) S0 S pc lv st Q := by
  have hle : leM S (S.junk 6) := ⟨Nat.le_succ _, Nat.le_add_right _ _, rfl⟩
  obtain ⟨Lw, hT⟩ := hT
  refine ⟨.inr E, S.junk 6, h.2, hle, fun C c1 c2 c3 hR hs hl => ?_⟩
  have hts := C.2.2.2.2.1
  have hf := C.2.2.2.2.2.2.2.2.2.2.2.2.2.1
  have hlo := C.2.2.2.2.2.2.2.2.2.2.2.2.2.2
  obtain ⟨sa, hsa⟩ := C.wf.2.2.2.2.2.1 _ hm
  have e1 : (S.junk 6).nx = S.nx + 1 := rfl
  have e2 : (S.junk 6).us = S.us + 6 := rfl
  have g1 := c1.1; have g2 := c1.2.1
  rw [e1] at c2 ⊢
  rw [e2] at c3 ⊢
  refine vx_throwSW C.1 C.2.1 C.2.2.2.2.2.2.2.2.2.1 C.2.2.2.1 hT.1 (hts _ hT.2.1) (hts _ hT.2.2.1) hsa (fun w hw => (hT.2.2.2.1 w hw).elim (hts w) (fun e => e.elim (fun e => by rw [e]; exact va_Nw.use rfl (C.wf.2.1 _ hT.2.2.2.2)) (fun e => by obtain ⟨x, hx, rfl⟩ := List.mem_map.mp e; exact va_Nw.use rfl (C.wf.2.2.2.2.2.2.2.2.2.2.1 x hx)))) (fun w hw => ?_) C.wf.2.2.2.1 C.wf.2.2.2.2.1 hs (by rw [C.2.2.1]; exact hl.1) d0 d3 d4 d7 d10
    (fun x hx => by rw [C.ret.2.2, hh0] at hx; cases hx) (by show 5 < _; omega) (by show _ + 82 ≤ _; omega) (by omega) (by omega) C.ret.2.1 (fun t hal hz ho => ⟨rfl, (hR.junk hz ho).moved hal, ?_⟩) hs.2.2 (by omega) (by omega)
  · have hg : ∀ w, goodWord w = true → vx_ot w = true := fun w hg => by unfold vx_ot; rw [hg, Bool.or_true]
    rcases List.mem_cons.mp hw with q | q
    · subst q; exact hg _ (tbTB hT.2.1).2
    · rcases List.mem_cons.mp q with q | q
      · subst q; exact hg _ (tbTB hT.2.2.1).2
      · rcases hT.2.2.2.1 w q with q | q | q
        · exact hg _ (tbTB q).2
        · subst q; rfl
        · obtain ⟨x, hx, rfl⟩ := List.mem_map.mp q
          rfl
  · exact ⟨Nat.le_trans hs.1 (by omega), fun q h1 h2 => (ho q (Nat.lt_of_lt_of_le h1 hs.1)).trans (hs.2.1 q h1 h2)⟩
/-- a case of a switch -/
theorem j_tswC {x cv : Int} {dflt lo hi off : Int} {offs : Array Int} {len tgt : Nat} {A B : Prop} (hd : decode cc pc = .ok (.tableswitch dflt lo hi offs, len)) (hr : R32 x) (h1 : ¬ cv < lo) (h2 : ¬ hi < cv) (ho : offs[(cv - lo).toNat]? = some off) (ht : (pc : Int) + off = (tgt : Int)) (h : (x = cv → A) ∧ B) (k1 : A → Jw Fz own cc nL ret hh y d S0 S tgt lv st Q) (k2 : x ≠ cv → B → Jw Fz own cc nL ret hh y d S0 S pc lv (vI x :: st) Q) : Jw Fz own cc nL ret hh y d S0 S pc lv (vI x :: st) Q := by
  by_cases c : x = cv
  · subst c
    exact j_step (fun hx hb _ _ _ w => lv_tableIn hx hb hd (by rw [r32_to hr]; exact h1) (by rw [r32_to hr]; exact h2) (by rw [r32_to hr]; exact ho) ht w) (k1 (h.1 rfl))
  · exact k2 c h.2
theorem j_tswD {x : Int} {dflt lo hi : Int} {offs : Array Int} {len tgt : Nat} {A : Prop} (hd : decode cc pc = .ok (.tableswitch dflt lo hi offs, len)) (hr : R32 x) (hx9 : x < lo ∨ hi < x) (ht : (pc : Int) + dflt = (tgt : Int)) (h : (x < lo ∨ hi < x) → A) (k : A → Jw Fz own cc nL ret hh y d S0 S tgt lv st Q) : Jw Fz own cc nL ret hh y d S0 S pc lv (vI x :: st) Q :=
  j_step (fun hx hb _ _ _ w => lv_tableOut hx hb hd (by rw [r32_to hr]; exact hx9) ht w) (k (h hx9))
/-- a reference that may be none: both ways -/
theorem j_aaldO {a : Nat} {i : Int} (kd : Nat) {P : Prop} {P2 : Nat → Prop} (hd : decode cc pc = .ok (.aaload, 1)) (h : (S.K a = kd ∧ (17 ≤ kd ∧ kd < 21) ∧ 0 ≤ i ∧ i < S.N a) ∧ (S.R a i.toNat = none → P) ∧ (∀ b, S.R a i.toNat = some b → P2 b)) (k : P → Jw Fz own cc nL ret hh y d S0 S (pc + 1) lv (.null :: st) Q) (k2 : ∀ b, P2 b → Jw Fz own cc nL ret hh y d S0 S (pc + 1) lv (vA b :: st) Q) : Jw Fz own cc nL ret hh y d S0 S pc lv (vI i :: vA a :: st) Q := by
  obtain ⟨⟨h1, hkd, h2, h3⟩, h4, h5⟩ := h
  cases hr : S.R a i.toNat with
  | none =>
    refine j_rd (fun hx hb ho ht hK hR w => ?_) (k (h4 hr))
    obtain ⟨cA, q1, q2⟩ := hR.arr (a := a) (by omega) (by omega)
    rw [arr_q (by omega)] at q2
    obtain ⟨g1, g2, g3⟩ := r32_in (hR.2.2 a (by omega)).2.2.1 h2 h3
    have hlt : (Int32.ofInt i).toNatClampNeg < S.N a := Nat.not_le.mp fun q => g2 (Or.inr q)
    refine W.aald (v := .null) (ty := ety (S.K a)) hx hb q2 (q1.1 (S.N a) (fun j => va_rf (S.R a j))) (by rcases (show S.K a = 17 ∨ S.K a = 18 ∨ S.K a = 19 ∨ S.K a = 20 by omega) with q | q | q | q <;> rw [q] <;> rfl) (fun q => by cases q) (by show ¬ (_ ∨ (arrV _ _ _).slots.size ≤ _); rw [arrV_size]; exact g2) ?_ rfl rfl hd w
    show (arrV _ _ _).slots[_]? = _
    rw [arrV_read _ _ hlt, g3, hr]; rfl
  | some b => exact j_aald kd hd ⟨⟨h1, hkd, h2, h3⟩, b, hr, h5 b hr⟩ k2
theorem j_astoreN_n {i : Fin 4} {lv2 : List (Nat × Value)} (hd : decode cc pc = .ok (.astore_n i, 1)) (hn : (i : Nat) < nL) (hl : ((i : Nat), Value.null) :: lv.filter (fun q => !(q.1 == (i : Nat)) && !(q.1 + 1 == (i : Nat) && q.2.category == 2)) = lv2) (k : Jw Fz own cc nL ret hh y d S0 S (pc + 1) lv2 st Q) : Jw Fz own cc nL ret hh y d S0 S pc lv (.null :: st) Q :=
  j_stepL (fun hx hb h w => lv_astore_nN hx hb hd rfl h hn hl w) k
theorem j_aloadN_n {i : Fin 4} (j : Nat) (hd : decode cc pc = .ok (.aload_n i, 1)) (hl : lv[j]? = some ((i : Nat), Value.null)) (k : Jw Fz own cc nL ret hh y d S0 S (pc + 1) lv (.null :: st) Q) : Jw Fz own cc nL ret hh y d S0 S pc lv st Q :=
  j_step (fun hx hb _ _ h w => lv_aload_nN hx hb hd rfl (lv_at h j hl) w) k
theorem j_ifnonnull {x : Nat} {off : Int} {tgt : Nat} (hd : decode cc pc = .ok (.ifnonnull off, 3)) (ht : (pc : Int) + off = (tgt : Int)) (k : Jw Fz own cc nL ret hh y d S0 S tgt lv st Q) : Jw Fz own cc nL ret hh y d S0 S pc lv (vA x :: st) Q :=
  j_step (fun hx hb _ _ _ w => lv_ifnonnull hx hb hd ht w) k
theorem j_ifnonnullN {off : Int} (hd : decode cc pc = .ok (.ifnonnull off, 3)) (k : Jw Fz own cc nL ret hh y d S0 S (pc + 3) lv st Q) : Jw Fz own cc nL ret hh y d S0 S pc lv (.null :: st) Q :=
  j_step (fun hx hb _ _ _ w => lv_ifnonnullN hx hb hd w) k
theorem j_ldcS {i ti : Nat} {tx : String} (hm : (own, i, tx, ti) ∈ wordW) (hd : decode cc pc = .ok (.ldc i, 2)) (k : Jw Fz own cc nL ret hh y d S0 S (pc + 2) lv (vA (S.T ti) :: st) Q) : Jw Fz own cc nL ret hh y d S0 S pc lv st Q := by
  obtain ⟨o, S', h1, h2, h3⟩ := k
  refine ⟨o, S', h1, h2, fun C c1 c2 c3 hr hs hl => ?_⟩
  exact va_ldcS C.1 C.2.1 C.2.2.2.1 (C.wf.2.2.2.2.2.2.1 _ hm) hd (h3 C c1 c2 c3 hr hs hl)
theorem j_anew {idx : Nat} {x : Int} {C' : String} (kd : Nat) {P : Prop} (hty : ety kd = .object C') (hkd : 17 ≤ kd ∧ kd < 20) (hC : C' ∈ aoW) (hw : Cond.classLink own idx C' ∈ TB) (hd : decode cc pc = .ok (.anewarray idx, 3)) (h : (0 ≤ x ∧ x < 1000000) ∧ P) (k : P → Jw Fz own cc nL ret hh y d S0 (S.mk kd x.toNat) (pc + 3) lv (vA S.nx :: st) Q) : Jw Fz own cc nL ret hh y d S0 S pc lv (vI x :: st) Q := by
  obtain ⟨⟨h1, h2⟩, h3⟩ := h
  have hr : R32 x := ⟨by omega, by omega⟩
  refine j_mk (fun {p l e R s m args below meth c H locs ls kc ks Qs D b0} hx hb ho ht hK hWf hR q1 q2 w => ?_) (k h3)
  have hneg : ¬ Int32.ofInt x < 0 := fun q => by
    have := (r32_lt hr r32_0).mp q
    omega
  have hcl := r32_cl hr
  refine W.anew hx hb ho (ht _ hw) ((hWf.2.2.2.2.2.2.2.2.2.1 _ hC).use) rfl hd rfl hneg (by rw [hcl]; omega) q1 (by rw [hcl]; exact q2) fun cA kA comp f1 f2 f3 f4 => ?_
  rw [hcl]
  generalize hH1 : H.push ({ cls := cA, slots := Array.replicate x.toNat .null, vm := .none } : Cell) = H1
  have z1 : H1.size = H.size + 1 := by rw [← hH1, Array.size_push]
  have e1 : H1[H.size]? = some (arrV cA x.toNat (fun _ => .null)) := by rw [← hH1, Array.getElem?_push_size, ← arrV_new]
  have o1 : ∀ q : Nat, q < H.size → H1[q]? = H[q]? := fun q hq => by rw [← hH1, Array.getElem?_push, if_neg (Nat.ne_of_lt hq)]
  have hAr : ArrOfT s cA (.object C') := fun N z => ⟨(fun k h => by cases h), kA, f2, comp, f3⟩
  rw [hR.1]
  refine w H1 z1 o1 (Rep.mk hR z1 o1 (by omega) ⟨fun h7 => ?_, fun _ => ⟨cA, ?_, ?_⟩⟩)
  · rw [mk_new] at h7
    omega
  · rw [mk_new, hty]
    exact ⟨hAr, kA, comp, f2, f3, f4, f1⟩
  · have hN : (S.mk kd x.toNat).N S.nx = x.toNat := up1_eq
    have hRr : (S.mk kd x.toNat).R S.nx = fun _ => none := up1_eq
    rw [← hR.1, e1, hR.1, arr_q (by rw [mk_new]; omega), vp_cell_q, hN, hRr]
    rfl
/-- a store into an array of objects -/
theorem j_aast {a b : Nat} {i : Int} (kd ci : Nat) {P : Prop} (hci : ∃ C T N, vwCl[ci]? = some (C, T, N) ∧ ety kd = .object C) (hkd : 17 ≤ kd ∧ kd < 20) (h12 : ci < 12) (hd : decode cc pc = .ok (.aastore, 1)) (h : (S.K a = kd ∧ S.K b = ci ∧ 0 ≤ i ∧ i < S.N a) ∧ P) (k : P → Jw Fz own cc nL ret hh y d S0 (S.setR a i.toNat (some b)) (pc + 1) lv st Q) : Jw Fz own cc nL ret hh y d S0 S pc lv (vA b :: vI i :: vA a :: st) Q := by
  obtain ⟨⟨h1, hb1, h2, h3⟩, h4⟩ := h
  obtain ⟨C', T', N', hcl, hety⟩ := hci
  refine j_wr (S1 := S.setR a i.toNat (some b)) (a := a) (by omega) ⟨Nat.le_refl _, Nat.le_refl _, rfl⟩ ⟨rfl, rfl⟩ (fun hx hb ho ht hK _ hR w => ?_) (k h4)
  obtain ⟨cA, q1, q2⟩ := hR.arr (a := a) (by omega) (by omega)
  rw [arr_q (by omega)] at q2
  rw [h1, hety] at q1
  obtain ⟨kA, comp, f2, f3, f4, f1⟩ := q1.2
  obtain ⟨g1, g2, g3⟩ := r32_in (hR.2.2 a (by omega)).2.2.1 h2 h3
  have hlt : (Int32.ofInt i).toNatClampNeg < S.N a := Nat.not_le.mp fun q => g2 (Or.inr q)
  obtain ⟨r', hr', cellV, u1, u2, u3, -⟩ := hR.obj hb1 h12
  have hcls := (hK.1 ci _ hcl).2
  obtain ⟨kC, hkC, -⟩ := hcls.2
  have hcomp : comp = (_ : va_G).1 ci := Option.some.inj (f4.symm.trans hcls.1)
  refine W.aast hx hb q2 (fun q e => by cases e) (fun e => by cases e) f2 f3 rfl (kcomp := kC) (by rw [hcomp]; exact hkC) ⟨fun q => g2 (Or.inl q), by show _ < (arrV _ _ _).slots.size; rw [arrV_size]; exact hlt⟩ u1 (fun q e => by rw [u3] at e; cases e) (kv := kC) (by rw [u2]; exact hkC) (by rw [u2, hcomp]; exact va_assign hcls) rfl rfl hd fun H1 e z oq => w H1 _ z oq ?_
  refine hR.put z oq rfl rfl rfl ot_setR (fun _ => ⟨fun h7 => ?_, fun _ => ⟨cA, ?_, ?_⟩⟩)
  · have h7 : S.K a < 12 := h7
    omega
  · show ArrOfT _ cA (ety (S.K a)) ∧ va_RA _ cA (ety (S.K a))
    rw [h1, hety]; exact q1
  · rw [e, arr_q (S := S.setR a i.toNat (some b)) (a := a) (show 17 ≤ S.K a by omega), vp_cell_q, vp_cell_q, arrV_store]
    refine congrArg some (congrArg (arrV cA (S.N a)) (funext fun q => ?_))
    show updV _ _ _ q = va_rf (up2 S.R a i.toNat (some b) a q)
    rw [g3]
    by_cases hq : q = i.toNat
    · subst hq
      simp [updV, up2, up1, va_rf]
    · simp [updV, up2, up1, hq]
end JM
