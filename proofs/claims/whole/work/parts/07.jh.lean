/-- field k of class ci, as the class own names it by its pool's entry idx -/
def FLk (own : String) (idx ci k : Nat) (fin num : Bool) (t : FieldType) : Prop := ∃ (C : String) (T : u_T) (N : Nat) (ty : Nat → FieldType), vwCl[ci]? = some (C, T, N) ∧ (∀ w ∈ u_ws C T N, w ∈ TB) ∧ (∀ j, j < N → parseFieldDescriptor (T j).2.2.1 = some (ty j)) ∧ (∀ a, a < N → ∀ b, b < N → a ≠ b → (T a).2.1 ≠ (T b).2.1) ∧ (ftI ci).length = N ∧ k < N ∧ ci < 12 ∧ Cond.fieldLink own idx (T k).1 (T k).2.1 (T k).2.2.1 ∈ TB ∧ (T k).2.2.2 = fin ∧ (T k).1 = C ∧ (ftI ci)[k]? = some num ∧ ty k = t
theorem fl_get {S : MS} {a k : Nat} {t : Bool} (h : (ftI (S.K a))[k]? = some t) : (S.fl a)[k]? = some (if t then vI (S.I a k) else va_rf (S.R a k)) := by
  simp [MS.fl, List.getElem?_mapIdx, h]
theorem fl_len {S : MS} {a : Nat} : (S.fl a).length = (ftI (S.K a)).length := by simp [MS.fl]
theorem fl_setI {S : MS} {a k : Nat} {x : Int} (h : (ftI (S.K a))[k]? = some true) : (S.fl a).set k (vI x) = (S.setI a k x).fl a := by
  have hk : k < (ftI (S.K a)).length := (List.getElem?_eq_some_iff.mp h).1
  apply List.ext_getElem?
  intro j
  show _ = ((ftI (S.K a)).mapIdx (fun k' t => if t then vI (up2 S.I a k x a k') else va_rf (S.R a k')))[j]?
  rw [List.getElem?_set, List.getElem?_mapIdx, fl_len]
  by_cases e : k = j
  · subst e
    rw [if_pos rfl, if_pos hk, h]
    simp [up2, up1]
  · simp only [if_neg e, MS.fl, List.getElem?_mapIdx]
    cases (ftI (S.K a))[j]? with
    | none => rfl
    | some t => simp [up2, up1, Ne.symm e]
theorem fl_setR {S : MS} {a k : Nat} {x : Option Nat} (h : (ftI (S.K a))[k]? = some false) : (S.fl a).set k (va_rf x) = (S.setR a k x).fl a := by
  have hk : k < (ftI (S.K a)).length := (List.getElem?_eq_some_iff.mp h).1
  apply List.ext_getElem?
  intro j
  show _ = ((ftI (S.K a)).mapIdx (fun k' t => if t then vI (S.I a k') else va_rf (up2 S.R a k x a k')))[j]?
  rw [List.getElem?_set, List.getElem?_mapIdx, fl_len]
  by_cases e : k = j
  · subst e
    rw [if_pos rfl, if_pos hk, h]
    simp [up2, up1]
  · simp only [if_neg e, MS.fl, List.getElem?_mapIdx]
    cases (ftI (S.K a))[j]? with
    | none => rfl
    | some t => simp [up2, up1, Ne.symm e]
theorem ot_setI {S : MS} {a k : Nat} {x : Int} : ∀ q, q ≠ a → (S.setI a k x).fl q = S.fl q ∧ (S.setI a k x).arr q = S.arr q := by
  intro q hq
  have e : (S.setI a k x).I q = S.I q := up2_ne hq
  constructor
  · show (ftI (S.K q)).mapIdx (fun k' t => if t then vI ((S.setI a k x).I q k') else va_rf (S.R q k')) = _
    rw [e]; rfl
  · show (if S.K q = 14 then _ else if S.K q < 17 then ((S.N q, Sum.inl (fun j => Int32.ofInt ((S.setI a k x).I q j))) : vp_A) else _) = _
    rw [e]; rfl
theorem ot_setR {S : MS} {a k : Nat} {x : Option Nat} : ∀ q, q ≠ a → (S.setR a k x).fl q = S.fl q ∧ (S.setR a k x).arr q = S.arr q := by
  intro q hq
  have e : (S.setR a k x).R q = S.R q := up2_ne hq
  constructor
  · show (ftI (S.K q)).mapIdx (fun k' t => if t then vI (S.I q k') else va_rf ((S.setR a k x).R q k')) = _
    rw [e]; rfl
  · show (if S.K q = 14 then _ else if S.K q < 17 then _ else ((S.N q, Sum.inr (Sum.inr (Sum.inr (Sum.inr ((S.setR a k x).R q))))) : vp_A)) = _
    rw [e]; rfl
theorem ot_setJ {S : MS} {a k : Nat} {x : BitVec 64} : ∀ q, q ≠ a → (S.setJ a k x).fl q = S.fl q ∧ (S.setJ a k x).arr q = S.arr q := by
  intro q hq
  have e : (S.setJ a k x).J q = S.J q := up2_ne hq
  refine ⟨rfl, ?_⟩
  show (if S.K q = 14 then ((S.N q, Sum.inr (Sum.inl (fun j => Int64.ofBitVec ((S.setJ a k x).J q j)))) : vp_A) else _) = _
  rw [e]; rfl
theorem Rep.obj {D : va_G} {b0 : Nat} {S : MS} {U : State} {H : Heap} {a ci : Nat} (h : Rep D b0 S U H) (hk : S.K a = ci) (hc : ci < 12) : va_at D vwCl (a, .inr (ci, S.fl a)) H := by
  subst hk
  exact (h.2.2 a (by omega)).2.2.2.1 hc
theorem Rep.one {D : va_G} {b0 : Nat} {S : MS} {U : State} {H : Heap} {a ci : Nat} (h : Rep D b0 S U H) (hk : S.K a = ci) (hc : ci < 12) : va_P D vwCl [(a, .inr (ci, S.fl a))] H := by
  intro k q hq
  match k, hq with
  | 0, hq => cases hq; exact h.obj hk hc
theorem va_K.none {D : va_G} {U : State} {tys : List (ClassId × FieldType)} (h : va_K D vwCl [] U) (ht : ∀ (k : Nat) (q : ClassId × FieldType), tys[k]? = some q → ArrOfT U q.1 q.2 ∧ va_RA U q.1 q.2) : va_K D vwCl tys U := ⟨h.1, ht⟩
section WP
variable {p : Program} {l : Launch} {e : Env} {R : Room} {s : State} {m : MethodId} {args : Array Value} {below : List Frame} {meth : Method} {c : Code} {H : Heap} {locs : List Loc} {cells slots : Nat} {Qs : State → Prop} {cc : ByteArray} {pc : Nat} {ls : Array Slot} {rest : List Value} {D : va_G} {a : Nat}
theorem w_put (hexec : p.tables.exec = Jvm.exec) (hb : c.code = cc) {own : String} {ci idx k : Nat} {num : Bool} {t : FieldType} (hF : FLk own idx ci k false num t) (hts : ∀ w ∈ TB, w.before args s = true) (hown : s.vm.findClass own = some m.cls) (hK : va_K D vwCl [] s) {fs : List Value} (hat : va_at D vwCl (a, .inr (ci, fs)) H) {v : Value} (hn : narrow t v = v) (hfit : fits t v = true) (hl : fs.length = (ftI ci).length)
    (hdg : decode cc pc = .ok (.putfield idx, 3)) (kk : ∀ (H1 : Heap) (i : Nat), H1.size = H.size → (∀ q, q ≠ a → H1[q]? = H[q]?) → va_at D vwCl (a, .inr (ci, fs.set k v)) H1 → W p l e R s m args below meth c H1 (locs ++ [⟨a, i⟩]) cells slots Qs (F0 m (pc + 3) ls rest)) : W p l e R s m args below meth c H locs cells slots Qs (F0 m pc ls (v :: .ref a :: rest)) := by
  obtain ⟨C, T, N, ty, hc, hin, hty, hnm, hN, hk, -, hlk, hfin, hC, hnum, htk⟩ := hF
  have hap := va_apart (own := own) hts hin ty hty hnm hK hc
  obtain ⟨r, h1, cell, q1, q2, q3, q4⟩ := hat
  have hr : r = (C, T, N) := Option.some.inj (h1.symm.trans hc)
  subst hr
  obtain ⟨hS, hfc, kC, hkC, hkind⟩ := hK.1 ci _ hc
  obtain ⟨cf, kf, fi, f, hi, hsl⟩ := hS k hk
  have hlay := hts _ (hin _ (u_in_lay hk))
  unfold u_lay at hlay
  rw [if_neg (by rw [hfin]; decide)] at hlay
  have hst := (u_facts hfc hkC (u_lays hts hin hk) hi).1
  have h6 := u_store hfc hkC hkind hlay hi (by rw [hty k hk, htk]) hn hfit
  refine W.putK hexec hb (f := f) ⟨hown, hts _ hlk, ⟨_, _, _, hi⟩, hst⟩ (by rw [q2]; exact h6) q1 q3 (by rw [hsl]; exact k2_hasslot (q4 k hk)) rfl rfl hdg fun H' e1 e2 e3 => ?_
  rw [hsl] at e1 ⊢
  exact kk H' _ e2 e3 ⟨_, hc, t_OB.to (V := updV (vp_V fs) k v) ⟨_, e1, q2, q3, t_set q4 hap hk v⟩ (fun j _ => vp_updV_set (by rw [hl, hN]; exact hk) v j)⟩
theorem w_putF (hexec : p.tables.exec = Jvm.exec) (hb : c.code = cc) {own : String} {ci idx k : Nat} {num : Bool} {t : FieldType} (hF : FLk own idx ci k true num t) (hts : ∀ w ∈ TB, w.before args s = true) (hown : s.vm.findClass own = some m.cls) (hoc : ∀ q, vwCl[ci]? = some q → q.1 = own) (hini : meth.name = "<init>") (hK : va_K D vwCl [] s) {fs : List Value} (hat : va_at D vwCl (a, .inr (ci, fs)) H) {v : Value} (hn : narrow t v = v) (hfit : fits t v = true) (hl : fs.length = (ftI ci).length)
    (hdg : decode cc pc = .ok (.putfield idx, 3)) (kk : ∀ (H1 : Heap) (i : Nat), H1.size = H.size → (∀ q, q ≠ a → H1[q]? = H[q]?) → va_at D vwCl (a, .inr (ci, fs.set k v)) H1 → W p l e R s m args below meth c H1 (locs ++ [⟨a, i⟩]) cells slots Qs (F0 m (pc + 3) ls rest)) : W p l e R s m args below meth c H locs cells slots Qs (F0 m pc ls (v :: .ref a :: rest)) := by
  obtain ⟨C, T, N, ty, hc, hin, hty, hnm, hN, hk, -, hlk, hfin, hC, hnum, htk⟩ := hF
  have hap := va_apart (own := own) hts hin ty hty hnm hK hc
  obtain ⟨r, h1, cell, q1, q2, q3, q4⟩ := hat
  have hr : r = (C, T, N) := Option.some.inj (h1.symm.trans hc)
  subst hr
  have hoC : C = own := hoc _ hc
  obtain ⟨hS, hfc, kC, hkC, hkind⟩ := hK.1 ci _ hc
  obtain ⟨cf, kf, fi, f, hi, hsl⟩ := hS k hk
  have hlay := hts _ (hin _ (u_in_lay hk))
  unfold u_lay at hlay
  rw [if_pos hfin] at hlay
  have hst := (u_facts hfc hkC (u_lays hts hin hk) hi).1
  have hcf : m.cls = cf := by
    obtain ⟨_, _, c', _, _, _, -, -, hf', -, -, -, hown2, -⟩ := Cond.laysFinal_spec hlay
    have e1 : c' = cf := by have := hi.symm.trans hf'; simp at this; exact this.1.symm
    rw [hC, hoC] at hown2
    rw [← e1]; exact Option.some.inj (hown.symm.trans hown2)
  have h6 := u_fits hfc hkC hkind (Or.inr hlay) hi (by rw [hty k hk, htk]) hn hfit
  refine W.putFinK hexec hb hown (hts _ hlk) hi hst hcf hini (by rw [q2]; exact h6) q1 q3 (by rw [hsl]; exact k2_hasslot (q4 k hk)) rfl rfl hdg fun H' e1 e2 e3 => ?_
  rw [hsl] at e1 ⊢
  exact kk H' _ e2 e3 ⟨_, hc, t_OB.to (V := updV (vp_V fs) k v) ⟨_, e1, q2, q3, t_set q4 hap hk v⟩ (fun j _ => vp_updV_set (by rw [hl, hN]; exact hk) v j)⟩
end WP
theorem va_S.put' {b0 : Nat} {H0 H H1 : Heap} {locs : List Loc} {a k : Nat} (h : va_S (fun q => b0 ≤ q) H0 H locs) (z : H1.size = H.size) (oq : ∀ q : Nat, q ≠ a → H1[q]? = H[q]?) (ha : b0 ≤ a) : va_S (fun q => b0 ≤ q) H0 H1 (locs ++ [⟨a, k⟩]) := va_S.put h z oq ha
section JH
variable {Fz : FinT} {own : String} {cc : ByteArray} {nL : Nat} {ret : Option FieldType} {hh : List (Nat × Nat × Nat × Nat)} {y : MethodName} {d : Nat} {S0 S : MS} {pc : Nat} {lv : List (Nat × Value)} {st : List Value} {Q : Out → MS → Prop}
/-- a read of the heap -/
theorem j_rd {pc2 : Nat} {st2 : List Value} (h : ∀ {p : Program} {l : Launch} {e : Env} {R : Room} {s : State} {m : MethodId} {args : Array Value} {below : List Frame} {meth : Method} {c : Code} {H : Heap} {locs : List Loc} {ls : Array Slot} {k n : Nat} {Qs : State → Prop} {D : va_G} {b0 : Nat},
      p.tables.exec = Jvm.exec → c.code = cc → s.vm.findClass own = some m.cls → (∀ w ∈ TB, w.before args s = true) → va_K D vwCl [] s → Rep D b0 S s H → W p l e R s m args below meth c H locs k n Qs (F0 m pc2 ls st2) → W p l e R s m args below meth c H locs k n Qs (F0 m pc ls st))
    (k : Jw Fz own cc nL ret hh y d S0 S pc2 lv st2 Q) : Jw Fz own cc nL ret hh y d S0 S pc lv st Q := by
  obtain ⟨o, S', h1, h2, h3⟩ := k
  refine ⟨o, S', h1, h2, fun C c1 c2 c3 hr hs hl => ?_⟩
  exact h C.1 C.2.1 C.2.2.2.1 C.2.2.2.2.1 C.2.2.2.2.2.2.2.2.1 hr (h3 C c1 c2 c3 hr hs hl)
theorem j_getI {idx a : Nat} (ci k : Nat) {fin : Bool} {t : FieldType} {P : Prop} (hF : FLk own idx ci k fin true t) (hd : decode cc pc = .ok (.getfield idx, 3)) (h : S.K a = ci ∧ P) (kk : P → Jw Fz own cc nL ret hh y d S0 S (pc + 3) lv (vI (S.I a k) :: st) Q) : Jw Fz own cc nL ret hh y d S0 S pc lv (vA a :: st) Q := by
  obtain ⟨C, T, N, ty, hc, hin, hty, hnm, hN, hk, h12, hlk, hfin, hC, hnum, htk⟩ := hF
  refine j_rd (fun hx hb ho ht hK hR w => ?_) (kk h.2)
  have hv : (S.fl a)[k]? = some (vI (S.I a k)) := by rw [fl_get (by rw [h.1]; exact hnum)]; rfl
  exact va_get hx hb ht hin ho hK (hR.one h.1 h12) 0 rfl hc k hk (ht _ hlk) (fun _ h9 => h9) hv hd w
theorem j_getR {idx a : Nat} (ci k : Nat) {fin : Bool} {t : FieldType} {P : Nat → Prop} (hF : FLk own idx ci k fin false t) (hd : decode cc pc = .ok (.getfield idx, 3)) (h : S.K a = ci ∧ ∃ b, S.R a k = some b ∧ P b) (kk : ∀ b, P b → Jw Fz own cc nL ret hh y d S0 S (pc + 3) lv (vA b :: st) Q) : Jw Fz own cc nL ret hh y d S0 S pc lv (vA a :: st) Q := by
  obtain ⟨C, T, N, ty, hc, hin, hty, hnm, hN, hk, h12, hlk, hfin, hC, hnum, htk⟩ := hF
  obtain ⟨h1, b, h2, h3⟩ := h
  refine j_rd (fun hx hb ho ht hK hR w => ?_) (kk b h3)
  have hv : (S.fl a)[k]? = some (vA b) := by rw [fl_get (by rw [h1]; exact hnum), h2]; rfl
  exact va_get hx hb ht hin ho hK (hR.one h1 h12) 0 rfl hc k hk (ht _ hlk) (fun _ h9 => h9) hv hd w
/-- a write of the heap at one address -/
theorem j_wr {S1 : MS} {pc2 a : Nat} {st2 : List Value} (hk21 : S.K a < 21) (hle : leM S S1) (hnx : S1.nx = S.nx ∧ S1.us = S.us) (h : ∀ {p : Program} {l : Launch} {e : Env} {R : Room} {s : State} {m : MethodId} {args : Array Value} {below : List Frame} {meth : Method} {c : Code} {H : Heap} {locs : List Loc} {ls : Array Slot} {k n : Nat} {Qs : State → Prop} {D : va_G} {b0 : Nat},
      p.tables.exec = Jvm.exec → c.code = cc → s.vm.findClass own = some m.cls → (∀ w ∈ TB, w.before args s = true) → va_K D vwCl [] s → meth.name = y.name → Rep D b0 S s H → (∀ (H1 : Heap) (i : Nat), H1.size = H.size → (∀ q, q ≠ a → H1[q]? = H[q]?) → Rep D b0 S1 s H1 → W p l e R s m args below meth c H1 (locs ++ [⟨a, i⟩]) k n Qs (F0 m pc2 ls st2)) → W p l e R s m args below meth c H locs k n Qs (F0 m pc ls st))
    (k : Jw Fz own cc nL ret hh y d S0 S1 pc2 lv st2 Q) : Jw Fz own cc nL ret hh y d S0 S pc lv st Q := by
  obtain ⟨o, S', h1, h2, h3⟩ := k
  refine ⟨o, S', h1, leM.tr hle h2, fun C c1 c2 c3 hr hs hl => ?_⟩
  refine h C.1 C.2.1 C.2.2.2.1 C.2.2.2.2.1 C.2.2.2.2.2.2.2.2.1 C.2.2.2.2.2.2.2.2.2.2.2.2.1 hr (fun H1 i hz ho hR1 => ?_)
  have hb := (hr.2.2 a hk21).1
  rw [← hnx.1, ← hnx.2]
  exact h3 (by rw [hle.2.2]; exact C) (leM.tr c1 hle) c2 c3 hR1 (hs.put' hz ho hb) hl
theorem j_putI {idx a : Nat} {x : Int} (ci k : Nat) {P : Prop} (hF : FLk own idx ci k false true .int) (hd : decode cc pc = .ok (.putfield idx, 3)) (h : S.K a = ci ∧ P) (kk : P → Jw Fz own cc nL ret hh y d S0 (S.setI a k x) (pc + 3) lv st Q) : Jw Fz own cc nL ret hh y d S0 S pc lv (vI x :: vA a :: st) Q := by
  have h12 : ci < 12 := by obtain ⟨C, T, N, ty, hc, hin, hty, hnm, hN, hk, h12, -⟩ := hF; exact h12
  have hnum : (ftI ci)[k]? = some true := by obtain ⟨C, T, N, ty, hc, hin, hty, hnm, hN, hk, h12, hlk, hfin, hC, hnum, htk⟩ := hF; exact hnum
  have hk21 : S.K a < 21 := by rw [h.1]; omega
  refine j_wr (S1 := S.setI a k x) (a := a) hk21 ⟨Nat.le_refl _, Nat.le_refl _, rfl⟩ ⟨rfl, rfl⟩ (fun hx hb ho ht hK _ hR w => ?_) (kk h.2)
  refine w_put hx hb hF ht ho hK (hR.obj h.1 h12) rfl rfl (by rw [fl_len, h.1]) hd (fun H1 i hz hq hat => w H1 i hz hq ?_)
  refine hR.put hz hq rfl rfl rfl ot_setI (fun _ => ⟨fun _ => ?_, fun h7 => ?_⟩)
  · rw [← fl_setI (by rw [h.1]; exact hnum)]
    show va_at _ vwCl (a, .inr (S.K a, _)) H1
    rw [h.1]; exact hat
  · have h7 : 12 ≤ S.K a := h7
    omega
theorem j_putZ {idx a : Nat} {x : Int} (ci k : Nat) {P : Prop} (hF : FLk own idx ci k false true .boolean) (hd : decode cc pc = .ok (.putfield idx, 3)) (h : (S.K a = ci ∧ B01 x) ∧ P) (kk : P → Jw Fz own cc nL ret hh y d S0 (S.setI a k x) (pc + 3) lv st Q) : Jw Fz own cc nL ret hh y d S0 S pc lv (vI x :: vA a :: st) Q := by
  have h12 : ci < 12 := by obtain ⟨C, T, N, ty, hc, hin, hty, hnm, hN, hk, h12, -⟩ := hF; exact h12
  have hnum : (ftI ci)[k]? = some true := by obtain ⟨C, T, N, ty, hc, hin, hty, hnm, hN, hk, h12, hlk, hfin, hC, hnum, htk⟩ := hF; exact hnum
  obtain ⟨⟨h1, hx01⟩, h2⟩ := h
  have hk21 : S.K a < 21 := by rw [h1]; omega
  refine j_wr (S1 := S.setI a k x) (a := a) hk21 ⟨Nat.le_refl _, Nat.le_refl _, rfl⟩ ⟨rfl, rfl⟩ (fun hx hb ho ht hK _ hR w => ?_) (kk h2)
  refine w_put hx hb hF ht ho hK (hR.obj h1 h12) (by rcases hx01 with q | q <;> subst q <;> rfl) (by rcases hx01 with q | q <;> subst q <;> rfl) (by rw [fl_len, h1]) hd (fun H1 i hz hq hat => w H1 i hz hq ?_)
  refine hR.put hz hq rfl rfl rfl ot_setI (fun _ => ⟨fun _ => ?_, fun h7 => ?_⟩)
  · rw [← fl_setI (by rw [h1]; exact hnum)]
    show va_at _ vwCl (a, .inr (S.K a, _)) H1
    rw [h1]; exact hat
  · have h7 : 12 ≤ S.K a := h7
    omega
theorem j_putFI {idx a : Nat} {x : Int} (ci k : Nat) {P : Prop} (hF : FLk own idx ci k true true .int) (hoc : ∀ q, vwCl[ci]? = some q → q.1 = own) (hin : y.name = "<init>") (hd : decode cc pc = .ok (.putfield idx, 3)) (h : S.K a = ci ∧ P) (kk : P → Jw Fz own cc nL ret hh y d S0 (S.setI a k x) (pc + 3) lv st Q) : Jw Fz own cc nL ret hh y d S0 S pc lv (vI x :: vA a :: st) Q := by
  have h12 : ci < 12 := by obtain ⟨C, T, N, ty, hc, hin, hty, hnm, hN, hk, h12, -⟩ := hF; exact h12
  have hnum : (ftI ci)[k]? = some true := by obtain ⟨C, T, N, ty, hc, hin, hty, hnm, hN, hk, h12, hlk, hfin, hC, hnum, htk⟩ := hF; exact hnum
  have hk21 : S.K a < 21 := by rw [h.1]; omega
  refine j_wr (S1 := S.setI a k x) (a := a) hk21 ⟨Nat.le_refl _, Nat.le_refl _, rfl⟩ ⟨rfl, rfl⟩ (fun hx hb ho ht hK hme hR w => ?_) (kk h.2)
  refine w_putF hx hb hF ht ho hoc (hme.trans hin) hK (hR.obj h.1 h12) rfl rfl (by rw [fl_len, h.1]) hd (fun H1 i hz hq hat => w H1 i hz hq ?_)
  refine hR.put hz hq rfl rfl rfl ot_setI (fun _ => ⟨fun _ => ?_, fun h7 => ?_⟩)
  · rw [← fl_setI (by rw [h.1]; exact hnum)]
    show va_at _ vwCl (a, .inr (S.K a, _)) H1
    rw [h.1]; exact hat
  · have h7 : 12 ≤ S.K a := h7
    omega
theorem j_putFR {idx a b : Nat} (ci k : Nat) {t : FieldType} {P : Prop} (hF : FLk own idx ci k true false t) (hoc : ∀ q, vwCl[ci]? = some q → q.1 = own) (hin : y.name = "<init>") (hn : ∀ b, narrow t (.ref b) = .ref b ∧ fits t (.ref b) = true) (hd : decode cc pc = .ok (.putfield idx, 3)) (h : S.K a = ci ∧ P) (kk : P → Jw Fz own cc nL ret hh y d S0 (S.setR a k (some b)) (pc + 3) lv st Q) : Jw Fz own cc nL ret hh y d S0 S pc lv (vA b :: vA a :: st) Q := by
  have h12 : ci < 12 := by obtain ⟨C, T, N, ty, hc, hin, hty, hnm, hN, hk, h12, -⟩ := hF; exact h12
  have hnum : (ftI ci)[k]? = some false := by obtain ⟨C, T, N, ty, hc, hin, hty, hnm, hN, hk, h12, hlk, hfin, hC, hnum, htk⟩ := hF; exact hnum
  have hk21 : S.K a < 21 := by rw [h.1]; omega
  refine j_wr (S1 := S.setR a k (some b)) (a := a) hk21 ⟨Nat.le_refl _, Nat.le_refl _, rfl⟩ ⟨rfl, rfl⟩ (fun hx hb ho ht hK hme hR w => ?_) (kk h.2)
  refine w_putF hx hb hF ht ho hoc (hme.trans hin) hK (hR.obj h.1 h12) (hn b).1 (hn b).2 (by rw [fl_len, h.1]) hd (fun H1 i hz hq hat => w H1 i hz hq ?_)
  refine hR.put hz hq rfl rfl rfl ot_setR (fun _ => ⟨fun _ => ?_, fun h7 => ?_⟩)
  · rw [← fl_setR (by rw [h.1]; exact hnum)]
    show va_at _ vwCl (a, .inr (S.K a, _)) H1
    rw [h.1]; exact hat
  · have h7 : 12 ≤ S.K a := h7
    omega
end JH
