section JF
variable {Fz : FinT} {own : String} {cc : ByteArray} {nL : Nat} {ret : Option FieldType} {hh : List (Nat × Nat × Nat × Nat)} {y : MethodName} {d : Nat} {S0 S : MS} {pc : Nat} {lv : List (Nat × Value)} {st : List Value} {Q : Out → MS → Prop}
theorem j_newb {at' : ArrayType} {x : Int} (kd : Nat) {P : Prop} (hd : decode cc pc = .ok (.newarray at', 2)) (hty : newarray.typeOf at' = ety kd) (hkd : 12 ≤ kd ∧ kd < 17) (hw : Cond.arrayClass (newarray.typeOf at') ∈ TB) (h : (0 ≤ x ∧ x < 1000000) ∧ P) (k : P → Jw Fz own cc nL ret hh y d S0 (S.mk kd x.toNat) (pc + 2) lv (vA S.nx :: st) Q) : Jw Fz own cc nL ret hh y d S0 S pc lv (vI x :: st) Q := j_newa kd hty hkd hw hd h k
end JF
theorem tsw_2 {x : Int} (h0 : x ≠ 0) (h1 : x ≠ 1) (h2 : x ≠ 2) : x < 0 ∨ 2 < x := by omega
theorem tsw_3 {x : Int} (h0 : x ≠ 0) (h1 : x ≠ 1) (h2 : x ≠ 2) (h3 : x ≠ 3) : x < 0 ∨ 3 < x := by omega
theorem tsw_6 {x : Int} (h0 : x ≠ 0) (h1 : x ≠ 1) (h2 : x ≠ 2) (h3 : x ≠ 3) (h4 : x ≠ 4) (h5 : x ≠ 5) (h6 : x ≠ 6) : x < 0 ∨ 6 < x := by omega
