section JF
variable {Fz : FinT} {own : String} {cc : ByteArray} {nL : Nat} {ret : Option FieldType} {hh : List (Nat × Nat × Nat × Nat)} {y : MethodName} {d : Nat} {S0 S : MS} {pc : Nat} {lv : List (Nat × Value)} {st : List Value} {Q : Out → MS → Prop}
theorem j_newb {at' : ArrayType} {x : Int} (kd : Nat) {P : Prop} (hd : decode cc pc = .ok (.newarray at', 2)) (hty : newarray.typeOf at' = ety kd) (hkd : 12 ≤ kd ∧ kd < 17) (hw : Cond.arrayClass (newarray.typeOf at') ∈ TB) (h : (0 ≤ x ∧ x < 1000000) ∧ P) (k : P → Jw Fz own cc nL ret hh y d S0 (S.mk kd x.toNat) (pc + 2) lv (vA S.nx :: st) Q) : Jw Fz own cc nL ret hh y d S0 S pc lv (vI x :: st) Q := j_newa kd hty hkd hw hd h k
end JF
theorem tsw_2 {x : Int} (h0 : x ≠ 0) (h1 : x ≠ 1) (h2 : x ≠ 2) : x < 0 ∨ 2 < x := by omega
theorem tsw_3 {x : Int} (h0 : x ≠ 0) (h1 : x ≠ 1) (h2 : x ≠ 2) (h3 : x ≠ 3) : x < 0 ∨ 3 < x := by omega
theorem tsw_6 {x : Int} (h0 : x ≠ 0) (h1 : x ≠ 1) (h2 : x ≠ 2) (h3 : x ≠ 3) (h4 : x ≠ 4) (h5 : x ≠ 5) (h6 : x ≠ 6) : x < 0 ∨ 6 < x := by omega
theorem tsw_48 {x : Int} (h0 : x ≠ 0) (h1 : x ≠ 1) (h2 : x ≠ 2) (h3 : x ≠ 3) (h4 : x ≠ 4) (h5 : x ≠ 5) (h6 : x ≠ 6) (h7 : x ≠ 7) (h8 : x ≠ 8) (h9 : x ≠ 9) (h10 : x ≠ 10) (h11 : x ≠ 11) (h12 : x ≠ 12) (h13 : x ≠ 13) (h14 : x ≠ 14) (h15 : x ≠ 15) (h16 : x ≠ 16) (h17 : x ≠ 17) (h18 : x ≠ 18) (h19 : x ≠ 19) (h20 : x ≠ 20) (h21 : x ≠ 21) (h22 : x ≠ 22) (h23 : x ≠ 23) (h24 : x ≠ 24) (h25 : x ≠ 25) (h26 : x ≠ 26) (h27 : x ≠ 27) (h28 : x ≠ 28) (h29 : x ≠ 29) (h30 : x ≠ 30) (h31 : x ≠ 31) (h32 : x ≠ 32) (h33 : x ≠ 33) (h34 : x ≠ 34) (h35 : x ≠ 35) (h36 : x ≠ 36) (h37 : x ≠ 37) (h38 : x ≠ 38) (h39 : x ≠ 39) (h40 : x ≠ 40) (h41 : x ≠ 41) (h42 : x ≠ 42) (h43 : x ≠ 43) (h44 : x ≠ 44) (h45 : x ≠ 45) (h46 : x ≠ 46) (h47 : x ≠ 47) (h48 : x ≠ 48) : x < 0 ∨ 48 < x := by
  by_cases h : x < 0
  · exact Or.inl h
  · by_cases g : 48 < x
    · exact Or.inr g
    · obtain ⟨k, rfl⟩ : ∃ k : Nat, x = (k : Int) := ⟨x.toNat, by omega⟩
      have hk : k < 49 := by omega
      match k, hk with
      | 0, _ => exact absurd rfl h0
      | 1, _ => exact absurd rfl h1
      | 2, _ => exact absurd rfl h2
      | 3, _ => exact absurd rfl h3
      | 4, _ => exact absurd rfl h4
      | 5, _ => exact absurd rfl h5
      | 6, _ => exact absurd rfl h6
      | 7, _ => exact absurd rfl h7
      | 8, _ => exact absurd rfl h8
      | 9, _ => exact absurd rfl h9
      | 10, _ => exact absurd rfl h10
      | 11, _ => exact absurd rfl h11
      | 12, _ => exact absurd rfl h12
      | 13, _ => exact absurd rfl h13
      | 14, _ => exact absurd rfl h14
      | 15, _ => exact absurd rfl h15
      | 16, _ => exact absurd rfl h16
      | 17, _ => exact absurd rfl h17
      | 18, _ => exact absurd rfl h18
      | 19, _ => exact absurd rfl h19
      | 20, _ => exact absurd rfl h20
      | 21, _ => exact absurd rfl h21
      | 22, _ => exact absurd rfl h22
      | 23, _ => exact absurd rfl h23
      | 24, _ => exact absurd rfl h24
      | 25, _ => exact absurd rfl h25
      | 26, _ => exact absurd rfl h26
      | 27, _ => exact absurd rfl h27
      | 28, _ => exact absurd rfl h28
      | 29, _ => exact absurd rfl h29
      | 30, _ => exact absurd rfl h30
      | 31, _ => exact absurd rfl h31
      | 32, _ => exact absurd rfl h32
      | 33, _ => exact absurd rfl h33
      | 34, _ => exact absurd rfl h34
      | 35, _ => exact absurd rfl h35
      | 36, _ => exact absurd rfl h36
      | 37, _ => exact absurd rfl h37
      | 38, _ => exact absurd rfl h38
      | 39, _ => exact absurd rfl h39
      | 40, _ => exact absurd rfl h40
      | 41, _ => exact absurd rfl h41
      | 42, _ => exact absurd rfl h42
      | 43, _ => exact absurd rfl h43
      | 44, _ => exact absurd rfl h44
      | 45, _ => exact absurd rfl h45
      | 46, _ => exact absurd rfl h46
      | 47, _ => exact absurd rfl h47
      | 48, _ => exact absurd rfl h48
      | k + 49, hk => omega
