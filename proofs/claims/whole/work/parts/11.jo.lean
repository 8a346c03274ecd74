/-! what a call's end is asked: of an answer of a sort, or of a throw too -/
def oV (P : MS → Prop) : Out → MS → Prop := fun o S1 => (∃ v, o = .inl v ∧ (v = none ∧ P S1)) ∨ ∃ E, o = .inr E ∧ False
def oI (P : Int → MS → Prop) : Out → MS → Prop := fun o S1 => (∃ v, o = .inl v ∧ (∃ r, v = some (vI r) ∧ P r S1)) ∨ ∃ E, o = .inr E ∧ False
def oL (P : BitVec 64 → MS → Prop) : Out → MS → Prop := fun o S1 => (∃ v, o = .inl v ∧ (∃ r, v = some (vL r) ∧ P r S1)) ∨ ∃ E, o = .inr E ∧ False
def oA (P : Nat → MS → Prop) : Out → MS → Prop := fun o S1 => (∃ v, o = .inl v ∧ (∃ r, v = some (vA r) ∧ P r S1)) ∨ ∃ E, o = .inr E ∧ False
def xV (P : MS → Prop) (X : String → MS → Prop) : Out → MS → Prop := fun o S1 => (∃ v, o = .inl v ∧ (v = none ∧ P S1)) ∨ ∃ E, o = .inr E ∧ X E S1
def xI (P : Int → MS → Prop) (X : String → MS → Prop) : Out → MS → Prop := fun o S1 => (∃ v, o = .inl v ∧ (∃ r, v = some (vI r) ∧ P r S1)) ∨ ∃ E, o = .inr E ∧ X E S1
theorem kV {P : MS → Prop} {G : Option Value → MS → Prop} (h : ∀ S1, P S1 → G none S1) : ∀ v S1, (v = none ∧ P S1) → G v S1 := by
  rintro v S1 ⟨rfl, h1⟩; exact h S1 h1
theorem kI {P : Int → MS → Prop} {G : Option Value → MS → Prop} (h : ∀ r S1, P r S1 → G (some (vI r)) S1) : ∀ v S1, (∃ r, v = some (vI r) ∧ P r S1) → G v S1 := by
  rintro v S1 ⟨r, rfl, h1⟩; exact h r S1 h1
theorem kL {P : BitVec 64 → MS → Prop} {G : Option Value → MS → Prop} (h : ∀ r S1, P r S1 → G (some (vL r)) S1) : ∀ v S1, (∃ r, v = some (vL r) ∧ P r S1) → G v S1 := by
  rintro v S1 ⟨r, rfl, h1⟩; exact h r S1 h1
theorem kA {P : Nat → MS → Prop} {G : Option Value → MS → Prop} (h : ∀ r S1, P r S1 → G (some (vA r)) S1) : ∀ v S1, (∃ r, v = some (vA r) ∧ P r S1) → G v S1 := by
  rintro v S1 ⟨r, rfl, h1⟩; exact h r S1 h1
theorem oV_i {P : MS → Prop} {S : MS} (h : P S) : oV P (.inl none) S := Or.inl ⟨_, rfl, rfl, h⟩
theorem oI_i {P : Int → MS → Prop} {S : MS} {r : Int} (h : P r S) : oI P (.inl (some (vI r))) S := Or.inl ⟨_, rfl, _, rfl, h⟩
theorem oL_i {P : BitVec 64 → MS → Prop} {S : MS} {r : BitVec 64} (h : P r S) : oL P (.inl (some (vL r))) S := Or.inl ⟨_, rfl, _, rfl, h⟩
theorem oA_i {P : Nat → MS → Prop} {S : MS} {r : Nat} (h : P r S) : oA P (.inl (some (vA r))) S := Or.inl ⟨_, rfl, _, rfl, h⟩
theorem xV_i {P : MS → Prop} {X : String → MS → Prop} {S : MS} (h : P S) : xV P X (.inl none) S := Or.inl ⟨_, rfl, rfl, h⟩
theorem xI_i {P : Int → MS → Prop} {X : String → MS → Prop} {S : MS} {r : Int} (h : P r S) : xI P X (.inl (some (vI r))) S := Or.inl ⟨_, rfl, _, rfl, h⟩
theorem xV_x {P : MS → Prop} {X : String → MS → Prop} {S : MS} {E : String} (h : X E S) : xV P X (.inr E) S := Or.inr ⟨_, rfl, h⟩
theorem xI_x {P : Int → MS → Prop} {X : String → MS → Prop} {S : MS} {E : String} (h : X E S) : xI P X (.inr E) S := Or.inr ⟨_, rfl, h⟩
theorem j_bind {Fz : FinT} {own : String} {cc : ByteArray} {nL : Nat} {ret : Option FieldType} {hh : List (Nat × Nat × Nat × Nat)} {y : MethodName} {d : Nat} {S0 e : MS} {pc : Nat} {lv : List (Nat × Value)} {st : List Value} {Q : Out → MS → Prop} {P : MS → Prop} (h : ∀ S1, S1 = e → P S1) (k : ∀ S1, P S1 → Jw Fz own cc nL ret hh y d S0 S1 pc lv st Q) : Jw Fz own cc nL ret hh y d S0 e pc lv st Q := k e (h e rfl)
