/-! rows of things: the next one, one behind another -/
theorem i2B_n {a : Nat} (h : a < 128) : i2B (a : Int) = (a : Int) := by
  unfold i2B
  rw [Int8.toInt_toInt32, Int32.toInt_toInt8, r32_to ⟨by omega, by omega⟩]
  apply Int.bmod_eq_of_le <;> omega
theorem i2S_n {a : Nat} (h : a < 32768) : i2S (a : Int) = (a : Int) := by
  unfold i2S
  rw [Int16.toInt_toInt32, Int32.toInt_toInt16, r32_to ⟨by omega, by omega⟩]
  apply Int.bmod_eq_of_le <;> omega
def fct : Nat → Nat
  | 0 => 1
  | n + 1 => (n + 1) * fct n
def pvt (f : Nat → Nat) : Nat → Nat
  | 0 => 0
  | k + 1 => if f (k + 1) < f k then pvt f k else k + 1
def lst (f : Nat → Nat) (v : Nat) : Nat → Nat
  | 0 => 0
  | x + 1 => if f (x + 1) < v then lst f v x else x + 1
def swp (f : Nat → Nat) (a b : Nat) : Nat → Nat := fun p => if p = b then f a else if p = a then f b else f p
def rvs (f : Nat → Nat) (lo hi : Nat) : Nat → Nat := fun p => if lo ≤ p ∧ p ≤ hi then f (lo + hi - p) else f p
def nxt (n : Nat) (f : Nat → Nat) : Nat → Nat :=
  if pvt f (n - 1) = 0 then f else rvs (swp f (pvt f (n - 1) - 1) (lst f (f (pvt f (n - 1) - 1)) (n - 1))) (pvt f (n - 1)) (n - 1)
/-- a row as a number: three bits a place -/
def dig (x p : Nat) : Nat := x / 8 ^ p % 8
def pck (f : Nat → Nat) : Nat → Nat
  | 0 => 0
  | p + 1 => pck f p + f p * 8 ^ p
def nxtP (n x : Nat) : Nat := pck (nxt n (dig x)) n
def rowP (n : Nat) : Nat → Nat
  | 0 => pck id n
  | r + 1 => nxtP n (rowP n r)
def rat (n r p : Nat) : Nat := dig (rowP n r) p
/-- how many of the places behind p (up to n) hold less than the one at p -/
def lsr (f : Nat → Nat) (v : Nat) (a : Nat) : Nat → Nat
  | 0 => 0
  | k + 1 => lsr f v a k + (if f (a + k) < v then 1 else 0)
/-- a row's number -/
def rnk (n : Nat) (f : Nat → Nat) : Nat → Nat
  | 0 => 0
  | p + 1 => rnk n f p * (n - p) + lsr f (f p) (p + 1) (n - 1 - p)
/-- the first place from p on that holds t -/
def fnd (f : Nat → Nat) (t : Nat) : Nat → Nat → Nat
  | 0, p => p
  | j + 1, p => if f p = t then p else fnd f t j (p + 1)
def allB (q : Nat → Bool) : Nat → Bool
  | 0 => true
  | t + 1 => q t && allB q t
theorem allB_iff {q : Nat → Bool} : ∀ {n : Nat}, allB q n = true → ∀ t, t < n → q t = true
  | 0, _, t, ht => absurd ht (Nat.not_lt_zero t)
  | n + 1, h, t, ht => by
    unfold allB at h
    rw [Bool.and_eq_true] at h
    rcases Nat.lt_or_ge t n with k | k
    · exact allB_iff h.2 t k
    · rw [show t = n by omega]; exact h.1
def okR (n r x : Nat) (last : Bool) : Bool := allB (fun p => Nat.blt (dig x p) n && (Nat.beq (fnd (dig x) (dig x p) n 0) p && (Nat.blt (fnd (dig x) p n 0) n && Nat.beq (dig x (fnd (dig x) p n 0)) p))) n && (Nat.beq (rnk n (dig x) n) r && (Nat.beq (pvt (dig x) (n - 1)) 0 == last))
def chkC (n : Nat) : Nat → Nat → Nat → Nat → Bool
  | 0, _, x, y => Nat.beq x y
  | k + 1, r, x, y => okR n r x (Nat.beq (r + 1) (fct n)) && chkC n k (r + 1) (nxtP n x) y
theorem chk3 : chkC 3 6 0 (rowP 3 0) (rowP 3 6) = true := by decide +kernel
theorem chk4 : chkC 4 24 0 (rowP 4 0) (rowP 4 24) = true := by decide +kernel
theorem chk5 : chkC 5 120 0 (rowP 5 0) (rowP 5 120) = true := by decide +kernel
theorem chk6 : chkC 6 720 0 (rowP 6 0) (rowP 6 720) = true := by decide +kernel
-- CHUNKS (written by gen/rows7.py)
theorem chk7_0 : chkC 7 252 0 1754760 1714776 = true := by decide +kernel
theorem chk7_252 : chkC 7 252 252 1714776 1716904 = true := by decide +kernel
theorem chk7_504 : chkC 7 252 504 1716904 1714881 = true := by decide +kernel
theorem chk7_756 : chkC 7 252 756 1714881 1745177 = true := by decide +kernel
theorem chk7_1008 : chkC 7 252 1008 1745177 1640681 = true := by decide +kernel
theorem chk7_1260 : chkC 7 252 1260 1640681 1717058 = true := by decide +kernel
theorem chk7_1512 : chkC 7 252 1512 1717058 1608026 = true := by decide +kernel
theorem chk7_1764 : chkC 7 252 1764 1608026 1151402 = true := by decide +kernel
theorem chk7_2016 : chkC 7 252 2016 1151402 1382787 = true := by decide +kernel
theorem chk7_2268 : chkC 7 252 2268 1382787 1745443 = true := by decide +kernel
theorem chk7_2520 : chkC 7 252 2520 1745443 1382451 = true := by decide +kernel
theorem chk7_2772 : chkC 7 252 2772 1382451 1749132 = true := by decide +kernel
theorem chk7_3024 : chkC 7 252 3024 1749132 1641052 = true := by decide +kernel
theorem chk7_3276 : chkC 7 252 3276 1641052 1413300 = true := by decide +kernel
theorem chk7_3528 : chkC 7 252 3528 1413300 1640653 = true := by decide +kernel
theorem chk7_3780 : chkC 7 252 3780 1640653 1642781 = true := by decide +kernel
theorem chk7_4032 : chkC 7 252 4032 1642781 1082613 = true := by decide +kernel
theorem chk7_4284 : chkC 7 252 4284 1082613 1155406 = true := by decide +kernel
theorem chk7_4536 : chkC 7 252 4536 1155406 1082718 = true := by decide +kernel
theorem chk7_4788 : chkC 7 252 4788 1082718 42798 = true := by decide +kernel
