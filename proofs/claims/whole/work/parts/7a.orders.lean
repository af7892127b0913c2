/-! the orders of the sleepers -/
/-- the digits of a number, the highest first -/
def dgs (S : Nat) : Nat → Nat → List Nat → List Nat
  | 0, _, l => l
  | n + 1, N, l => dgs S n (N / S) (N % S :: l)
/-- no digit twice -/
def dis (S : Nat) : Nat → Nat → Nat → Bool
  | 0, _, _ => true
  | n + 1, N, seen => bif Nat.testBit seen (N % S) then false else dis S n (N / S) (seen + 2 ^ (N % S))
/-- from a number on: the numbers with no digit twice -/
def ors (S : Nat) : Nat → Nat → List Nat
  | 0, _ => []
  | q + 1, N => bif dis S S N 0 then N :: ors S q (N + 1) else ors S q (N + 1)
theorem ors_5 : (ors 5 3125 0).length = 120 := by decide +kernel
theorem ors_6 : (ors 6 7776 0).length = 120 := by decide +kernel
