/-! the orders of the sleepers: the digits of a number, the highest first -/
def dg (S N i : Nat) : Nat := N / S ^ (S - 1 - i) % S
/-- no digit twice: m digits to go, the mask of those had -/
def dsn (S N : Nat) : Nat → Nat → Bool
  | 0, _ => true
  | m + 1, h => bif Nat.testBit h (dg S N m) then false else dsn S N m (h ||| 2 ^ dg S N m)
def anyd (S N i : Nat) : Nat → Bool
  | 0 => false
  | m + 1 => bif Nat.beq (dg S N m) i then true else anyd S N i m
def sur (S N : Nat) : Nat → Bool
  | 0 => true
  | m + 1 => bif anyd S N m S then sur S N m else false
def zrow (S N : Nat) : zz_S := (fun _ i => nI (dg S N i), fun _ _ => 0)
def nmb (S : Nat) (u : Nat → Int32) : Nat → Nat
  | 0 => 0
  | m + 1 => nmb S u m * S + (u m).toNatClampNeg
def same (S N : Nat) (u : Nat → Int32) : Nat → Bool
  | 0 => true
  | m + 1 => bif decide (u m = nI (dg S N m)) then same S N u m else false
/-- the number of the next order, S ^ S if there is none -/
def nx (S N : Nat) : Option Nat :=
  match f_B_goToNextOrder (nI S) (zrow S N) with
  | none => none
  | some (b, t) => if b = 0 then some (S ^ S) else bif decide (b = 1) && Nat.blt (nmb S (t.1 53) S) (S ^ S) && same S (nmb S (t.1 53) S) (t.1 53) S then some (nmb S (t.1 53) S) else none
def wlk (S : Nat) : Nat → Nat → Nat → Nat → Option (Nat × Nat)
  | 0, _, P, k => some (P, k)
  | q + 1, N, P, k => bif dsn S N S 0 then (bif Nat.beq N P && Nat.blt k 720 && sur S N S then (match nx S N with
    | none => none
    | some P' => wlk S q (N + 1) P' (k + 1)) else none) else wlk S q (N + 1) P k
