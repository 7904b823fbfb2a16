/-! ===== the reference: rows of columns ===== -/
def fct : Nat → Nat
  | 0 => 1
  | k + 1 => fct k * (k + 1)
def whl : Nat → Nat → Nat → Nat → Option Nat
  | 0, _, _, _ => none
  | f + 1, u, s, q => if bt1 u q = 1 then whl f u s (q + 1) else if 0 < s then whl f u (s - 1) (q + 1) else some q
def fst (n m : Nat) : Nat → Nat × Nat × Nat × Nat
  | 0 => (m, fct (n - 1), 0, 0)
  | k + 1 => match fst n m k with
    | (r, s, u, o) => (r % s, if 1 < n - k - 1 then s / (n - k - 1) else 1, u ||| 2 ^ ((whl 8 u (r / s) 0).getD 0), o + r / s)
def fcl (n m k : Nat) : Nat := match fst n m k with
  | (r, s, u, _) => (whl 8 u (r / s) 0).getD 0
def fok (n m k : Nat) : Bool := match fst n m k with
  | (r, s, u, o) => Nat.blt 0 s && Nat.blt s 1000 && Nat.blt r 1000 && Nat.blt u 64 && Nat.blt o 100 && (match whl 8 u (r / s) 0 with
    | some q => Nat.blt q n
    | none => false)
def sgn (n m : Nat) : Int := if (fst n m n).2.2.2 % 2 = 0 then 1 else -1
def dpr (s : Int) (R : Nat → Nat → Int) (n m : Nat) : Nat → Int
  | 0 => s
  | k + 1 => dpr s R n m k * R k (fcl n m k)
def dtm (n : Nat) (R : Nat → Nat → Int) (m : Nat) : Int := dpr (sgn n m) R n m n
set_option maxRecDepth 100000 in
theorem fok2 : ∀ m, m < 2 → ∀ k, k < 2 → fok 2 m k = true := by decide +kernel
set_option maxRecDepth 100000 in
theorem fend2 : ∀ m, m < 2 → (fst 2 m 2).2.2.2 < 100 := by decide +kernel
set_option maxRecDepth 100000 in
theorem fok3 : ∀ m, m < 6 → ∀ k, k < 3 → fok 3 m k = true := by decide +kernel
set_option maxRecDepth 100000 in
theorem fend3 : ∀ m, m < 6 → (fst 3 m 3).2.2.2 < 100 := by decide +kernel
set_option maxRecDepth 100000 in
theorem fok4 : ∀ m, m < 24 → ∀ k, k < 4 → fok 4 m k = true := by decide +kernel
set_option maxRecDepth 100000 in
theorem fend4 : ∀ m, m < 24 → (fst 4 m 4).2.2.2 < 100 := by decide +kernel
set_option maxRecDepth 100000 in
theorem fok5 : ∀ m, m < 120 → ∀ k, k < 5 → fok 5 m k = true := by decide +kernel
set_option maxRecDepth 100000 in
theorem fend5 : ∀ m, m < 120 → (fst 5 m 5).2.2.2 < 100 := by decide +kernel
theorem pt2_0 (R : Nat → Nat → Int) : dtm 2 R 0 = 1 * R 0 0 * R 1 1 := by
  show sgn 2 0 * R 0 (fcl 2 0 0) * R 1 (fcl 2 0 1) = _
  rw [show sgn 2 0 = 1 by decide +kernel, show fcl 2 0 0 = 0 by decide +kernel, show fcl 2 0 1 = 1 by decide +kernel]
theorem pt2_1 (R : Nat → Nat → Int) : dtm 2 R 1 = (-1) * R 0 1 * R 1 0 := by
  show sgn 2 1 * R 0 (fcl 2 1 0) * R 1 (fcl 2 1 1) = _
  rw [show sgn 2 1 = -1 by decide +kernel, show fcl 2 1 0 = 1 by decide +kernel, show fcl 2 1 1 = 0 by decide +kernel]
theorem pt3_0 (R : Nat → Nat → Int) : dtm 3 R 0 = 1 * R 0 0 * R 1 1 * R 2 2 := by
  show sgn 3 0 * R 0 (fcl 3 0 0) * R 1 (fcl 3 0 1) * R 2 (fcl 3 0 2) = _
  rw [show sgn 3 0 = 1 by decide +kernel, show fcl 3 0 0 = 0 by decide +kernel, show fcl 3 0 1 = 1 by decide +kernel, show fcl 3 0 2 = 2 by decide +kernel]
theorem pt3_1 (R : Nat → Nat → Int) : dtm 3 R 1 = (-1) * R 0 0 * R 1 2 * R 2 1 := by
  show sgn 3 1 * R 0 (fcl 3 1 0) * R 1 (fcl 3 1 1) * R 2 (fcl 3 1 2) = _
  rw [show sgn 3 1 = -1 by decide +kernel, show fcl 3 1 0 = 0 by decide +kernel, show fcl 3 1 1 = 2 by decide +kernel, show fcl 3 1 2 = 1 by decide +kernel]
theorem pt3_2 (R : Nat → Nat → Int) : dtm 3 R 2 = (-1) * R 0 1 * R 1 0 * R 2 2 := by
  show sgn 3 2 * R 0 (fcl 3 2 0) * R 1 (fcl 3 2 1) * R 2 (fcl 3 2 2) = _
  rw [show sgn 3 2 = -1 by decide +kernel, show fcl 3 2 0 = 1 by decide +kernel, show fcl 3 2 1 = 0 by decide +kernel, show fcl 3 2 2 = 2 by decide +kernel]
theorem pt3_3 (R : Nat → Nat → Int) : dtm 3 R 3 = 1 * R 0 1 * R 1 2 * R 2 0 := by
  show sgn 3 3 * R 0 (fcl 3 3 0) * R 1 (fcl 3 3 1) * R 2 (fcl 3 3 2) = _
  rw [show sgn 3 3 = 1 by decide +kernel, show fcl 3 3 0 = 1 by decide +kernel, show fcl 3 3 1 = 2 by decide +kernel, show fcl 3 3 2 = 0 by decide +kernel]
theorem pt3_4 (R : Nat → Nat → Int) : dtm 3 R 4 = 1 * R 0 2 * R 1 0 * R 2 1 := by
  show sgn 3 4 * R 0 (fcl 3 4 0) * R 1 (fcl 3 4 1) * R 2 (fcl 3 4 2) = _
  rw [show sgn 3 4 = 1 by decide +kernel, show fcl 3 4 0 = 2 by decide +kernel, show fcl 3 4 1 = 0 by decide +kernel, show fcl 3 4 2 = 1 by decide +kernel]
theorem pt3_5 (R : Nat → Nat → Int) : dtm 3 R 5 = (-1) * R 0 2 * R 1 1 * R 2 0 := by
  show sgn 3 5 * R 0 (fcl 3 5 0) * R 1 (fcl 3 5 1) * R 2 (fcl 3 5 2) = _
  rw [show sgn 3 5 = -1 by decide +kernel, show fcl 3 5 0 = 2 by decide +kernel, show fcl 3 5 1 = 1 by decide +kernel, show fcl 3 5 2 = 0 by decide +kernel]
theorem pt4_0 (R : Nat → Nat → Int) : dtm 4 R 0 = 1 * R 0 0 * R 1 1 * R 2 2 * R 3 3 := by
  show sgn 4 0 * R 0 (fcl 4 0 0) * R 1 (fcl 4 0 1) * R 2 (fcl 4 0 2) * R 3 (fcl 4 0 3) = _
  rw [show sgn 4 0 = 1 by decide +kernel, show fcl 4 0 0 = 0 by decide +kernel, show fcl 4 0 1 = 1 by decide +kernel, show fcl 4 0 2 = 2 by decide +kernel, show fcl 4 0 3 = 3 by decide +kernel]
theorem pt4_1 (R : Nat → Nat → Int) : dtm 4 R 1 = (-1) * R 0 0 * R 1 1 * R 2 3 * R 3 2 := by
  show sgn 4 1 * R 0 (fcl 4 1 0) * R 1 (fcl 4 1 1) * R 2 (fcl 4 1 2) * R 3 (fcl 4 1 3) = _
  rw [show sgn 4 1 = -1 by decide +kernel, show fcl 4 1 0 = 0 by decide +kernel, show fcl 4 1 1 = 1 by decide +kernel, show fcl 4 1 2 = 3 by decide +kernel, show fcl 4 1 3 = 2 by decide +kernel]
theorem pt4_2 (R : Nat → Nat → Int) : dtm 4 R 2 = (-1) * R 0 0 * R 1 2 * R 2 1 * R 3 3 := by
  show sgn 4 2 * R 0 (fcl 4 2 0) * R 1 (fcl 4 2 1) * R 2 (fcl 4 2 2) * R 3 (fcl 4 2 3) = _
  rw [show sgn 4 2 = -1 by decide +kernel, show fcl 4 2 0 = 0 by decide +kernel, show fcl 4 2 1 = 2 by decide +kernel, show fcl 4 2 2 = 1 by decide +kernel, show fcl 4 2 3 = 3 by decide +kernel]
theorem pt4_3 (R : Nat → Nat → Int) : dtm 4 R 3 = 1 * R 0 0 * R 1 2 * R 2 3 * R 3 1 := by
  show sgn 4 3 * R 0 (fcl 4 3 0) * R 1 (fcl 4 3 1) * R 2 (fcl 4 3 2) * R 3 (fcl 4 3 3) = _
  rw [show sgn 4 3 = 1 by decide +kernel, show fcl 4 3 0 = 0 by decide +kernel, show fcl 4 3 1 = 2 by decide +kernel, show fcl 4 3 2 = 3 by decide +kernel, show fcl 4 3 3 = 1 by decide +kernel]
theorem pt4_4 (R : Nat → Nat → Int) : dtm 4 R 4 = 1 * R 0 0 * R 1 3 * R 2 1 * R 3 2 := by
  show sgn 4 4 * R 0 (fcl 4 4 0) * R 1 (fcl 4 4 1) * R 2 (fcl 4 4 2) * R 3 (fcl 4 4 3) = _
  rw [show sgn 4 4 = 1 by decide +kernel, show fcl 4 4 0 = 0 by decide +kernel, show fcl 4 4 1 = 3 by decide +kernel, show fcl 4 4 2 = 1 by decide +kernel, show fcl 4 4 3 = 2 by decide +kernel]
theorem pt4_5 (R : Nat → Nat → Int) : dtm 4 R 5 = (-1) * R 0 0 * R 1 3 * R 2 2 * R 3 1 := by
  show sgn 4 5 * R 0 (fcl 4 5 0) * R 1 (fcl 4 5 1) * R 2 (fcl 4 5 2) * R 3 (fcl 4 5 3) = _
  rw [show sgn 4 5 = -1 by decide +kernel, show fcl 4 5 0 = 0 by decide +kernel, show fcl 4 5 1 = 3 by decide +kernel, show fcl 4 5 2 = 2 by decide +kernel, show fcl 4 5 3 = 1 by decide +kernel]
theorem pt4_6 (R : Nat → Nat → Int) : dtm 4 R 6 = (-1) * R 0 1 * R 1 0 * R 2 2 * R 3 3 := by
  show sgn 4 6 * R 0 (fcl 4 6 0) * R 1 (fcl 4 6 1) * R 2 (fcl 4 6 2) * R 3 (fcl 4 6 3) = _
  rw [show sgn 4 6 = -1 by decide +kernel, show fcl 4 6 0 = 1 by decide +kernel, show fcl 4 6 1 = 0 by decide +kernel, show fcl 4 6 2 = 2 by decide +kernel, show fcl 4 6 3 = 3 by decide +kernel]
theorem pt4_7 (R : Nat → Nat → Int) : dtm 4 R 7 = 1 * R 0 1 * R 1 0 * R 2 3 * R 3 2 := by
  show sgn 4 7 * R 0 (fcl 4 7 0) * R 1 (fcl 4 7 1) * R 2 (fcl 4 7 2) * R 3 (fcl 4 7 3) = _
  rw [show sgn 4 7 = 1 by decide +kernel, show fcl 4 7 0 = 1 by decide +kernel, show fcl 4 7 1 = 0 by decide +kernel, show fcl 4 7 2 = 3 by decide +kernel, show fcl 4 7 3 = 2 by decide +kernel]
theorem pt4_8 (R : Nat → Nat → Int) : dtm 4 R 8 = 1 * R 0 1 * R 1 2 * R 2 0 * R 3 3 := by
  show sgn 4 8 * R 0 (fcl 4 8 0) * R 1 (fcl 4 8 1) * R 2 (fcl 4 8 2) * R 3 (fcl 4 8 3) = _
  rw [show sgn 4 8 = 1 by decide +kernel, show fcl 4 8 0 = 1 by decide +kernel, show fcl 4 8 1 = 2 by decide +kernel, show fcl 4 8 2 = 0 by decide +kernel, show fcl 4 8 3 = 3 by decide +kernel]
theorem pt4_9 (R : Nat → Nat → Int) : dtm 4 R 9 = (-1) * R 0 1 * R 1 2 * R 2 3 * R 3 0 := by
  show sgn 4 9 * R 0 (fcl 4 9 0) * R 1 (fcl 4 9 1) * R 2 (fcl 4 9 2) * R 3 (fcl 4 9 3) = _
  rw [show sgn 4 9 = -1 by decide +kernel, show fcl 4 9 0 = 1 by decide +kernel, show fcl 4 9 1 = 2 by decide +kernel, show fcl 4 9 2 = 3 by decide +kernel, show fcl 4 9 3 = 0 by decide +kernel]
theorem pt4_10 (R : Nat → Nat → Int) : dtm 4 R 10 = (-1) * R 0 1 * R 1 3 * R 2 0 * R 3 2 := by
  show sgn 4 10 * R 0 (fcl 4 10 0) * R 1 (fcl 4 10 1) * R 2 (fcl 4 10 2) * R 3 (fcl 4 10 3) = _
  rw [show sgn 4 10 = -1 by decide +kernel, show fcl 4 10 0 = 1 by decide +kernel, show fcl 4 10 1 = 3 by decide +kernel, show fcl 4 10 2 = 0 by decide +kernel, show fcl 4 10 3 = 2 by decide +kernel]
theorem pt4_11 (R : Nat → Nat → Int) : dtm 4 R 11 = 1 * R 0 1 * R 1 3 * R 2 2 * R 3 0 := by
  show sgn 4 11 * R 0 (fcl 4 11 0) * R 1 (fcl 4 11 1) * R 2 (fcl 4 11 2) * R 3 (fcl 4 11 3) = _
  rw [show sgn 4 11 = 1 by decide +kernel, show fcl 4 11 0 = 1 by decide +kernel, show fcl 4 11 1 = 3 by decide +kernel, show fcl 4 11 2 = 2 by decide +kernel, show fcl 4 11 3 = 0 by decide +kernel]
theorem pt4_12 (R : Nat → Nat → Int) : dtm 4 R 12 = 1 * R 0 2 * R 1 0 * R 2 1 * R 3 3 := by
  show sgn 4 12 * R 0 (fcl 4 12 0) * R 1 (fcl 4 12 1) * R 2 (fcl 4 12 2) * R 3 (fcl 4 12 3) = _
  rw [show sgn 4 12 = 1 by decide +kernel, show fcl 4 12 0 = 2 by decide +kernel, show fcl 4 12 1 = 0 by decide +kernel, show fcl 4 12 2 = 1 by decide +kernel, show fcl 4 12 3 = 3 by decide +kernel]
theorem pt4_13 (R : Nat → Nat → Int) : dtm 4 R 13 = (-1) * R 0 2 * R 1 0 * R 2 3 * R 3 1 := by
  show sgn 4 13 * R 0 (fcl 4 13 0) * R 1 (fcl 4 13 1) * R 2 (fcl 4 13 2) * R 3 (fcl 4 13 3) = _
  rw [show sgn 4 13 = -1 by decide +kernel, show fcl 4 13 0 = 2 by decide +kernel, show fcl 4 13 1 = 0 by decide +kernel, show fcl 4 13 2 = 3 by decide +kernel, show fcl 4 13 3 = 1 by decide +kernel]
theorem pt4_14 (R : Nat → Nat → Int) : dtm 4 R 14 = (-1) * R 0 2 * R 1 1 * R 2 0 * R 3 3 := by
  show sgn 4 14 * R 0 (fcl 4 14 0) * R 1 (fcl 4 14 1) * R 2 (fcl 4 14 2) * R 3 (fcl 4 14 3) = _
  rw [show sgn 4 14 = -1 by decide +kernel, show fcl 4 14 0 = 2 by decide +kernel, show fcl 4 14 1 = 1 by decide +kernel, show fcl 4 14 2 = 0 by decide +kernel, show fcl 4 14 3 = 3 by decide +kernel]
theorem pt4_15 (R : Nat → Nat → Int) : dtm 4 R 15 = 1 * R 0 2 * R 1 1 * R 2 3 * R 3 0 := by
  show sgn 4 15 * R 0 (fcl 4 15 0) * R 1 (fcl 4 15 1) * R 2 (fcl 4 15 2) * R 3 (fcl 4 15 3) = _
  rw [show sgn 4 15 = 1 by decide +kernel, show fcl 4 15 0 = 2 by decide +kernel, show fcl 4 15 1 = 1 by decide +kernel, show fcl 4 15 2 = 3 by decide +kernel, show fcl 4 15 3 = 0 by decide +kernel]
theorem pt4_16 (R : Nat → Nat → Int) : dtm 4 R 16 = 1 * R 0 2 * R 1 3 * R 2 0 * R 3 1 := by
  show sgn 4 16 * R 0 (fcl 4 16 0) * R 1 (fcl 4 16 1) * R 2 (fcl 4 16 2) * R 3 (fcl 4 16 3) = _
  rw [show sgn 4 16 = 1 by decide +kernel, show fcl 4 16 0 = 2 by decide +kernel, show fcl 4 16 1 = 3 by decide +kernel, show fcl 4 16 2 = 0 by decide +kernel, show fcl 4 16 3 = 1 by decide +kernel]
theorem pt4_17 (R : Nat → Nat → Int) : dtm 4 R 17 = (-1) * R 0 2 * R 1 3 * R 2 1 * R 3 0 := by
  show sgn 4 17 * R 0 (fcl 4 17 0) * R 1 (fcl 4 17 1) * R 2 (fcl 4 17 2) * R 3 (fcl 4 17 3) = _
  rw [show sgn 4 17 = -1 by decide +kernel, show fcl 4 17 0 = 2 by decide +kernel, show fcl 4 17 1 = 3 by decide +kernel, show fcl 4 17 2 = 1 by decide +kernel, show fcl 4 17 3 = 0 by decide +kernel]
theorem pt4_18 (R : Nat → Nat → Int) : dtm 4 R 18 = (-1) * R 0 3 * R 1 0 * R 2 1 * R 3 2 := by
  show sgn 4 18 * R 0 (fcl 4 18 0) * R 1 (fcl 4 18 1) * R 2 (fcl 4 18 2) * R 3 (fcl 4 18 3) = _
  rw [show sgn 4 18 = -1 by decide +kernel, show fcl 4 18 0 = 3 by decide +kernel, show fcl 4 18 1 = 0 by decide +kernel, show fcl 4 18 2 = 1 by decide +kernel, show fcl 4 18 3 = 2 by decide +kernel]
theorem pt4_19 (R : Nat → Nat → Int) : dtm 4 R 19 = 1 * R 0 3 * R 1 0 * R 2 2 * R 3 1 := by
  show sgn 4 19 * R 0 (fcl 4 19 0) * R 1 (fcl 4 19 1) * R 2 (fcl 4 19 2) * R 3 (fcl 4 19 3) = _
  rw [show sgn 4 19 = 1 by decide +kernel, show fcl 4 19 0 = 3 by decide +kernel, show fcl 4 19 1 = 0 by decide +kernel, show fcl 4 19 2 = 2 by decide +kernel, show fcl 4 19 3 = 1 by decide +kernel]
theorem pt4_20 (R : Nat → Nat → Int) : dtm 4 R 20 = 1 * R 0 3 * R 1 1 * R 2 0 * R 3 2 := by
  show sgn 4 20 * R 0 (fcl 4 20 0) * R 1 (fcl 4 20 1) * R 2 (fcl 4 20 2) * R 3 (fcl 4 20 3) = _
  rw [show sgn 4 20 = 1 by decide +kernel, show fcl 4 20 0 = 3 by decide +kernel, show fcl 4 20 1 = 1 by decide +kernel, show fcl 4 20 2 = 0 by decide +kernel, show fcl 4 20 3 = 2 by decide +kernel]
theorem pt4_21 (R : Nat → Nat → Int) : dtm 4 R 21 = (-1) * R 0 3 * R 1 1 * R 2 2 * R 3 0 := by
  show sgn 4 21 * R 0 (fcl 4 21 0) * R 1 (fcl 4 21 1) * R 2 (fcl 4 21 2) * R 3 (fcl 4 21 3) = _
  rw [show sgn 4 21 = -1 by decide +kernel, show fcl 4 21 0 = 3 by decide +kernel, show fcl 4 21 1 = 1 by decide +kernel, show fcl 4 21 2 = 2 by decide +kernel, show fcl 4 21 3 = 0 by decide +kernel]
theorem pt4_22 (R : Nat → Nat → Int) : dtm 4 R 22 = (-1) * R 0 3 * R 1 2 * R 2 0 * R 3 1 := by
  show sgn 4 22 * R 0 (fcl 4 22 0) * R 1 (fcl 4 22 1) * R 2 (fcl 4 22 2) * R 3 (fcl 4 22 3) = _
  rw [show sgn 4 22 = -1 by decide +kernel, show fcl 4 22 0 = 3 by decide +kernel, show fcl 4 22 1 = 2 by decide +kernel, show fcl 4 22 2 = 0 by decide +kernel, show fcl 4 22 3 = 1 by decide +kernel]
theorem pt4_23 (R : Nat → Nat → Int) : dtm 4 R 23 = 1 * R 0 3 * R 1 2 * R 2 1 * R 3 0 := by
  show sgn 4 23 * R 0 (fcl 4 23 0) * R 1 (fcl 4 23 1) * R 2 (fcl 4 23 2) * R 3 (fcl 4 23 3) = _
  rw [show sgn 4 23 = 1 by decide +kernel, show fcl 4 23 0 = 3 by decide +kernel, show fcl 4 23 1 = 2 by decide +kernel, show fcl 4 23 2 = 1 by decide +kernel, show fcl 4 23 3 = 0 by decide +kernel]
theorem pt5_0 (R : Nat → Nat → Int) : dtm 5 R 0 = 1 * R 0 0 * R 1 1 * R 2 2 * R 3 3 * R 4 4 := by
  show sgn 5 0 * R 0 (fcl 5 0 0) * R 1 (fcl 5 0 1) * R 2 (fcl 5 0 2) * R 3 (fcl 5 0 3) * R 4 (fcl 5 0 4) = _
  rw [show sgn 5 0 = 1 by decide +kernel, show fcl 5 0 0 = 0 by decide +kernel, show fcl 5 0 1 = 1 by decide +kernel, show fcl 5 0 2 = 2 by decide +kernel, show fcl 5 0 3 = 3 by decide +kernel, show fcl 5 0 4 = 4 by decide +kernel]
theorem pt5_1 (R : Nat → Nat → Int) : dtm 5 R 1 = (-1) * R 0 0 * R 1 1 * R 2 2 * R 3 4 * R 4 3 := by
  show sgn 5 1 * R 0 (fcl 5 1 0) * R 1 (fcl 5 1 1) * R 2 (fcl 5 1 2) * R 3 (fcl 5 1 3) * R 4 (fcl 5 1 4) = _
  rw [show sgn 5 1 = -1 by decide +kernel, show fcl 5 1 0 = 0 by decide +kernel, show fcl 5 1 1 = 1 by decide +kernel, show fcl 5 1 2 = 2 by decide +kernel, show fcl 5 1 3 = 4 by decide +kernel, show fcl 5 1 4 = 3 by decide +kernel]
theorem pt5_2 (R : Nat → Nat → Int) : dtm 5 R 2 = (-1) * R 0 0 * R 1 1 * R 2 3 * R 3 2 * R 4 4 := by
  show sgn 5 2 * R 0 (fcl 5 2 0) * R 1 (fcl 5 2 1) * R 2 (fcl 5 2 2) * R 3 (fcl 5 2 3) * R 4 (fcl 5 2 4) = _
  rw [show sgn 5 2 = -1 by decide +kernel, show fcl 5 2 0 = 0 by decide +kernel, show fcl 5 2 1 = 1 by decide +kernel, show fcl 5 2 2 = 3 by decide +kernel, show fcl 5 2 3 = 2 by decide +kernel, show fcl 5 2 4 = 4 by decide +kernel]
theorem pt5_3 (R : Nat → Nat → Int) : dtm 5 R 3 = 1 * R 0 0 * R 1 1 * R 2 3 * R 3 4 * R 4 2 := by
  show sgn 5 3 * R 0 (fcl 5 3 0) * R 1 (fcl 5 3 1) * R 2 (fcl 5 3 2) * R 3 (fcl 5 3 3) * R 4 (fcl 5 3 4) = _
  rw [show sgn 5 3 = 1 by decide +kernel, show fcl 5 3 0 = 0 by decide +kernel, show fcl 5 3 1 = 1 by decide +kernel, show fcl 5 3 2 = 3 by decide +kernel, show fcl 5 3 3 = 4 by decide +kernel, show fcl 5 3 4 = 2 by decide +kernel]
theorem pt5_4 (R : Nat → Nat → Int) : dtm 5 R 4 = 1 * R 0 0 * R 1 1 * R 2 4 * R 3 2 * R 4 3 := by
  show sgn 5 4 * R 0 (fcl 5 4 0) * R 1 (fcl 5 4 1) * R 2 (fcl 5 4 2) * R 3 (fcl 5 4 3) * R 4 (fcl 5 4 4) = _
  rw [show sgn 5 4 = 1 by decide +kernel, show fcl 5 4 0 = 0 by decide +kernel, show fcl 5 4 1 = 1 by decide +kernel, show fcl 5 4 2 = 4 by decide +kernel, show fcl 5 4 3 = 2 by decide +kernel, show fcl 5 4 4 = 3 by decide +kernel]
theorem pt5_5 (R : Nat → Nat → Int) : dtm 5 R 5 = (-1) * R 0 0 * R 1 1 * R 2 4 * R 3 3 * R 4 2 := by
  show sgn 5 5 * R 0 (fcl 5 5 0) * R 1 (fcl 5 5 1) * R 2 (fcl 5 5 2) * R 3 (fcl 5 5 3) * R 4 (fcl 5 5 4) = _
  rw [show sgn 5 5 = -1 by decide +kernel, show fcl 5 5 0 = 0 by decide +kernel, show fcl 5 5 1 = 1 by decide +kernel, show fcl 5 5 2 = 4 by decide +kernel, show fcl 5 5 3 = 3 by decide +kernel, show fcl 5 5 4 = 2 by decide +kernel]
theorem pt5_6 (R : Nat → Nat → Int) : dtm 5 R 6 = (-1) * R 0 0 * R 1 2 * R 2 1 * R 3 3 * R 4 4 := by
  show sgn 5 6 * R 0 (fcl 5 6 0) * R 1 (fcl 5 6 1) * R 2 (fcl 5 6 2) * R 3 (fcl 5 6 3) * R 4 (fcl 5 6 4) = _
  rw [show sgn 5 6 = -1 by decide +kernel, show fcl 5 6 0 = 0 by decide +kernel, show fcl 5 6 1 = 2 by decide +kernel, show fcl 5 6 2 = 1 by decide +kernel, show fcl 5 6 3 = 3 by decide +kernel, show fcl 5 6 4 = 4 by decide +kernel]
theorem pt5_7 (R : Nat → Nat → Int) : dtm 5 R 7 = 1 * R 0 0 * R 1 2 * R 2 1 * R 3 4 * R 4 3 := by
  show sgn 5 7 * R 0 (fcl 5 7 0) * R 1 (fcl 5 7 1) * R 2 (fcl 5 7 2) * R 3 (fcl 5 7 3) * R 4 (fcl 5 7 4) = _
  rw [show sgn 5 7 = 1 by decide +kernel, show fcl 5 7 0 = 0 by decide +kernel, show fcl 5 7 1 = 2 by decide +kernel, show fcl 5 7 2 = 1 by decide +kernel, show fcl 5 7 3 = 4 by decide +kernel, show fcl 5 7 4 = 3 by decide +kernel]
theorem pt5_8 (R : Nat → Nat → Int) : dtm 5 R 8 = 1 * R 0 0 * R 1 2 * R 2 3 * R 3 1 * R 4 4 := by
  show sgn 5 8 * R 0 (fcl 5 8 0) * R 1 (fcl 5 8 1) * R 2 (fcl 5 8 2) * R 3 (fcl 5 8 3) * R 4 (fcl 5 8 4) = _
  rw [show sgn 5 8 = 1 by decide +kernel, show fcl 5 8 0 = 0 by decide +kernel, show fcl 5 8 1 = 2 by decide +kernel, show fcl 5 8 2 = 3 by decide +kernel, show fcl 5 8 3 = 1 by decide +kernel, show fcl 5 8 4 = 4 by decide +kernel]
theorem pt5_9 (R : Nat → Nat → Int) : dtm 5 R 9 = (-1) * R 0 0 * R 1 2 * R 2 3 * R 3 4 * R 4 1 := by
  show sgn 5 9 * R 0 (fcl 5 9 0) * R 1 (fcl 5 9 1) * R 2 (fcl 5 9 2) * R 3 (fcl 5 9 3) * R 4 (fcl 5 9 4) = _
  rw [show sgn 5 9 = -1 by decide +kernel, show fcl 5 9 0 = 0 by decide +kernel, show fcl 5 9 1 = 2 by decide +kernel, show fcl 5 9 2 = 3 by decide +kernel, show fcl 5 9 3 = 4 by decide +kernel, show fcl 5 9 4 = 1 by decide +kernel]
theorem pt5_10 (R : Nat → Nat → Int) : dtm 5 R 10 = (-1) * R 0 0 * R 1 2 * R 2 4 * R 3 1 * R 4 3 := by
  show sgn 5 10 * R 0 (fcl 5 10 0) * R 1 (fcl 5 10 1) * R 2 (fcl 5 10 2) * R 3 (fcl 5 10 3) * R 4 (fcl 5 10 4) = _
  rw [show sgn 5 10 = -1 by decide +kernel, show fcl 5 10 0 = 0 by decide +kernel, show fcl 5 10 1 = 2 by decide +kernel, show fcl 5 10 2 = 4 by decide +kernel, show fcl 5 10 3 = 1 by decide +kernel, show fcl 5 10 4 = 3 by decide +kernel]
theorem pt5_11 (R : Nat → Nat → Int) : dtm 5 R 11 = 1 * R 0 0 * R 1 2 * R 2 4 * R 3 3 * R 4 1 := by
  show sgn 5 11 * R 0 (fcl 5 11 0) * R 1 (fcl 5 11 1) * R 2 (fcl 5 11 2) * R 3 (fcl 5 11 3) * R 4 (fcl 5 11 4) = _
  rw [show sgn 5 11 = 1 by decide +kernel, show fcl 5 11 0 = 0 by decide +kernel, show fcl 5 11 1 = 2 by decide +kernel, show fcl 5 11 2 = 4 by decide +kernel, show fcl 5 11 3 = 3 by decide +kernel, show fcl 5 11 4 = 1 by decide +kernel]
theorem pt5_12 (R : Nat → Nat → Int) : dtm 5 R 12 = 1 * R 0 0 * R 1 3 * R 2 1 * R 3 2 * R 4 4 := by
  show sgn 5 12 * R 0 (fcl 5 12 0) * R 1 (fcl 5 12 1) * R 2 (fcl 5 12 2) * R 3 (fcl 5 12 3) * R 4 (fcl 5 12 4) = _
  rw [show sgn 5 12 = 1 by decide +kernel, show fcl 5 12 0 = 0 by decide +kernel, show fcl 5 12 1 = 3 by decide +kernel, show fcl 5 12 2 = 1 by decide +kernel, show fcl 5 12 3 = 2 by decide +kernel, show fcl 5 12 4 = 4 by decide +kernel]
theorem pt5_13 (R : Nat → Nat → Int) : dtm 5 R 13 = (-1) * R 0 0 * R 1 3 * R 2 1 * R 3 4 * R 4 2 := by
  show sgn 5 13 * R 0 (fcl 5 13 0) * R 1 (fcl 5 13 1) * R 2 (fcl 5 13 2) * R 3 (fcl 5 13 3) * R 4 (fcl 5 13 4) = _
  rw [show sgn 5 13 = -1 by decide +kernel, show fcl 5 13 0 = 0 by decide +kernel, show fcl 5 13 1 = 3 by decide +kernel, show fcl 5 13 2 = 1 by decide +kernel, show fcl 5 13 3 = 4 by decide +kernel, show fcl 5 13 4 = 2 by decide +kernel]
theorem pt5_14 (R : Nat → Nat → Int) : dtm 5 R 14 = (-1) * R 0 0 * R 1 3 * R 2 2 * R 3 1 * R 4 4 := by
  show sgn 5 14 * R 0 (fcl 5 14 0) * R 1 (fcl 5 14 1) * R 2 (fcl 5 14 2) * R 3 (fcl 5 14 3) * R 4 (fcl 5 14 4) = _
  rw [show sgn 5 14 = -1 by decide +kernel, show fcl 5 14 0 = 0 by decide +kernel, show fcl 5 14 1 = 3 by decide +kernel, show fcl 5 14 2 = 2 by decide +kernel, show fcl 5 14 3 = 1 by decide +kernel, show fcl 5 14 4 = 4 by decide +kernel]
theorem pt5_15 (R : Nat → Nat → Int) : dtm 5 R 15 = 1 * R 0 0 * R 1 3 * R 2 2 * R 3 4 * R 4 1 := by
  show sgn 5 15 * R 0 (fcl 5 15 0) * R 1 (fcl 5 15 1) * R 2 (fcl 5 15 2) * R 3 (fcl 5 15 3) * R 4 (fcl 5 15 4) = _
  rw [show sgn 5 15 = 1 by decide +kernel, show fcl 5 15 0 = 0 by decide +kernel, show fcl 5 15 1 = 3 by decide +kernel, show fcl 5 15 2 = 2 by decide +kernel, show fcl 5 15 3 = 4 by decide +kernel, show fcl 5 15 4 = 1 by decide +kernel]
theorem pt5_16 (R : Nat → Nat → Int) : dtm 5 R 16 = 1 * R 0 0 * R 1 3 * R 2 4 * R 3 1 * R 4 2 := by
  show sgn 5 16 * R 0 (fcl 5 16 0) * R 1 (fcl 5 16 1) * R 2 (fcl 5 16 2) * R 3 (fcl 5 16 3) * R 4 (fcl 5 16 4) = _
  rw [show sgn 5 16 = 1 by decide +kernel, show fcl 5 16 0 = 0 by decide +kernel, show fcl 5 16 1 = 3 by decide +kernel, show fcl 5 16 2 = 4 by decide +kernel, show fcl 5 16 3 = 1 by decide +kernel, show fcl 5 16 4 = 2 by decide +kernel]
theorem pt5_17 (R : Nat → Nat → Int) : dtm 5 R 17 = (-1) * R 0 0 * R 1 3 * R 2 4 * R 3 2 * R 4 1 := by
  show sgn 5 17 * R 0 (fcl 5 17 0) * R 1 (fcl 5 17 1) * R 2 (fcl 5 17 2) * R 3 (fcl 5 17 3) * R 4 (fcl 5 17 4) = _
  rw [show sgn 5 17 = -1 by decide +kernel, show fcl 5 17 0 = 0 by decide +kernel, show fcl 5 17 1 = 3 by decide +kernel, show fcl 5 17 2 = 4 by decide +kernel, show fcl 5 17 3 = 2 by decide +kernel, show fcl 5 17 4 = 1 by decide +kernel]
theorem pt5_18 (R : Nat → Nat → Int) : dtm 5 R 18 = (-1) * R 0 0 * R 1 4 * R 2 1 * R 3 2 * R 4 3 := by
  show sgn 5 18 * R 0 (fcl 5 18 0) * R 1 (fcl 5 18 1) * R 2 (fcl 5 18 2) * R 3 (fcl 5 18 3) * R 4 (fcl 5 18 4) = _
  rw [show sgn 5 18 = -1 by decide +kernel, show fcl 5 18 0 = 0 by decide +kernel, show fcl 5 18 1 = 4 by decide +kernel, show fcl 5 18 2 = 1 by decide +kernel, show fcl 5 18 3 = 2 by decide +kernel, show fcl 5 18 4 = 3 by decide +kernel]
theorem pt5_19 (R : Nat → Nat → Int) : dtm 5 R 19 = 1 * R 0 0 * R 1 4 * R 2 1 * R 3 3 * R 4 2 := by
  show sgn 5 19 * R 0 (fcl 5 19 0) * R 1 (fcl 5 19 1) * R 2 (fcl 5 19 2) * R 3 (fcl 5 19 3) * R 4 (fcl 5 19 4) = _
  rw [show sgn 5 19 = 1 by decide +kernel, show fcl 5 19 0 = 0 by decide +kernel, show fcl 5 19 1 = 4 by decide +kernel, show fcl 5 19 2 = 1 by decide +kernel, show fcl 5 19 3 = 3 by decide +kernel, show fcl 5 19 4 = 2 by decide +kernel]
theorem pt5_20 (R : Nat → Nat → Int) : dtm 5 R 20 = 1 * R 0 0 * R 1 4 * R 2 2 * R 3 1 * R 4 3 := by
  show sgn 5 20 * R 0 (fcl 5 20 0) * R 1 (fcl 5 20 1) * R 2 (fcl 5 20 2) * R 3 (fcl 5 20 3) * R 4 (fcl 5 20 4) = _
  rw [show sgn 5 20 = 1 by decide +kernel, show fcl 5 20 0 = 0 by decide +kernel, show fcl 5 20 1 = 4 by decide +kernel, show fcl 5 20 2 = 2 by decide +kernel, show fcl 5 20 3 = 1 by decide +kernel, show fcl 5 20 4 = 3 by decide +kernel]
theorem pt5_21 (R : Nat → Nat → Int) : dtm 5 R 21 = (-1) * R 0 0 * R 1 4 * R 2 2 * R 3 3 * R 4 1 := by
  show sgn 5 21 * R 0 (fcl 5 21 0) * R 1 (fcl 5 21 1) * R 2 (fcl 5 21 2) * R 3 (fcl 5 21 3) * R 4 (fcl 5 21 4) = _
  rw [show sgn 5 21 = -1 by decide +kernel, show fcl 5 21 0 = 0 by decide +kernel, show fcl 5 21 1 = 4 by decide +kernel, show fcl 5 21 2 = 2 by decide +kernel, show fcl 5 21 3 = 3 by decide +kernel, show fcl 5 21 4 = 1 by decide +kernel]
theorem pt5_22 (R : Nat → Nat → Int) : dtm 5 R 22 = (-1) * R 0 0 * R 1 4 * R 2 3 * R 3 1 * R 4 2 := by
  show sgn 5 22 * R 0 (fcl 5 22 0) * R 1 (fcl 5 22 1) * R 2 (fcl 5 22 2) * R 3 (fcl 5 22 3) * R 4 (fcl 5 22 4) = _
  rw [show sgn 5 22 = -1 by decide +kernel, show fcl 5 22 0 = 0 by decide +kernel, show fcl 5 22 1 = 4 by decide +kernel, show fcl 5 22 2 = 3 by decide +kernel, show fcl 5 22 3 = 1 by decide +kernel, show fcl 5 22 4 = 2 by decide +kernel]
theorem pt5_23 (R : Nat → Nat → Int) : dtm 5 R 23 = 1 * R 0 0 * R 1 4 * R 2 3 * R 3 2 * R 4 1 := by
  show sgn 5 23 * R 0 (fcl 5 23 0) * R 1 (fcl 5 23 1) * R 2 (fcl 5 23 2) * R 3 (fcl 5 23 3) * R 4 (fcl 5 23 4) = _
  rw [show sgn 5 23 = 1 by decide +kernel, show fcl 5 23 0 = 0 by decide +kernel, show fcl 5 23 1 = 4 by decide +kernel, show fcl 5 23 2 = 3 by decide +kernel, show fcl 5 23 3 = 2 by decide +kernel, show fcl 5 23 4 = 1 by decide +kernel]
theorem pt5_24 (R : Nat → Nat → Int) : dtm 5 R 24 = (-1) * R 0 1 * R 1 0 * R 2 2 * R 3 3 * R 4 4 := by
  show sgn 5 24 * R 0 (fcl 5 24 0) * R 1 (fcl 5 24 1) * R 2 (fcl 5 24 2) * R 3 (fcl 5 24 3) * R 4 (fcl 5 24 4) = _
  rw [show sgn 5 24 = -1 by decide +kernel, show fcl 5 24 0 = 1 by decide +kernel, show fcl 5 24 1 = 0 by decide +kernel, show fcl 5 24 2 = 2 by decide +kernel, show fcl 5 24 3 = 3 by decide +kernel, show fcl 5 24 4 = 4 by decide +kernel]
theorem pt5_25 (R : Nat → Nat → Int) : dtm 5 R 25 = 1 * R 0 1 * R 1 0 * R 2 2 * R 3 4 * R 4 3 := by
  show sgn 5 25 * R 0 (fcl 5 25 0) * R 1 (fcl 5 25 1) * R 2 (fcl 5 25 2) * R 3 (fcl 5 25 3) * R 4 (fcl 5 25 4) = _
  rw [show sgn 5 25 = 1 by decide +kernel, show fcl 5 25 0 = 1 by decide +kernel, show fcl 5 25 1 = 0 by decide +kernel, show fcl 5 25 2 = 2 by decide +kernel, show fcl 5 25 3 = 4 by decide +kernel, show fcl 5 25 4 = 3 by decide +kernel]
theorem pt5_26 (R : Nat → Nat → Int) : dtm 5 R 26 = 1 * R 0 1 * R 1 0 * R 2 3 * R 3 2 * R 4 4 := by
  show sgn 5 26 * R 0 (fcl 5 26 0) * R 1 (fcl 5 26 1) * R 2 (fcl 5 26 2) * R 3 (fcl 5 26 3) * R 4 (fcl 5 26 4) = _
  rw [show sgn 5 26 = 1 by decide +kernel, show fcl 5 26 0 = 1 by decide +kernel, show fcl 5 26 1 = 0 by decide +kernel, show fcl 5 26 2 = 3 by decide +kernel, show fcl 5 26 3 = 2 by decide +kernel, show fcl 5 26 4 = 4 by decide +kernel]
theorem pt5_27 (R : Nat → Nat → Int) : dtm 5 R 27 = (-1) * R 0 1 * R 1 0 * R 2 3 * R 3 4 * R 4 2 := by
  show sgn 5 27 * R 0 (fcl 5 27 0) * R 1 (fcl 5 27 1) * R 2 (fcl 5 27 2) * R 3 (fcl 5 27 3) * R 4 (fcl 5 27 4) = _
  rw [show sgn 5 27 = -1 by decide +kernel, show fcl 5 27 0 = 1 by decide +kernel, show fcl 5 27 1 = 0 by decide +kernel, show fcl 5 27 2 = 3 by decide +kernel, show fcl 5 27 3 = 4 by decide +kernel, show fcl 5 27 4 = 2 by decide +kernel]
theorem pt5_28 (R : Nat → Nat → Int) : dtm 5 R 28 = (-1) * R 0 1 * R 1 0 * R 2 4 * R 3 2 * R 4 3 := by
  show sgn 5 28 * R 0 (fcl 5 28 0) * R 1 (fcl 5 28 1) * R 2 (fcl 5 28 2) * R 3 (fcl 5 28 3) * R 4 (fcl 5 28 4) = _
  rw [show sgn 5 28 = -1 by decide +kernel, show fcl 5 28 0 = 1 by decide +kernel, show fcl 5 28 1 = 0 by decide +kernel, show fcl 5 28 2 = 4 by decide +kernel, show fcl 5 28 3 = 2 by decide +kernel, show fcl 5 28 4 = 3 by decide +kernel]
theorem pt5_29 (R : Nat → Nat → Int) : dtm 5 R 29 = 1 * R 0 1 * R 1 0 * R 2 4 * R 3 3 * R 4 2 := by
  show sgn 5 29 * R 0 (fcl 5 29 0) * R 1 (fcl 5 29 1) * R 2 (fcl 5 29 2) * R 3 (fcl 5 29 3) * R 4 (fcl 5 29 4) = _
  rw [show sgn 5 29 = 1 by decide +kernel, show fcl 5 29 0 = 1 by decide +kernel, show fcl 5 29 1 = 0 by decide +kernel, show fcl 5 29 2 = 4 by decide +kernel, show fcl 5 29 3 = 3 by decide +kernel, show fcl 5 29 4 = 2 by decide +kernel]
theorem pt5_30 (R : Nat → Nat → Int) : dtm 5 R 30 = 1 * R 0 1 * R 1 2 * R 2 0 * R 3 3 * R 4 4 := by
  show sgn 5 30 * R 0 (fcl 5 30 0) * R 1 (fcl 5 30 1) * R 2 (fcl 5 30 2) * R 3 (fcl 5 30 3) * R 4 (fcl 5 30 4) = _
  rw [show sgn 5 30 = 1 by decide +kernel, show fcl 5 30 0 = 1 by decide +kernel, show fcl 5 30 1 = 2 by decide +kernel, show fcl 5 30 2 = 0 by decide +kernel, show fcl 5 30 3 = 3 by decide +kernel, show fcl 5 30 4 = 4 by decide +kernel]
theorem pt5_31 (R : Nat → Nat → Int) : dtm 5 R 31 = (-1) * R 0 1 * R 1 2 * R 2 0 * R 3 4 * R 4 3 := by
  show sgn 5 31 * R 0 (fcl 5 31 0) * R 1 (fcl 5 31 1) * R 2 (fcl 5 31 2) * R 3 (fcl 5 31 3) * R 4 (fcl 5 31 4) = _
  rw [show sgn 5 31 = -1 by decide +kernel, show fcl 5 31 0 = 1 by decide +kernel, show fcl 5 31 1 = 2 by decide +kernel, show fcl 5 31 2 = 0 by decide +kernel, show fcl 5 31 3 = 4 by decide +kernel, show fcl 5 31 4 = 3 by decide +kernel]
theorem pt5_32 (R : Nat → Nat → Int) : dtm 5 R 32 = (-1) * R 0 1 * R 1 2 * R 2 3 * R 3 0 * R 4 4 := by
  show sgn 5 32 * R 0 (fcl 5 32 0) * R 1 (fcl 5 32 1) * R 2 (fcl 5 32 2) * R 3 (fcl 5 32 3) * R 4 (fcl 5 32 4) = _
  rw [show sgn 5 32 = -1 by decide +kernel, show fcl 5 32 0 = 1 by decide +kernel, show fcl 5 32 1 = 2 by decide +kernel, show fcl 5 32 2 = 3 by decide +kernel, show fcl 5 32 3 = 0 by decide +kernel, show fcl 5 32 4 = 4 by decide +kernel]
theorem pt5_33 (R : Nat → Nat → Int) : dtm 5 R 33 = 1 * R 0 1 * R 1 2 * R 2 3 * R 3 4 * R 4 0 := by
  show sgn 5 33 * R 0 (fcl 5 33 0) * R 1 (fcl 5 33 1) * R 2 (fcl 5 33 2) * R 3 (fcl 5 33 3) * R 4 (fcl 5 33 4) = _
  rw [show sgn 5 33 = 1 by decide +kernel, show fcl 5 33 0 = 1 by decide +kernel, show fcl 5 33 1 = 2 by decide +kernel, show fcl 5 33 2 = 3 by decide +kernel, show fcl 5 33 3 = 4 by decide +kernel, show fcl 5 33 4 = 0 by decide +kernel]
theorem pt5_34 (R : Nat → Nat → Int) : dtm 5 R 34 = 1 * R 0 1 * R 1 2 * R 2 4 * R 3 0 * R 4 3 := by
  show sgn 5 34 * R 0 (fcl 5 34 0) * R 1 (fcl 5 34 1) * R 2 (fcl 5 34 2) * R 3 (fcl 5 34 3) * R 4 (fcl 5 34 4) = _
  rw [show sgn 5 34 = 1 by decide +kernel, show fcl 5 34 0 = 1 by decide +kernel, show fcl 5 34 1 = 2 by decide +kernel, show fcl 5 34 2 = 4 by decide +kernel, show fcl 5 34 3 = 0 by decide +kernel, show fcl 5 34 4 = 3 by decide +kernel]
theorem pt5_35 (R : Nat → Nat → Int) : dtm 5 R 35 = (-1) * R 0 1 * R 1 2 * R 2 4 * R 3 3 * R 4 0 := by
  show sgn 5 35 * R 0 (fcl 5 35 0) * R 1 (fcl 5 35 1) * R 2 (fcl 5 35 2) * R 3 (fcl 5 35 3) * R 4 (fcl 5 35 4) = _
  rw [show sgn 5 35 = -1 by decide +kernel, show fcl 5 35 0 = 1 by decide +kernel, show fcl 5 35 1 = 2 by decide +kernel, show fcl 5 35 2 = 4 by decide +kernel, show fcl 5 35 3 = 3 by decide +kernel, show fcl 5 35 4 = 0 by decide +kernel]
theorem pt5_36 (R : Nat → Nat → Int) : dtm 5 R 36 = (-1) * R 0 1 * R 1 3 * R 2 0 * R 3 2 * R 4 4 := by
  show sgn 5 36 * R 0 (fcl 5 36 0) * R 1 (fcl 5 36 1) * R 2 (fcl 5 36 2) * R 3 (fcl 5 36 3) * R 4 (fcl 5 36 4) = _
  rw [show sgn 5 36 = -1 by decide +kernel, show fcl 5 36 0 = 1 by decide +kernel, show fcl 5 36 1 = 3 by decide +kernel, show fcl 5 36 2 = 0 by decide +kernel, show fcl 5 36 3 = 2 by decide +kernel, show fcl 5 36 4 = 4 by decide +kernel]
theorem pt5_37 (R : Nat → Nat → Int) : dtm 5 R 37 = 1 * R 0 1 * R 1 3 * R 2 0 * R 3 4 * R 4 2 := by
  show sgn 5 37 * R 0 (fcl 5 37 0) * R 1 (fcl 5 37 1) * R 2 (fcl 5 37 2) * R 3 (fcl 5 37 3) * R 4 (fcl 5 37 4) = _
  rw [show sgn 5 37 = 1 by decide +kernel, show fcl 5 37 0 = 1 by decide +kernel, show fcl 5 37 1 = 3 by decide +kernel, show fcl 5 37 2 = 0 by decide +kernel, show fcl 5 37 3 = 4 by decide +kernel, show fcl 5 37 4 = 2 by decide +kernel]
theorem pt5_38 (R : Nat → Nat → Int) : dtm 5 R 38 = 1 * R 0 1 * R 1 3 * R 2 2 * R 3 0 * R 4 4 := by
  show sgn 5 38 * R 0 (fcl 5 38 0) * R 1 (fcl 5 38 1) * R 2 (fcl 5 38 2) * R 3 (fcl 5 38 3) * R 4 (fcl 5 38 4) = _
  rw [show sgn 5 38 = 1 by decide +kernel, show fcl 5 38 0 = 1 by decide +kernel, show fcl 5 38 1 = 3 by decide +kernel, show fcl 5 38 2 = 2 by decide +kernel, show fcl 5 38 3 = 0 by decide +kernel, show fcl 5 38 4 = 4 by decide +kernel]
theorem pt5_39 (R : Nat → Nat → Int) : dtm 5 R 39 = (-1) * R 0 1 * R 1 3 * R 2 2 * R 3 4 * R 4 0 := by
  show sgn 5 39 * R 0 (fcl 5 39 0) * R 1 (fcl 5 39 1) * R 2 (fcl 5 39 2) * R 3 (fcl 5 39 3) * R 4 (fcl 5 39 4) = _
  rw [show sgn 5 39 = -1 by decide +kernel, show fcl 5 39 0 = 1 by decide +kernel, show fcl 5 39 1 = 3 by decide +kernel, show fcl 5 39 2 = 2 by decide +kernel, show fcl 5 39 3 = 4 by decide +kernel, show fcl 5 39 4 = 0 by decide +kernel]
theorem pt5_40 (R : Nat → Nat → Int) : dtm 5 R 40 = (-1) * R 0 1 * R 1 3 * R 2 4 * R 3 0 * R 4 2 := by
  show sgn 5 40 * R 0 (fcl 5 40 0) * R 1 (fcl 5 40 1) * R 2 (fcl 5 40 2) * R 3 (fcl 5 40 3) * R 4 (fcl 5 40 4) = _
  rw [show sgn 5 40 = -1 by decide +kernel, show fcl 5 40 0 = 1 by decide +kernel, show fcl 5 40 1 = 3 by decide +kernel, show fcl 5 40 2 = 4 by decide +kernel, show fcl 5 40 3 = 0 by decide +kernel, show fcl 5 40 4 = 2 by decide +kernel]
theorem pt5_41 (R : Nat → Nat → Int) : dtm 5 R 41 = 1 * R 0 1 * R 1 3 * R 2 4 * R 3 2 * R 4 0 := by
  show sgn 5 41 * R 0 (fcl 5 41 0) * R 1 (fcl 5 41 1) * R 2 (fcl 5 41 2) * R 3 (fcl 5 41 3) * R 4 (fcl 5 41 4) = _
  rw [show sgn 5 41 = 1 by decide +kernel, show fcl 5 41 0 = 1 by decide +kernel, show fcl 5 41 1 = 3 by decide +kernel, show fcl 5 41 2 = 4 by decide +kernel, show fcl 5 41 3 = 2 by decide +kernel, show fcl 5 41 4 = 0 by decide +kernel]
theorem pt5_42 (R : Nat → Nat → Int) : dtm 5 R 42 = 1 * R 0 1 * R 1 4 * R 2 0 * R 3 2 * R 4 3 := by
  show sgn 5 42 * R 0 (fcl 5 42 0) * R 1 (fcl 5 42 1) * R 2 (fcl 5 42 2) * R 3 (fcl 5 42 3) * R 4 (fcl 5 42 4) = _
  rw [show sgn 5 42 = 1 by decide +kernel, show fcl 5 42 0 = 1 by decide +kernel, show fcl 5 42 1 = 4 by decide +kernel, show fcl 5 42 2 = 0 by decide +kernel, show fcl 5 42 3 = 2 by decide +kernel, show fcl 5 42 4 = 3 by decide +kernel]
theorem pt5_43 (R : Nat → Nat → Int) : dtm 5 R 43 = (-1) * R 0 1 * R 1 4 * R 2 0 * R 3 3 * R 4 2 := by
  show sgn 5 43 * R 0 (fcl 5 43 0) * R 1 (fcl 5 43 1) * R 2 (fcl 5 43 2) * R 3 (fcl 5 43 3) * R 4 (fcl 5 43 4) = _
  rw [show sgn 5 43 = -1 by decide +kernel, show fcl 5 43 0 = 1 by decide +kernel, show fcl 5 43 1 = 4 by decide +kernel, show fcl 5 43 2 = 0 by decide +kernel, show fcl 5 43 3 = 3 by decide +kernel, show fcl 5 43 4 = 2 by decide +kernel]
theorem pt5_44 (R : Nat → Nat → Int) : dtm 5 R 44 = (-1) * R 0 1 * R 1 4 * R 2 2 * R 3 0 * R 4 3 := by
  show sgn 5 44 * R 0 (fcl 5 44 0) * R 1 (fcl 5 44 1) * R 2 (fcl 5 44 2) * R 3 (fcl 5 44 3) * R 4 (fcl 5 44 4) = _
  rw [show sgn 5 44 = -1 by decide +kernel, show fcl 5 44 0 = 1 by decide +kernel, show fcl 5 44 1 = 4 by decide +kernel, show fcl 5 44 2 = 2 by decide +kernel, show fcl 5 44 3 = 0 by decide +kernel, show fcl 5 44 4 = 3 by decide +kernel]
theorem pt5_45 (R : Nat → Nat → Int) : dtm 5 R 45 = 1 * R 0 1 * R 1 4 * R 2 2 * R 3 3 * R 4 0 := by
  show sgn 5 45 * R 0 (fcl 5 45 0) * R 1 (fcl 5 45 1) * R 2 (fcl 5 45 2) * R 3 (fcl 5 45 3) * R 4 (fcl 5 45 4) = _
  rw [show sgn 5 45 = 1 by decide +kernel, show fcl 5 45 0 = 1 by decide +kernel, show fcl 5 45 1 = 4 by decide +kernel, show fcl 5 45 2 = 2 by decide +kernel, show fcl 5 45 3 = 3 by decide +kernel, show fcl 5 45 4 = 0 by decide +kernel]
theorem pt5_46 (R : Nat → Nat → Int) : dtm 5 R 46 = 1 * R 0 1 * R 1 4 * R 2 3 * R 3 0 * R 4 2 := by
  show sgn 5 46 * R 0 (fcl 5 46 0) * R 1 (fcl 5 46 1) * R 2 (fcl 5 46 2) * R 3 (fcl 5 46 3) * R 4 (fcl 5 46 4) = _
  rw [show sgn 5 46 = 1 by decide +kernel, show fcl 5 46 0 = 1 by decide +kernel, show fcl 5 46 1 = 4 by decide +kernel, show fcl 5 46 2 = 3 by decide +kernel, show fcl 5 46 3 = 0 by decide +kernel, show fcl 5 46 4 = 2 by decide +kernel]
theorem pt5_47 (R : Nat → Nat → Int) : dtm 5 R 47 = (-1) * R 0 1 * R 1 4 * R 2 3 * R 3 2 * R 4 0 := by
  show sgn 5 47 * R 0 (fcl 5 47 0) * R 1 (fcl 5 47 1) * R 2 (fcl 5 47 2) * R 3 (fcl 5 47 3) * R 4 (fcl 5 47 4) = _
  rw [show sgn 5 47 = -1 by decide +kernel, show fcl 5 47 0 = 1 by decide +kernel, show fcl 5 47 1 = 4 by decide +kernel, show fcl 5 47 2 = 3 by decide +kernel, show fcl 5 47 3 = 2 by decide +kernel, show fcl 5 47 4 = 0 by decide +kernel]
theorem pt5_48 (R : Nat → Nat → Int) : dtm 5 R 48 = 1 * R 0 2 * R 1 0 * R 2 1 * R 3 3 * R 4 4 := by
  show sgn 5 48 * R 0 (fcl 5 48 0) * R 1 (fcl 5 48 1) * R 2 (fcl 5 48 2) * R 3 (fcl 5 48 3) * R 4 (fcl 5 48 4) = _
  rw [show sgn 5 48 = 1 by decide +kernel, show fcl 5 48 0 = 2 by decide +kernel, show fcl 5 48 1 = 0 by decide +kernel, show fcl 5 48 2 = 1 by decide +kernel, show fcl 5 48 3 = 3 by decide +kernel, show fcl 5 48 4 = 4 by decide +kernel]
theorem pt5_49 (R : Nat → Nat → Int) : dtm 5 R 49 = (-1) * R 0 2 * R 1 0 * R 2 1 * R 3 4 * R 4 3 := by
  show sgn 5 49 * R 0 (fcl 5 49 0) * R 1 (fcl 5 49 1) * R 2 (fcl 5 49 2) * R 3 (fcl 5 49 3) * R 4 (fcl 5 49 4) = _
  rw [show sgn 5 49 = -1 by decide +kernel, show fcl 5 49 0 = 2 by decide +kernel, show fcl 5 49 1 = 0 by decide +kernel, show fcl 5 49 2 = 1 by decide +kernel, show fcl 5 49 3 = 4 by decide +kernel, show fcl 5 49 4 = 3 by decide +kernel]
theorem pt5_50 (R : Nat → Nat → Int) : dtm 5 R 50 = (-1) * R 0 2 * R 1 0 * R 2 3 * R 3 1 * R 4 4 := by
  show sgn 5 50 * R 0 (fcl 5 50 0) * R 1 (fcl 5 50 1) * R 2 (fcl 5 50 2) * R 3 (fcl 5 50 3) * R 4 (fcl 5 50 4) = _
  rw [show sgn 5 50 = -1 by decide +kernel, show fcl 5 50 0 = 2 by decide +kernel, show fcl 5 50 1 = 0 by decide +kernel, show fcl 5 50 2 = 3 by decide +kernel, show fcl 5 50 3 = 1 by decide +kernel, show fcl 5 50 4 = 4 by decide +kernel]
theorem pt5_51 (R : Nat → Nat → Int) : dtm 5 R 51 = 1 * R 0 2 * R 1 0 * R 2 3 * R 3 4 * R 4 1 := by
  show sgn 5 51 * R 0 (fcl 5 51 0) * R 1 (fcl 5 51 1) * R 2 (fcl 5 51 2) * R 3 (fcl 5 51 3) * R 4 (fcl 5 51 4) = _
  rw [show sgn 5 51 = 1 by decide +kernel, show fcl 5 51 0 = 2 by decide +kernel, show fcl 5 51 1 = 0 by decide +kernel, show fcl 5 51 2 = 3 by decide +kernel, show fcl 5 51 3 = 4 by decide +kernel, show fcl 5 51 4 = 1 by decide +kernel]
theorem pt5_52 (R : Nat → Nat → Int) : dtm 5 R 52 = 1 * R 0 2 * R 1 0 * R 2 4 * R 3 1 * R 4 3 := by
  show sgn 5 52 * R 0 (fcl 5 52 0) * R 1 (fcl 5 52 1) * R 2 (fcl 5 52 2) * R 3 (fcl 5 52 3) * R 4 (fcl 5 52 4) = _
  rw [show sgn 5 52 = 1 by decide +kernel, show fcl 5 52 0 = 2 by decide +kernel, show fcl 5 52 1 = 0 by decide +kernel, show fcl 5 52 2 = 4 by decide +kernel, show fcl 5 52 3 = 1 by decide +kernel, show fcl 5 52 4 = 3 by decide +kernel]
theorem pt5_53 (R : Nat → Nat → Int) : dtm 5 R 53 = (-1) * R 0 2 * R 1 0 * R 2 4 * R 3 3 * R 4 1 := by
  show sgn 5 53 * R 0 (fcl 5 53 0) * R 1 (fcl 5 53 1) * R 2 (fcl 5 53 2) * R 3 (fcl 5 53 3) * R 4 (fcl 5 53 4) = _
  rw [show sgn 5 53 = -1 by decide +kernel, show fcl 5 53 0 = 2 by decide +kernel, show fcl 5 53 1 = 0 by decide +kernel, show fcl 5 53 2 = 4 by decide +kernel, show fcl 5 53 3 = 3 by decide +kernel, show fcl 5 53 4 = 1 by decide +kernel]
theorem pt5_54 (R : Nat → Nat → Int) : dtm 5 R 54 = (-1) * R 0 2 * R 1 1 * R 2 0 * R 3 3 * R 4 4 := by
  show sgn 5 54 * R 0 (fcl 5 54 0) * R 1 (fcl 5 54 1) * R 2 (fcl 5 54 2) * R 3 (fcl 5 54 3) * R 4 (fcl 5 54 4) = _
  rw [show sgn 5 54 = -1 by decide +kernel, show fcl 5 54 0 = 2 by decide +kernel, show fcl 5 54 1 = 1 by decide +kernel, show fcl 5 54 2 = 0 by decide +kernel, show fcl 5 54 3 = 3 by decide +kernel, show fcl 5 54 4 = 4 by decide +kernel]
theorem pt5_55 (R : Nat → Nat → Int) : dtm 5 R 55 = 1 * R 0 2 * R 1 1 * R 2 0 * R 3 4 * R 4 3 := by
  show sgn 5 55 * R 0 (fcl 5 55 0) * R 1 (fcl 5 55 1) * R 2 (fcl 5 55 2) * R 3 (fcl 5 55 3) * R 4 (fcl 5 55 4) = _
  rw [show sgn 5 55 = 1 by decide +kernel, show fcl 5 55 0 = 2 by decide +kernel, show fcl 5 55 1 = 1 by decide +kernel, show fcl 5 55 2 = 0 by decide +kernel, show fcl 5 55 3 = 4 by decide +kernel, show fcl 5 55 4 = 3 by decide +kernel]
theorem pt5_56 (R : Nat → Nat → Int) : dtm 5 R 56 = 1 * R 0 2 * R 1 1 * R 2 3 * R 3 0 * R 4 4 := by
  show sgn 5 56 * R 0 (fcl 5 56 0) * R 1 (fcl 5 56 1) * R 2 (fcl 5 56 2) * R 3 (fcl 5 56 3) * R 4 (fcl 5 56 4) = _
  rw [show sgn 5 56 = 1 by decide +kernel, show fcl 5 56 0 = 2 by decide +kernel, show fcl 5 56 1 = 1 by decide +kernel, show fcl 5 56 2 = 3 by decide +kernel, show fcl 5 56 3 = 0 by decide +kernel, show fcl 5 56 4 = 4 by decide +kernel]
theorem pt5_57 (R : Nat → Nat → Int) : dtm 5 R 57 = (-1) * R 0 2 * R 1 1 * R 2 3 * R 3 4 * R 4 0 := by
  show sgn 5 57 * R 0 (fcl 5 57 0) * R 1 (fcl 5 57 1) * R 2 (fcl 5 57 2) * R 3 (fcl 5 57 3) * R 4 (fcl 5 57 4) = _
  rw [show sgn 5 57 = -1 by decide +kernel, show fcl 5 57 0 = 2 by decide +kernel, show fcl 5 57 1 = 1 by decide +kernel, show fcl 5 57 2 = 3 by decide +kernel, show fcl 5 57 3 = 4 by decide +kernel, show fcl 5 57 4 = 0 by decide +kernel]
theorem pt5_58 (R : Nat → Nat → Int) : dtm 5 R 58 = (-1) * R 0 2 * R 1 1 * R 2 4 * R 3 0 * R 4 3 := by
  show sgn 5 58 * R 0 (fcl 5 58 0) * R 1 (fcl 5 58 1) * R 2 (fcl 5 58 2) * R 3 (fcl 5 58 3) * R 4 (fcl 5 58 4) = _
  rw [show sgn 5 58 = -1 by decide +kernel, show fcl 5 58 0 = 2 by decide +kernel, show fcl 5 58 1 = 1 by decide +kernel, show fcl 5 58 2 = 4 by decide +kernel, show fcl 5 58 3 = 0 by decide +kernel, show fcl 5 58 4 = 3 by decide +kernel]
theorem pt5_59 (R : Nat → Nat → Int) : dtm 5 R 59 = 1 * R 0 2 * R 1 1 * R 2 4 * R 3 3 * R 4 0 := by
  show sgn 5 59 * R 0 (fcl 5 59 0) * R 1 (fcl 5 59 1) * R 2 (fcl 5 59 2) * R 3 (fcl 5 59 3) * R 4 (fcl 5 59 4) = _
  rw [show sgn 5 59 = 1 by decide +kernel, show fcl 5 59 0 = 2 by decide +kernel, show fcl 5 59 1 = 1 by decide +kernel, show fcl 5 59 2 = 4 by decide +kernel, show fcl 5 59 3 = 3 by decide +kernel, show fcl 5 59 4 = 0 by decide +kernel]
theorem pt5_60 (R : Nat → Nat → Int) : dtm 5 R 60 = 1 * R 0 2 * R 1 3 * R 2 0 * R 3 1 * R 4 4 := by
  show sgn 5 60 * R 0 (fcl 5 60 0) * R 1 (fcl 5 60 1) * R 2 (fcl 5 60 2) * R 3 (fcl 5 60 3) * R 4 (fcl 5 60 4) = _
  rw [show sgn 5 60 = 1 by decide +kernel, show fcl 5 60 0 = 2 by decide +kernel, show fcl 5 60 1 = 3 by decide +kernel, show fcl 5 60 2 = 0 by decide +kernel, show fcl 5 60 3 = 1 by decide +kernel, show fcl 5 60 4 = 4 by decide +kernel]
theorem pt5_61 (R : Nat → Nat → Int) : dtm 5 R 61 = (-1) * R 0 2 * R 1 3 * R 2 0 * R 3 4 * R 4 1 := by
  show sgn 5 61 * R 0 (fcl 5 61 0) * R 1 (fcl 5 61 1) * R 2 (fcl 5 61 2) * R 3 (fcl 5 61 3) * R 4 (fcl 5 61 4) = _
  rw [show sgn 5 61 = -1 by decide +kernel, show fcl 5 61 0 = 2 by decide +kernel, show fcl 5 61 1 = 3 by decide +kernel, show fcl 5 61 2 = 0 by decide +kernel, show fcl 5 61 3 = 4 by decide +kernel, show fcl 5 61 4 = 1 by decide +kernel]
theorem pt5_62 (R : Nat → Nat → Int) : dtm 5 R 62 = (-1) * R 0 2 * R 1 3 * R 2 1 * R 3 0 * R 4 4 := by
  show sgn 5 62 * R 0 (fcl 5 62 0) * R 1 (fcl 5 62 1) * R 2 (fcl 5 62 2) * R 3 (fcl 5 62 3) * R 4 (fcl 5 62 4) = _
  rw [show sgn 5 62 = -1 by decide +kernel, show fcl 5 62 0 = 2 by decide +kernel, show fcl 5 62 1 = 3 by decide +kernel, show fcl 5 62 2 = 1 by decide +kernel, show fcl 5 62 3 = 0 by decide +kernel, show fcl 5 62 4 = 4 by decide +kernel]
theorem pt5_63 (R : Nat → Nat → Int) : dtm 5 R 63 = 1 * R 0 2 * R 1 3 * R 2 1 * R 3 4 * R 4 0 := by
  show sgn 5 63 * R 0 (fcl 5 63 0) * R 1 (fcl 5 63 1) * R 2 (fcl 5 63 2) * R 3 (fcl 5 63 3) * R 4 (fcl 5 63 4) = _
  rw [show sgn 5 63 = 1 by decide +kernel, show fcl 5 63 0 = 2 by decide +kernel, show fcl 5 63 1 = 3 by decide +kernel, show fcl 5 63 2 = 1 by decide +kernel, show fcl 5 63 3 = 4 by decide +kernel, show fcl 5 63 4 = 0 by decide +kernel]
theorem pt5_64 (R : Nat → Nat → Int) : dtm 5 R 64 = 1 * R 0 2 * R 1 3 * R 2 4 * R 3 0 * R 4 1 := by
  show sgn 5 64 * R 0 (fcl 5 64 0) * R 1 (fcl 5 64 1) * R 2 (fcl 5 64 2) * R 3 (fcl 5 64 3) * R 4 (fcl 5 64 4) = _
  rw [show sgn 5 64 = 1 by decide +kernel, show fcl 5 64 0 = 2 by decide +kernel, show fcl 5 64 1 = 3 by decide +kernel, show fcl 5 64 2 = 4 by decide +kernel, show fcl 5 64 3 = 0 by decide +kernel, show fcl 5 64 4 = 1 by decide +kernel]
theorem pt5_65 (R : Nat → Nat → Int) : dtm 5 R 65 = (-1) * R 0 2 * R 1 3 * R 2 4 * R 3 1 * R 4 0 := by
  show sgn 5 65 * R 0 (fcl 5 65 0) * R 1 (fcl 5 65 1) * R 2 (fcl 5 65 2) * R 3 (fcl 5 65 3) * R 4 (fcl 5 65 4) = _
  rw [show sgn 5 65 = -1 by decide +kernel, show fcl 5 65 0 = 2 by decide +kernel, show fcl 5 65 1 = 3 by decide +kernel, show fcl 5 65 2 = 4 by decide +kernel, show fcl 5 65 3 = 1 by decide +kernel, show fcl 5 65 4 = 0 by decide +kernel]
theorem pt5_66 (R : Nat → Nat → Int) : dtm 5 R 66 = (-1) * R 0 2 * R 1 4 * R 2 0 * R 3 1 * R 4 3 := by
  show sgn 5 66 * R 0 (fcl 5 66 0) * R 1 (fcl 5 66 1) * R 2 (fcl 5 66 2) * R 3 (fcl 5 66 3) * R 4 (fcl 5 66 4) = _
  rw [show sgn 5 66 = -1 by decide +kernel, show fcl 5 66 0 = 2 by decide +kernel, show fcl 5 66 1 = 4 by decide +kernel, show fcl 5 66 2 = 0 by decide +kernel, show fcl 5 66 3 = 1 by decide +kernel, show fcl 5 66 4 = 3 by decide +kernel]
theorem pt5_67 (R : Nat → Nat → Int) : dtm 5 R 67 = 1 * R 0 2 * R 1 4 * R 2 0 * R 3 3 * R 4 1 := by
  show sgn 5 67 * R 0 (fcl 5 67 0) * R 1 (fcl 5 67 1) * R 2 (fcl 5 67 2) * R 3 (fcl 5 67 3) * R 4 (fcl 5 67 4) = _
  rw [show sgn 5 67 = 1 by decide +kernel, show fcl 5 67 0 = 2 by decide +kernel, show fcl 5 67 1 = 4 by decide +kernel, show fcl 5 67 2 = 0 by decide +kernel, show fcl 5 67 3 = 3 by decide +kernel, show fcl 5 67 4 = 1 by decide +kernel]
theorem pt5_68 (R : Nat → Nat → Int) : dtm 5 R 68 = 1 * R 0 2 * R 1 4 * R 2 1 * R 3 0 * R 4 3 := by
  show sgn 5 68 * R 0 (fcl 5 68 0) * R 1 (fcl 5 68 1) * R 2 (fcl 5 68 2) * R 3 (fcl 5 68 3) * R 4 (fcl 5 68 4) = _
  rw [show sgn 5 68 = 1 by decide +kernel, show fcl 5 68 0 = 2 by decide +kernel, show fcl 5 68 1 = 4 by decide +kernel, show fcl 5 68 2 = 1 by decide +kernel, show fcl 5 68 3 = 0 by decide +kernel, show fcl 5 68 4 = 3 by decide +kernel]
theorem pt5_69 (R : Nat → Nat → Int) : dtm 5 R 69 = (-1) * R 0 2 * R 1 4 * R 2 1 * R 3 3 * R 4 0 := by
  show sgn 5 69 * R 0 (fcl 5 69 0) * R 1 (fcl 5 69 1) * R 2 (fcl 5 69 2) * R 3 (fcl 5 69 3) * R 4 (fcl 5 69 4) = _
  rw [show sgn 5 69 = -1 by decide +kernel, show fcl 5 69 0 = 2 by decide +kernel, show fcl 5 69 1 = 4 by decide +kernel, show fcl 5 69 2 = 1 by decide +kernel, show fcl 5 69 3 = 3 by decide +kernel, show fcl 5 69 4 = 0 by decide +kernel]
theorem pt5_70 (R : Nat → Nat → Int) : dtm 5 R 70 = (-1) * R 0 2 * R 1 4 * R 2 3 * R 3 0 * R 4 1 := by
  show sgn 5 70 * R 0 (fcl 5 70 0) * R 1 (fcl 5 70 1) * R 2 (fcl 5 70 2) * R 3 (fcl 5 70 3) * R 4 (fcl 5 70 4) = _
  rw [show sgn 5 70 = -1 by decide +kernel, show fcl 5 70 0 = 2 by decide +kernel, show fcl 5 70 1 = 4 by decide +kernel, show fcl 5 70 2 = 3 by decide +kernel, show fcl 5 70 3 = 0 by decide +kernel, show fcl 5 70 4 = 1 by decide +kernel]
theorem pt5_71 (R : Nat → Nat → Int) : dtm 5 R 71 = 1 * R 0 2 * R 1 4 * R 2 3 * R 3 1 * R 4 0 := by
  show sgn 5 71 * R 0 (fcl 5 71 0) * R 1 (fcl 5 71 1) * R 2 (fcl 5 71 2) * R 3 (fcl 5 71 3) * R 4 (fcl 5 71 4) = _
  rw [show sgn 5 71 = 1 by decide +kernel, show fcl 5 71 0 = 2 by decide +kernel, show fcl 5 71 1 = 4 by decide +kernel, show fcl 5 71 2 = 3 by decide +kernel, show fcl 5 71 3 = 1 by decide +kernel, show fcl 5 71 4 = 0 by decide +kernel]
theorem pt5_72 (R : Nat → Nat → Int) : dtm 5 R 72 = (-1) * R 0 3 * R 1 0 * R 2 1 * R 3 2 * R 4 4 := by
  show sgn 5 72 * R 0 (fcl 5 72 0) * R 1 (fcl 5 72 1) * R 2 (fcl 5 72 2) * R 3 (fcl 5 72 3) * R 4 (fcl 5 72 4) = _
  rw [show sgn 5 72 = -1 by decide +kernel, show fcl 5 72 0 = 3 by decide +kernel, show fcl 5 72 1 = 0 by decide +kernel, show fcl 5 72 2 = 1 by decide +kernel, show fcl 5 72 3 = 2 by decide +kernel, show fcl 5 72 4 = 4 by decide +kernel]
theorem pt5_73 (R : Nat → Nat → Int) : dtm 5 R 73 = 1 * R 0 3 * R 1 0 * R 2 1 * R 3 4 * R 4 2 := by
  show sgn 5 73 * R 0 (fcl 5 73 0) * R 1 (fcl 5 73 1) * R 2 (fcl 5 73 2) * R 3 (fcl 5 73 3) * R 4 (fcl 5 73 4) = _
  rw [show sgn 5 73 = 1 by decide +kernel, show fcl 5 73 0 = 3 by decide +kernel, show fcl 5 73 1 = 0 by decide +kernel, show fcl 5 73 2 = 1 by decide +kernel, show fcl 5 73 3 = 4 by decide +kernel, show fcl 5 73 4 = 2 by decide +kernel]
theorem pt5_74 (R : Nat → Nat → Int) : dtm 5 R 74 = 1 * R 0 3 * R 1 0 * R 2 2 * R 3 1 * R 4 4 := by
  show sgn 5 74 * R 0 (fcl 5 74 0) * R 1 (fcl 5 74 1) * R 2 (fcl 5 74 2) * R 3 (fcl 5 74 3) * R 4 (fcl 5 74 4) = _
  rw [show sgn 5 74 = 1 by decide +kernel, show fcl 5 74 0 = 3 by decide +kernel, show fcl 5 74 1 = 0 by decide +kernel, show fcl 5 74 2 = 2 by decide +kernel, show fcl 5 74 3 = 1 by decide +kernel, show fcl 5 74 4 = 4 by decide +kernel]
theorem pt5_75 (R : Nat → Nat → Int) : dtm 5 R 75 = (-1) * R 0 3 * R 1 0 * R 2 2 * R 3 4 * R 4 1 := by
  show sgn 5 75 * R 0 (fcl 5 75 0) * R 1 (fcl 5 75 1) * R 2 (fcl 5 75 2) * R 3 (fcl 5 75 3) * R 4 (fcl 5 75 4) = _
  rw [show sgn 5 75 = -1 by decide +kernel, show fcl 5 75 0 = 3 by decide +kernel, show fcl 5 75 1 = 0 by decide +kernel, show fcl 5 75 2 = 2 by decide +kernel, show fcl 5 75 3 = 4 by decide +kernel, show fcl 5 75 4 = 1 by decide +kernel]
theorem pt5_76 (R : Nat → Nat → Int) : dtm 5 R 76 = (-1) * R 0 3 * R 1 0 * R 2 4 * R 3 1 * R 4 2 := by
  show sgn 5 76 * R 0 (fcl 5 76 0) * R 1 (fcl 5 76 1) * R 2 (fcl 5 76 2) * R 3 (fcl 5 76 3) * R 4 (fcl 5 76 4) = _
  rw [show sgn 5 76 = -1 by decide +kernel, show fcl 5 76 0 = 3 by decide +kernel, show fcl 5 76 1 = 0 by decide +kernel, show fcl 5 76 2 = 4 by decide +kernel, show fcl 5 76 3 = 1 by decide +kernel, show fcl 5 76 4 = 2 by decide +kernel]
theorem pt5_77 (R : Nat → Nat → Int) : dtm 5 R 77 = 1 * R 0 3 * R 1 0 * R 2 4 * R 3 2 * R 4 1 := by
  show sgn 5 77 * R 0 (fcl 5 77 0) * R 1 (fcl 5 77 1) * R 2 (fcl 5 77 2) * R 3 (fcl 5 77 3) * R 4 (fcl 5 77 4) = _
  rw [show sgn 5 77 = 1 by decide +kernel, show fcl 5 77 0 = 3 by decide +kernel, show fcl 5 77 1 = 0 by decide +kernel, show fcl 5 77 2 = 4 by decide +kernel, show fcl 5 77 3 = 2 by decide +kernel, show fcl 5 77 4 = 1 by decide +kernel]
theorem pt5_78 (R : Nat → Nat → Int) : dtm 5 R 78 = 1 * R 0 3 * R 1 1 * R 2 0 * R 3 2 * R 4 4 := by
  show sgn 5 78 * R 0 (fcl 5 78 0) * R 1 (fcl 5 78 1) * R 2 (fcl 5 78 2) * R 3 (fcl 5 78 3) * R 4 (fcl 5 78 4) = _
  rw [show sgn 5 78 = 1 by decide +kernel, show fcl 5 78 0 = 3 by decide +kernel, show fcl 5 78 1 = 1 by decide +kernel, show fcl 5 78 2 = 0 by decide +kernel, show fcl 5 78 3 = 2 by decide +kernel, show fcl 5 78 4 = 4 by decide +kernel]
theorem pt5_79 (R : Nat → Nat → Int) : dtm 5 R 79 = (-1) * R 0 3 * R 1 1 * R 2 0 * R 3 4 * R 4 2 := by
  show sgn 5 79 * R 0 (fcl 5 79 0) * R 1 (fcl 5 79 1) * R 2 (fcl 5 79 2) * R 3 (fcl 5 79 3) * R 4 (fcl 5 79 4) = _
  rw [show sgn 5 79 = -1 by decide +kernel, show fcl 5 79 0 = 3 by decide +kernel, show fcl 5 79 1 = 1 by decide +kernel, show fcl 5 79 2 = 0 by decide +kernel, show fcl 5 79 3 = 4 by decide +kernel, show fcl 5 79 4 = 2 by decide +kernel]
theorem pt5_80 (R : Nat → Nat → Int) : dtm 5 R 80 = (-1) * R 0 3 * R 1 1 * R 2 2 * R 3 0 * R 4 4 := by
  show sgn 5 80 * R 0 (fcl 5 80 0) * R 1 (fcl 5 80 1) * R 2 (fcl 5 80 2) * R 3 (fcl 5 80 3) * R 4 (fcl 5 80 4) = _
  rw [show sgn 5 80 = -1 by decide +kernel, show fcl 5 80 0 = 3 by decide +kernel, show fcl 5 80 1 = 1 by decide +kernel, show fcl 5 80 2 = 2 by decide +kernel, show fcl 5 80 3 = 0 by decide +kernel, show fcl 5 80 4 = 4 by decide +kernel]
theorem pt5_81 (R : Nat → Nat → Int) : dtm 5 R 81 = 1 * R 0 3 * R 1 1 * R 2 2 * R 3 4 * R 4 0 := by
  show sgn 5 81 * R 0 (fcl 5 81 0) * R 1 (fcl 5 81 1) * R 2 (fcl 5 81 2) * R 3 (fcl 5 81 3) * R 4 (fcl 5 81 4) = _
  rw [show sgn 5 81 = 1 by decide +kernel, show fcl 5 81 0 = 3 by decide +kernel, show fcl 5 81 1 = 1 by decide +kernel, show fcl 5 81 2 = 2 by decide +kernel, show fcl 5 81 3 = 4 by decide +kernel, show fcl 5 81 4 = 0 by decide +kernel]
theorem pt5_82 (R : Nat → Nat → Int) : dtm 5 R 82 = 1 * R 0 3 * R 1 1 * R 2 4 * R 3 0 * R 4 2 := by
  show sgn 5 82 * R 0 (fcl 5 82 0) * R 1 (fcl 5 82 1) * R 2 (fcl 5 82 2) * R 3 (fcl 5 82 3) * R 4 (fcl 5 82 4) = _
  rw [show sgn 5 82 = 1 by decide +kernel, show fcl 5 82 0 = 3 by decide +kernel, show fcl 5 82 1 = 1 by decide +kernel, show fcl 5 82 2 = 4 by decide +kernel, show fcl 5 82 3 = 0 by decide +kernel, show fcl 5 82 4 = 2 by decide +kernel]
theorem pt5_83 (R : Nat → Nat → Int) : dtm 5 R 83 = (-1) * R 0 3 * R 1 1 * R 2 4 * R 3 2 * R 4 0 := by
  show sgn 5 83 * R 0 (fcl 5 83 0) * R 1 (fcl 5 83 1) * R 2 (fcl 5 83 2) * R 3 (fcl 5 83 3) * R 4 (fcl 5 83 4) = _
  rw [show sgn 5 83 = -1 by decide +kernel, show fcl 5 83 0 = 3 by decide +kernel, show fcl 5 83 1 = 1 by decide +kernel, show fcl 5 83 2 = 4 by decide +kernel, show fcl 5 83 3 = 2 by decide +kernel, show fcl 5 83 4 = 0 by decide +kernel]
theorem pt5_84 (R : Nat → Nat → Int) : dtm 5 R 84 = (-1) * R 0 3 * R 1 2 * R 2 0 * R 3 1 * R 4 4 := by
  show sgn 5 84 * R 0 (fcl 5 84 0) * R 1 (fcl 5 84 1) * R 2 (fcl 5 84 2) * R 3 (fcl 5 84 3) * R 4 (fcl 5 84 4) = _
  rw [show sgn 5 84 = -1 by decide +kernel, show fcl 5 84 0 = 3 by decide +kernel, show fcl 5 84 1 = 2 by decide +kernel, show fcl 5 84 2 = 0 by decide +kernel, show fcl 5 84 3 = 1 by decide +kernel, show fcl 5 84 4 = 4 by decide +kernel]
theorem pt5_85 (R : Nat → Nat → Int) : dtm 5 R 85 = 1 * R 0 3 * R 1 2 * R 2 0 * R 3 4 * R 4 1 := by
  show sgn 5 85 * R 0 (fcl 5 85 0) * R 1 (fcl 5 85 1) * R 2 (fcl 5 85 2) * R 3 (fcl 5 85 3) * R 4 (fcl 5 85 4) = _
  rw [show sgn 5 85 = 1 by decide +kernel, show fcl 5 85 0 = 3 by decide +kernel, show fcl 5 85 1 = 2 by decide +kernel, show fcl 5 85 2 = 0 by decide +kernel, show fcl 5 85 3 = 4 by decide +kernel, show fcl 5 85 4 = 1 by decide +kernel]
theorem pt5_86 (R : Nat → Nat → Int) : dtm 5 R 86 = 1 * R 0 3 * R 1 2 * R 2 1 * R 3 0 * R 4 4 := by
  show sgn 5 86 * R 0 (fcl 5 86 0) * R 1 (fcl 5 86 1) * R 2 (fcl 5 86 2) * R 3 (fcl 5 86 3) * R 4 (fcl 5 86 4) = _
  rw [show sgn 5 86 = 1 by decide +kernel, show fcl 5 86 0 = 3 by decide +kernel, show fcl 5 86 1 = 2 by decide +kernel, show fcl 5 86 2 = 1 by decide +kernel, show fcl 5 86 3 = 0 by decide +kernel, show fcl 5 86 4 = 4 by decide +kernel]
theorem pt5_87 (R : Nat → Nat → Int) : dtm 5 R 87 = (-1) * R 0 3 * R 1 2 * R 2 1 * R 3 4 * R 4 0 := by
  show sgn 5 87 * R 0 (fcl 5 87 0) * R 1 (fcl 5 87 1) * R 2 (fcl 5 87 2) * R 3 (fcl 5 87 3) * R 4 (fcl 5 87 4) = _
  rw [show sgn 5 87 = -1 by decide +kernel, show fcl 5 87 0 = 3 by decide +kernel, show fcl 5 87 1 = 2 by decide +kernel, show fcl 5 87 2 = 1 by decide +kernel, show fcl 5 87 3 = 4 by decide +kernel, show fcl 5 87 4 = 0 by decide +kernel]
theorem pt5_88 (R : Nat → Nat → Int) : dtm 5 R 88 = (-1) * R 0 3 * R 1 2 * R 2 4 * R 3 0 * R 4 1 := by
  show sgn 5 88 * R 0 (fcl 5 88 0) * R 1 (fcl 5 88 1) * R 2 (fcl 5 88 2) * R 3 (fcl 5 88 3) * R 4 (fcl 5 88 4) = _
  rw [show sgn 5 88 = -1 by decide +kernel, show fcl 5 88 0 = 3 by decide +kernel, show fcl 5 88 1 = 2 by decide +kernel, show fcl 5 88 2 = 4 by decide +kernel, show fcl 5 88 3 = 0 by decide +kernel, show fcl 5 88 4 = 1 by decide +kernel]
theorem pt5_89 (R : Nat → Nat → Int) : dtm 5 R 89 = 1 * R 0 3 * R 1 2 * R 2 4 * R 3 1 * R 4 0 := by
  show sgn 5 89 * R 0 (fcl 5 89 0) * R 1 (fcl 5 89 1) * R 2 (fcl 5 89 2) * R 3 (fcl 5 89 3) * R 4 (fcl 5 89 4) = _
  rw [show sgn 5 89 = 1 by decide +kernel, show fcl 5 89 0 = 3 by decide +kernel, show fcl 5 89 1 = 2 by decide +kernel, show fcl 5 89 2 = 4 by decide +kernel, show fcl 5 89 3 = 1 by decide +kernel, show fcl 5 89 4 = 0 by decide +kernel]
theorem pt5_90 (R : Nat → Nat → Int) : dtm 5 R 90 = 1 * R 0 3 * R 1 4 * R 2 0 * R 3 1 * R 4 2 := by
  show sgn 5 90 * R 0 (fcl 5 90 0) * R 1 (fcl 5 90 1) * R 2 (fcl 5 90 2) * R 3 (fcl 5 90 3) * R 4 (fcl 5 90 4) = _
  rw [show sgn 5 90 = 1 by decide +kernel, show fcl 5 90 0 = 3 by decide +kernel, show fcl 5 90 1 = 4 by decide +kernel, show fcl 5 90 2 = 0 by decide +kernel, show fcl 5 90 3 = 1 by decide +kernel, show fcl 5 90 4 = 2 by decide +kernel]
theorem pt5_91 (R : Nat → Nat → Int) : dtm 5 R 91 = (-1) * R 0 3 * R 1 4 * R 2 0 * R 3 2 * R 4 1 := by
  show sgn 5 91 * R 0 (fcl 5 91 0) * R 1 (fcl 5 91 1) * R 2 (fcl 5 91 2) * R 3 (fcl 5 91 3) * R 4 (fcl 5 91 4) = _
  rw [show sgn 5 91 = -1 by decide +kernel, show fcl 5 91 0 = 3 by decide +kernel, show fcl 5 91 1 = 4 by decide +kernel, show fcl 5 91 2 = 0 by decide +kernel, show fcl 5 91 3 = 2 by decide +kernel, show fcl 5 91 4 = 1 by decide +kernel]
theorem pt5_92 (R : Nat → Nat → Int) : dtm 5 R 92 = (-1) * R 0 3 * R 1 4 * R 2 1 * R 3 0 * R 4 2 := by
  show sgn 5 92 * R 0 (fcl 5 92 0) * R 1 (fcl 5 92 1) * R 2 (fcl 5 92 2) * R 3 (fcl 5 92 3) * R 4 (fcl 5 92 4) = _
  rw [show sgn 5 92 = -1 by decide +kernel, show fcl 5 92 0 = 3 by decide +kernel, show fcl 5 92 1 = 4 by decide +kernel, show fcl 5 92 2 = 1 by decide +kernel, show fcl 5 92 3 = 0 by decide +kernel, show fcl 5 92 4 = 2 by decide +kernel]
theorem pt5_93 (R : Nat → Nat → Int) : dtm 5 R 93 = 1 * R 0 3 * R 1 4 * R 2 1 * R 3 2 * R 4 0 := by
  show sgn 5 93 * R 0 (fcl 5 93 0) * R 1 (fcl 5 93 1) * R 2 (fcl 5 93 2) * R 3 (fcl 5 93 3) * R 4 (fcl 5 93 4) = _
  rw [show sgn 5 93 = 1 by decide +kernel, show fcl 5 93 0 = 3 by decide +kernel, show fcl 5 93 1 = 4 by decide +kernel, show fcl 5 93 2 = 1 by decide +kernel, show fcl 5 93 3 = 2 by decide +kernel, show fcl 5 93 4 = 0 by decide +kernel]
theorem pt5_94 (R : Nat → Nat → Int) : dtm 5 R 94 = 1 * R 0 3 * R 1 4 * R 2 2 * R 3 0 * R 4 1 := by
  show sgn 5 94 * R 0 (fcl 5 94 0) * R 1 (fcl 5 94 1) * R 2 (fcl 5 94 2) * R 3 (fcl 5 94 3) * R 4 (fcl 5 94 4) = _
  rw [show sgn 5 94 = 1 by decide +kernel, show fcl 5 94 0 = 3 by decide +kernel, show fcl 5 94 1 = 4 by decide +kernel, show fcl 5 94 2 = 2 by decide +kernel, show fcl 5 94 3 = 0 by decide +kernel, show fcl 5 94 4 = 1 by decide +kernel]
theorem pt5_95 (R : Nat → Nat → Int) : dtm 5 R 95 = (-1) * R 0 3 * R 1 4 * R 2 2 * R 3 1 * R 4 0 := by
  show sgn 5 95 * R 0 (fcl 5 95 0) * R 1 (fcl 5 95 1) * R 2 (fcl 5 95 2) * R 3 (fcl 5 95 3) * R 4 (fcl 5 95 4) = _
  rw [show sgn 5 95 = -1 by decide +kernel, show fcl 5 95 0 = 3 by decide +kernel, show fcl 5 95 1 = 4 by decide +kernel, show fcl 5 95 2 = 2 by decide +kernel, show fcl 5 95 3 = 1 by decide +kernel, show fcl 5 95 4 = 0 by decide +kernel]
theorem pt5_96 (R : Nat → Nat → Int) : dtm 5 R 96 = 1 * R 0 4 * R 1 0 * R 2 1 * R 3 2 * R 4 3 := by
  show sgn 5 96 * R 0 (fcl 5 96 0) * R 1 (fcl 5 96 1) * R 2 (fcl 5 96 2) * R 3 (fcl 5 96 3) * R 4 (fcl 5 96 4) = _
  rw [show sgn 5 96 = 1 by decide +kernel, show fcl 5 96 0 = 4 by decide +kernel, show fcl 5 96 1 = 0 by decide +kernel, show fcl 5 96 2 = 1 by decide +kernel, show fcl 5 96 3 = 2 by decide +kernel, show fcl 5 96 4 = 3 by decide +kernel]
theorem pt5_97 (R : Nat → Nat → Int) : dtm 5 R 97 = (-1) * R 0 4 * R 1 0 * R 2 1 * R 3 3 * R 4 2 := by
  show sgn 5 97 * R 0 (fcl 5 97 0) * R 1 (fcl 5 97 1) * R 2 (fcl 5 97 2) * R 3 (fcl 5 97 3) * R 4 (fcl 5 97 4) = _
  rw [show sgn 5 97 = -1 by decide +kernel, show fcl 5 97 0 = 4 by decide +kernel, show fcl 5 97 1 = 0 by decide +kernel, show fcl 5 97 2 = 1 by decide +kernel, show fcl 5 97 3 = 3 by decide +kernel, show fcl 5 97 4 = 2 by decide +kernel]
theorem pt5_98 (R : Nat → Nat → Int) : dtm 5 R 98 = (-1) * R 0 4 * R 1 0 * R 2 2 * R 3 1 * R 4 3 := by
  show sgn 5 98 * R 0 (fcl 5 98 0) * R 1 (fcl 5 98 1) * R 2 (fcl 5 98 2) * R 3 (fcl 5 98 3) * R 4 (fcl 5 98 4) = _
  rw [show sgn 5 98 = -1 by decide +kernel, show fcl 5 98 0 = 4 by decide +kernel, show fcl 5 98 1 = 0 by decide +kernel, show fcl 5 98 2 = 2 by decide +kernel, show fcl 5 98 3 = 1 by decide +kernel, show fcl 5 98 4 = 3 by decide +kernel]
theorem pt5_99 (R : Nat → Nat → Int) : dtm 5 R 99 = 1 * R 0 4 * R 1 0 * R 2 2 * R 3 3 * R 4 1 := by
  show sgn 5 99 * R 0 (fcl 5 99 0) * R 1 (fcl 5 99 1) * R 2 (fcl 5 99 2) * R 3 (fcl 5 99 3) * R 4 (fcl 5 99 4) = _
  rw [show sgn 5 99 = 1 by decide +kernel, show fcl 5 99 0 = 4 by decide +kernel, show fcl 5 99 1 = 0 by decide +kernel, show fcl 5 99 2 = 2 by decide +kernel, show fcl 5 99 3 = 3 by decide +kernel, show fcl 5 99 4 = 1 by decide +kernel]
theorem pt5_100 (R : Nat → Nat → Int) : dtm 5 R 100 = 1 * R 0 4 * R 1 0 * R 2 3 * R 3 1 * R 4 2 := by
  show sgn 5 100 * R 0 (fcl 5 100 0) * R 1 (fcl 5 100 1) * R 2 (fcl 5 100 2) * R 3 (fcl 5 100 3) * R 4 (fcl 5 100 4) = _
  rw [show sgn 5 100 = 1 by decide +kernel, show fcl 5 100 0 = 4 by decide +kernel, show fcl 5 100 1 = 0 by decide +kernel, show fcl 5 100 2 = 3 by decide +kernel, show fcl 5 100 3 = 1 by decide +kernel, show fcl 5 100 4 = 2 by decide +kernel]
theorem pt5_101 (R : Nat → Nat → Int) : dtm 5 R 101 = (-1) * R 0 4 * R 1 0 * R 2 3 * R 3 2 * R 4 1 := by
  show sgn 5 101 * R 0 (fcl 5 101 0) * R 1 (fcl 5 101 1) * R 2 (fcl 5 101 2) * R 3 (fcl 5 101 3) * R 4 (fcl 5 101 4) = _
  rw [show sgn 5 101 = -1 by decide +kernel, show fcl 5 101 0 = 4 by decide +kernel, show fcl 5 101 1 = 0 by decide +kernel, show fcl 5 101 2 = 3 by decide +kernel, show fcl 5 101 3 = 2 by decide +kernel, show fcl 5 101 4 = 1 by decide +kernel]
theorem pt5_102 (R : Nat → Nat → Int) : dtm 5 R 102 = (-1) * R 0 4 * R 1 1 * R 2 0 * R 3 2 * R 4 3 := by
  show sgn 5 102 * R 0 (fcl 5 102 0) * R 1 (fcl 5 102 1) * R 2 (fcl 5 102 2) * R 3 (fcl 5 102 3) * R 4 (fcl 5 102 4) = _
  rw [show sgn 5 102 = -1 by decide +kernel, show fcl 5 102 0 = 4 by decide +kernel, show fcl 5 102 1 = 1 by decide +kernel, show fcl 5 102 2 = 0 by decide +kernel, show fcl 5 102 3 = 2 by decide +kernel, show fcl 5 102 4 = 3 by decide +kernel]
theorem pt5_103 (R : Nat → Nat → Int) : dtm 5 R 103 = 1 * R 0 4 * R 1 1 * R 2 0 * R 3 3 * R 4 2 := by
  show sgn 5 103 * R 0 (fcl 5 103 0) * R 1 (fcl 5 103 1) * R 2 (fcl 5 103 2) * R 3 (fcl 5 103 3) * R 4 (fcl 5 103 4) = _
  rw [show sgn 5 103 = 1 by decide +kernel, show fcl 5 103 0 = 4 by decide +kernel, show fcl 5 103 1 = 1 by decide +kernel, show fcl 5 103 2 = 0 by decide +kernel, show fcl 5 103 3 = 3 by decide +kernel, show fcl 5 103 4 = 2 by decide +kernel]
theorem pt5_104 (R : Nat → Nat → Int) : dtm 5 R 104 = 1 * R 0 4 * R 1 1 * R 2 2 * R 3 0 * R 4 3 := by
  show sgn 5 104 * R 0 (fcl 5 104 0) * R 1 (fcl 5 104 1) * R 2 (fcl 5 104 2) * R 3 (fcl 5 104 3) * R 4 (fcl 5 104 4) = _
  rw [show sgn 5 104 = 1 by decide +kernel, show fcl 5 104 0 = 4 by decide +kernel, show fcl 5 104 1 = 1 by decide +kernel, show fcl 5 104 2 = 2 by decide +kernel, show fcl 5 104 3 = 0 by decide +kernel, show fcl 5 104 4 = 3 by decide +kernel]
theorem pt5_105 (R : Nat → Nat → Int) : dtm 5 R 105 = (-1) * R 0 4 * R 1 1 * R 2 2 * R 3 3 * R 4 0 := by
  show sgn 5 105 * R 0 (fcl 5 105 0) * R 1 (fcl 5 105 1) * R 2 (fcl 5 105 2) * R 3 (fcl 5 105 3) * R 4 (fcl 5 105 4) = _
  rw [show sgn 5 105 = -1 by decide +kernel, show fcl 5 105 0 = 4 by decide +kernel, show fcl 5 105 1 = 1 by decide +kernel, show fcl 5 105 2 = 2 by decide +kernel, show fcl 5 105 3 = 3 by decide +kernel, show fcl 5 105 4 = 0 by decide +kernel]
theorem pt5_106 (R : Nat → Nat → Int) : dtm 5 R 106 = (-1) * R 0 4 * R 1 1 * R 2 3 * R 3 0 * R 4 2 := by
  show sgn 5 106 * R 0 (fcl 5 106 0) * R 1 (fcl 5 106 1) * R 2 (fcl 5 106 2) * R 3 (fcl 5 106 3) * R 4 (fcl 5 106 4) = _
  rw [show sgn 5 106 = -1 by decide +kernel, show fcl 5 106 0 = 4 by decide +kernel, show fcl 5 106 1 = 1 by decide +kernel, show fcl 5 106 2 = 3 by decide +kernel, show fcl 5 106 3 = 0 by decide +kernel, show fcl 5 106 4 = 2 by decide +kernel]
theorem pt5_107 (R : Nat → Nat → Int) : dtm 5 R 107 = 1 * R 0 4 * R 1 1 * R 2 3 * R 3 2 * R 4 0 := by
  show sgn 5 107 * R 0 (fcl 5 107 0) * R 1 (fcl 5 107 1) * R 2 (fcl 5 107 2) * R 3 (fcl 5 107 3) * R 4 (fcl 5 107 4) = _
  rw [show sgn 5 107 = 1 by decide +kernel, show fcl 5 107 0 = 4 by decide +kernel, show fcl 5 107 1 = 1 by decide +kernel, show fcl 5 107 2 = 3 by decide +kernel, show fcl 5 107 3 = 2 by decide +kernel, show fcl 5 107 4 = 0 by decide +kernel]
theorem pt5_108 (R : Nat → Nat → Int) : dtm 5 R 108 = 1 * R 0 4 * R 1 2 * R 2 0 * R 3 1 * R 4 3 := by
  show sgn 5 108 * R 0 (fcl 5 108 0) * R 1 (fcl 5 108 1) * R 2 (fcl 5 108 2) * R 3 (fcl 5 108 3) * R 4 (fcl 5 108 4) = _
  rw [show sgn 5 108 = 1 by decide +kernel, show fcl 5 108 0 = 4 by decide +kernel, show fcl 5 108 1 = 2 by decide +kernel, show fcl 5 108 2 = 0 by decide +kernel, show fcl 5 108 3 = 1 by decide +kernel, show fcl 5 108 4 = 3 by decide +kernel]
theorem pt5_109 (R : Nat → Nat → Int) : dtm 5 R 109 = (-1) * R 0 4 * R 1 2 * R 2 0 * R 3 3 * R 4 1 := by
  show sgn 5 109 * R 0 (fcl 5 109 0) * R 1 (fcl 5 109 1) * R 2 (fcl 5 109 2) * R 3 (fcl 5 109 3) * R 4 (fcl 5 109 4) = _
  rw [show sgn 5 109 = -1 by decide +kernel, show fcl 5 109 0 = 4 by decide +kernel, show fcl 5 109 1 = 2 by decide +kernel, show fcl 5 109 2 = 0 by decide +kernel, show fcl 5 109 3 = 3 by decide +kernel, show fcl 5 109 4 = 1 by decide +kernel]
theorem pt5_110 (R : Nat → Nat → Int) : dtm 5 R 110 = (-1) * R 0 4 * R 1 2 * R 2 1 * R 3 0 * R 4 3 := by
  show sgn 5 110 * R 0 (fcl 5 110 0) * R 1 (fcl 5 110 1) * R 2 (fcl 5 110 2) * R 3 (fcl 5 110 3) * R 4 (fcl 5 110 4) = _
  rw [show sgn 5 110 = -1 by decide +kernel, show fcl 5 110 0 = 4 by decide +kernel, show fcl 5 110 1 = 2 by decide +kernel, show fcl 5 110 2 = 1 by decide +kernel, show fcl 5 110 3 = 0 by decide +kernel, show fcl 5 110 4 = 3 by decide +kernel]
theorem pt5_111 (R : Nat → Nat → Int) : dtm 5 R 111 = 1 * R 0 4 * R 1 2 * R 2 1 * R 3 3 * R 4 0 := by
  show sgn 5 111 * R 0 (fcl 5 111 0) * R 1 (fcl 5 111 1) * R 2 (fcl 5 111 2) * R 3 (fcl 5 111 3) * R 4 (fcl 5 111 4) = _
  rw [show sgn 5 111 = 1 by decide +kernel, show fcl 5 111 0 = 4 by decide +kernel, show fcl 5 111 1 = 2 by decide +kernel, show fcl 5 111 2 = 1 by decide +kernel, show fcl 5 111 3 = 3 by decide +kernel, show fcl 5 111 4 = 0 by decide +kernel]
theorem pt5_112 (R : Nat → Nat → Int) : dtm 5 R 112 = 1 * R 0 4 * R 1 2 * R 2 3 * R 3 0 * R 4 1 := by
  show sgn 5 112 * R 0 (fcl 5 112 0) * R 1 (fcl 5 112 1) * R 2 (fcl 5 112 2) * R 3 (fcl 5 112 3) * R 4 (fcl 5 112 4) = _
  rw [show sgn 5 112 = 1 by decide +kernel, show fcl 5 112 0 = 4 by decide +kernel, show fcl 5 112 1 = 2 by decide +kernel, show fcl 5 112 2 = 3 by decide +kernel, show fcl 5 112 3 = 0 by decide +kernel, show fcl 5 112 4 = 1 by decide +kernel]
theorem pt5_113 (R : Nat → Nat → Int) : dtm 5 R 113 = (-1) * R 0 4 * R 1 2 * R 2 3 * R 3 1 * R 4 0 := by
  show sgn 5 113 * R 0 (fcl 5 113 0) * R 1 (fcl 5 113 1) * R 2 (fcl 5 113 2) * R 3 (fcl 5 113 3) * R 4 (fcl 5 113 4) = _
  rw [show sgn 5 113 = -1 by decide +kernel, show fcl 5 113 0 = 4 by decide +kernel, show fcl 5 113 1 = 2 by decide +kernel, show fcl 5 113 2 = 3 by decide +kernel, show fcl 5 113 3 = 1 by decide +kernel, show fcl 5 113 4 = 0 by decide +kernel]
theorem pt5_114 (R : Nat → Nat → Int) : dtm 5 R 114 = (-1) * R 0 4 * R 1 3 * R 2 0 * R 3 1 * R 4 2 := by
  show sgn 5 114 * R 0 (fcl 5 114 0) * R 1 (fcl 5 114 1) * R 2 (fcl 5 114 2) * R 3 (fcl 5 114 3) * R 4 (fcl 5 114 4) = _
  rw [show sgn 5 114 = -1 by decide +kernel, show fcl 5 114 0 = 4 by decide +kernel, show fcl 5 114 1 = 3 by decide +kernel, show fcl 5 114 2 = 0 by decide +kernel, show fcl 5 114 3 = 1 by decide +kernel, show fcl 5 114 4 = 2 by decide +kernel]
theorem pt5_115 (R : Nat → Nat → Int) : dtm 5 R 115 = 1 * R 0 4 * R 1 3 * R 2 0 * R 3 2 * R 4 1 := by
  show sgn 5 115 * R 0 (fcl 5 115 0) * R 1 (fcl 5 115 1) * R 2 (fcl 5 115 2) * R 3 (fcl 5 115 3) * R 4 (fcl 5 115 4) = _
  rw [show sgn 5 115 = 1 by decide +kernel, show fcl 5 115 0 = 4 by decide +kernel, show fcl 5 115 1 = 3 by decide +kernel, show fcl 5 115 2 = 0 by decide +kernel, show fcl 5 115 3 = 2 by decide +kernel, show fcl 5 115 4 = 1 by decide +kernel]
theorem pt5_116 (R : Nat → Nat → Int) : dtm 5 R 116 = 1 * R 0 4 * R 1 3 * R 2 1 * R 3 0 * R 4 2 := by
  show sgn 5 116 * R 0 (fcl 5 116 0) * R 1 (fcl 5 116 1) * R 2 (fcl 5 116 2) * R 3 (fcl 5 116 3) * R 4 (fcl 5 116 4) = _
  rw [show sgn 5 116 = 1 by decide +kernel, show fcl 5 116 0 = 4 by decide +kernel, show fcl 5 116 1 = 3 by decide +kernel, show fcl 5 116 2 = 1 by decide +kernel, show fcl 5 116 3 = 0 by decide +kernel, show fcl 5 116 4 = 2 by decide +kernel]
theorem pt5_117 (R : Nat → Nat → Int) : dtm 5 R 117 = (-1) * R 0 4 * R 1 3 * R 2 1 * R 3 2 * R 4 0 := by
  show sgn 5 117 * R 0 (fcl 5 117 0) * R 1 (fcl 5 117 1) * R 2 (fcl 5 117 2) * R 3 (fcl 5 117 3) * R 4 (fcl 5 117 4) = _
  rw [show sgn 5 117 = -1 by decide +kernel, show fcl 5 117 0 = 4 by decide +kernel, show fcl 5 117 1 = 3 by decide +kernel, show fcl 5 117 2 = 1 by decide +kernel, show fcl 5 117 3 = 2 by decide +kernel, show fcl 5 117 4 = 0 by decide +kernel]
theorem pt5_118 (R : Nat → Nat → Int) : dtm 5 R 118 = (-1) * R 0 4 * R 1 3 * R 2 2 * R 3 0 * R 4 1 := by
  show sgn 5 118 * R 0 (fcl 5 118 0) * R 1 (fcl 5 118 1) * R 2 (fcl 5 118 2) * R 3 (fcl 5 118 3) * R 4 (fcl 5 118 4) = _
  rw [show sgn 5 118 = -1 by decide +kernel, show fcl 5 118 0 = 4 by decide +kernel, show fcl 5 118 1 = 3 by decide +kernel, show fcl 5 118 2 = 2 by decide +kernel, show fcl 5 118 3 = 0 by decide +kernel, show fcl 5 118 4 = 1 by decide +kernel]
theorem pt5_119 (R : Nat → Nat → Int) : dtm 5 R 119 = 1 * R 0 4 * R 1 3 * R 2 2 * R 3 1 * R 4 0 := by
  show sgn 5 119 * R 0 (fcl 5 119 0) * R 1 (fcl 5 119 1) * R 2 (fcl 5 119 2) * R 3 (fcl 5 119 3) * R 4 (fcl 5 119 4) = _
  rw [show sgn 5 119 = 1 by decide +kernel, show fcl 5 119 0 = 4 by decide +kernel, show fcl 5 119 1 = 3 by decide +kernel, show fcl 5 119 2 = 2 by decide +kernel, show fcl 5 119 3 = 1 by decide +kernel, show fcl 5 119 4 = 0 by decide +kernel]
set_option maxRecDepth 100000 in
set_option maxHeartbeats 4000000 in
theorem pdet2 (R : Nat → Nat → Int) : sI (dtm 2 R) 2 = dF 2 R := by
  show 0 + dtm 2 R 0 + dtm 2 R 1 = _
  rw [pt2_0, pt2_1]
  simp only [dF, d2, d3, d4]
  grind
set_option maxRecDepth 100000 in
set_option maxHeartbeats 4000000 in
theorem pdet3 (R : Nat → Nat → Int) : sI (dtm 3 R) 6 = dF 3 R := by
  show 0 + dtm 3 R 0 + dtm 3 R 1 + dtm 3 R 2 + dtm 3 R 3 + dtm 3 R 4 + dtm 3 R 5 = _
  rw [pt3_0, pt3_1, pt3_2, pt3_3, pt3_4, pt3_5]
  simp only [dF, d2, d3, d4]
  grind
set_option maxRecDepth 100000 in
set_option maxHeartbeats 4000000 in
theorem pdet4 (R : Nat → Nat → Int) : sI (dtm 4 R) 24 = dF 4 R := by
  show 0 + dtm 4 R 0 + dtm 4 R 1 + dtm 4 R 2 + dtm 4 R 3 + dtm 4 R 4 + dtm 4 R 5 + dtm 4 R 6 + dtm 4 R 7 + dtm 4 R 8 + dtm 4 R 9 + dtm 4 R 10 + dtm 4 R 11 + dtm 4 R 12 + dtm 4 R 13 + dtm 4 R 14 + dtm 4 R 15 + dtm 4 R 16 + dtm 4 R 17 + dtm 4 R 18 + dtm 4 R 19 + dtm 4 R 20 + dtm 4 R 21 + dtm 4 R 22 + dtm 4 R 23 = _
  rw [pt4_0, pt4_1, pt4_2, pt4_3, pt4_4, pt4_5, pt4_6, pt4_7, pt4_8, pt4_9, pt4_10, pt4_11, pt4_12, pt4_13, pt4_14, pt4_15, pt4_16, pt4_17, pt4_18, pt4_19, pt4_20, pt4_21, pt4_22, pt4_23]
  simp only [dF, d2, d3, d4]
  grind
set_option maxRecDepth 100000 in
set_option maxHeartbeats 4000000 in
theorem pd5_0 (R : Nat → Nat → Int) : sI (fun m => dtm 5 R (0 * 24 + m)) 24 = (R 0 0 * d4 (R 1 1) (R 1 2) (R 1 3) (R 1 4) (R 2 1) (R 2 2) (R 2 3) (R 2 4) (R 3 1) (R 3 2) (R 3 3) (R 3 4) (R 4 1) (R 4 2) (R 4 3) (R 4 4)) := by
  show 0 + dtm 5 R 0 + dtm 5 R 1 + dtm 5 R 2 + dtm 5 R 3 + dtm 5 R 4 + dtm 5 R 5 + dtm 5 R 6 + dtm 5 R 7 + dtm 5 R 8 + dtm 5 R 9 + dtm 5 R 10 + dtm 5 R 11 + dtm 5 R 12 + dtm 5 R 13 + dtm 5 R 14 + dtm 5 R 15 + dtm 5 R 16 + dtm 5 R 17 + dtm 5 R 18 + dtm 5 R 19 + dtm 5 R 20 + dtm 5 R 21 + dtm 5 R 22 + dtm 5 R 23 = _
  rw [pt5_0, pt5_1, pt5_2, pt5_3, pt5_4, pt5_5, pt5_6, pt5_7, pt5_8, pt5_9, pt5_10, pt5_11, pt5_12, pt5_13, pt5_14, pt5_15, pt5_16, pt5_17, pt5_18, pt5_19, pt5_20, pt5_21, pt5_22, pt5_23]
  simp only [d2, d3, d4]
  grind
set_option maxRecDepth 100000 in
set_option maxHeartbeats 4000000 in
theorem pd5_1 (R : Nat → Nat → Int) : sI (fun m => dtm 5 R (1 * 24 + m)) 24 = -(R 0 1 * d4 (R 1 0) (R 1 2) (R 1 3) (R 1 4) (R 2 0) (R 2 2) (R 2 3) (R 2 4) (R 3 0) (R 3 2) (R 3 3) (R 3 4) (R 4 0) (R 4 2) (R 4 3) (R 4 4)) := by
  show 0 + dtm 5 R 24 + dtm 5 R 25 + dtm 5 R 26 + dtm 5 R 27 + dtm 5 R 28 + dtm 5 R 29 + dtm 5 R 30 + dtm 5 R 31 + dtm 5 R 32 + dtm 5 R 33 + dtm 5 R 34 + dtm 5 R 35 + dtm 5 R 36 + dtm 5 R 37 + dtm 5 R 38 + dtm 5 R 39 + dtm 5 R 40 + dtm 5 R 41 + dtm 5 R 42 + dtm 5 R 43 + dtm 5 R 44 + dtm 5 R 45 + dtm 5 R 46 + dtm 5 R 47 = _
  rw [pt5_24, pt5_25, pt5_26, pt5_27, pt5_28, pt5_29, pt5_30, pt5_31, pt5_32, pt5_33, pt5_34, pt5_35, pt5_36, pt5_37, pt5_38, pt5_39, pt5_40, pt5_41, pt5_42, pt5_43, pt5_44, pt5_45, pt5_46, pt5_47]
  simp only [d2, d3, d4]
  grind
set_option maxRecDepth 100000 in
set_option maxHeartbeats 4000000 in
theorem pd5_2 (R : Nat → Nat → Int) : sI (fun m => dtm 5 R (2 * 24 + m)) 24 = (R 0 2 * d4 (R 1 0) (R 1 1) (R 1 3) (R 1 4) (R 2 0) (R 2 1) (R 2 3) (R 2 4) (R 3 0) (R 3 1) (R 3 3) (R 3 4) (R 4 0) (R 4 1) (R 4 3) (R 4 4)) := by
  show 0 + dtm 5 R 48 + dtm 5 R 49 + dtm 5 R 50 + dtm 5 R 51 + dtm 5 R 52 + dtm 5 R 53 + dtm 5 R 54 + dtm 5 R 55 + dtm 5 R 56 + dtm 5 R 57 + dtm 5 R 58 + dtm 5 R 59 + dtm 5 R 60 + dtm 5 R 61 + dtm 5 R 62 + dtm 5 R 63 + dtm 5 R 64 + dtm 5 R 65 + dtm 5 R 66 + dtm 5 R 67 + dtm 5 R 68 + dtm 5 R 69 + dtm 5 R 70 + dtm 5 R 71 = _
  rw [pt5_48, pt5_49, pt5_50, pt5_51, pt5_52, pt5_53, pt5_54, pt5_55, pt5_56, pt5_57, pt5_58, pt5_59, pt5_60, pt5_61, pt5_62, pt5_63, pt5_64, pt5_65, pt5_66, pt5_67, pt5_68, pt5_69, pt5_70, pt5_71]
  simp only [d2, d3, d4]
  grind
set_option maxRecDepth 100000 in
set_option maxHeartbeats 4000000 in
theorem pd5_3 (R : Nat → Nat → Int) : sI (fun m => dtm 5 R (3 * 24 + m)) 24 = -(R 0 3 * d4 (R 1 0) (R 1 1) (R 1 2) (R 1 4) (R 2 0) (R 2 1) (R 2 2) (R 2 4) (R 3 0) (R 3 1) (R 3 2) (R 3 4) (R 4 0) (R 4 1) (R 4 2) (R 4 4)) := by
  show 0 + dtm 5 R 72 + dtm 5 R 73 + dtm 5 R 74 + dtm 5 R 75 + dtm 5 R 76 + dtm 5 R 77 + dtm 5 R 78 + dtm 5 R 79 + dtm 5 R 80 + dtm 5 R 81 + dtm 5 R 82 + dtm 5 R 83 + dtm 5 R 84 + dtm 5 R 85 + dtm 5 R 86 + dtm 5 R 87 + dtm 5 R 88 + dtm 5 R 89 + dtm 5 R 90 + dtm 5 R 91 + dtm 5 R 92 + dtm 5 R 93 + dtm 5 R 94 + dtm 5 R 95 = _
  rw [pt5_72, pt5_73, pt5_74, pt5_75, pt5_76, pt5_77, pt5_78, pt5_79, pt5_80, pt5_81, pt5_82, pt5_83, pt5_84, pt5_85, pt5_86, pt5_87, pt5_88, pt5_89, pt5_90, pt5_91, pt5_92, pt5_93, pt5_94, pt5_95]
  simp only [d2, d3, d4]
  grind
set_option maxRecDepth 100000 in
set_option maxHeartbeats 4000000 in
theorem pd5_4 (R : Nat → Nat → Int) : sI (fun m => dtm 5 R (4 * 24 + m)) 24 = (R 0 4 * d4 (R 1 0) (R 1 1) (R 1 2) (R 1 3) (R 2 0) (R 2 1) (R 2 2) (R 2 3) (R 3 0) (R 3 1) (R 3 2) (R 3 3) (R 4 0) (R 4 1) (R 4 2) (R 4 3)) := by
  show 0 + dtm 5 R 96 + dtm 5 R 97 + dtm 5 R 98 + dtm 5 R 99 + dtm 5 R 100 + dtm 5 R 101 + dtm 5 R 102 + dtm 5 R 103 + dtm 5 R 104 + dtm 5 R 105 + dtm 5 R 106 + dtm 5 R 107 + dtm 5 R 108 + dtm 5 R 109 + dtm 5 R 110 + dtm 5 R 111 + dtm 5 R 112 + dtm 5 R 113 + dtm 5 R 114 + dtm 5 R 115 + dtm 5 R 116 + dtm 5 R 117 + dtm 5 R 118 + dtm 5 R 119 = _
  rw [pt5_96, pt5_97, pt5_98, pt5_99, pt5_100, pt5_101, pt5_102, pt5_103, pt5_104, pt5_105, pt5_106, pt5_107, pt5_108, pt5_109, pt5_110, pt5_111, pt5_112, pt5_113, pt5_114, pt5_115, pt5_116, pt5_117, pt5_118, pt5_119]
  simp only [d2, d3, d4]
  grind
theorem pdet5 (R : Nat → Nat → Int) : sI (dtm 5 R) 120 = dF 5 R := by
  rw [show 120 = 5 * 24 from rfl, sI_prod]
  show 0 + sI (fun m => dtm 5 R (0 * 24 + m)) 24 + sI (fun m => dtm 5 R (1 * 24 + m)) 24 + sI (fun m => dtm 5 R (2 * 24 + m)) 24 + sI (fun m => dtm 5 R (3 * 24 + m)) 24 + sI (fun m => dtm 5 R (4 * 24 + m)) 24 = _
  rw [pd5_0, pd5_1, pd5_2, pd5_3, pd5_4]
  simp only [dF, d5]
  grind
theorem pdet {n : Nat} (h1 : 2 ≤ n) (h2 : n ≤ 5) (R : Nat → Nat → Int) : sI (dtm n R) (fct n) = dF n R := by
  have : n = 2 ∨ n = 3 ∨ n = 4 ∨ n = 5 := by omega
  rcases this with e | e | e | e <;> subst e
  · exact pdet2 R
  · exact pdet3 R
  · exact pdet4 R
  · exact pdet5 R
theorem fokA {n m k : Nat} (h1 : 2 ≤ n) (h2 : n ≤ 5) (hm : m < fct n) (hk : k < n) : fok n m k = true := by
  have : n = 2 ∨ n = 3 ∨ n = 4 ∨ n = 5 := by omega
  rcases this with e | e | e | e <;> subst e
  · exact fok2 m hm k hk
  · exact fok3 m hm k hk
  · exact fok4 m hm k hk
  · exact fok5 m hm k hk
theorem fendA {n m : Nat} (h1 : 2 ≤ n) (h2 : n ≤ 5) (hm : m < fct n) : (fst n m n).2.2.2 < 100 := by
  have : n = 2 ∨ n = 3 ∨ n = 4 ∨ n = 5 := by omega
  rcases this with e | e | e | e <;> subst e
  · exact fend2 m hm
  · exact fend3 m hm
  · exact fend4 m hm
  · exact fend5 m hm
theorem fct_le {n : Nat} : ∀ {k : Nat}, k ≤ 5 → fct k ≤ 120 := by
  intro k hk
  have : k = 0 ∨ k = 1 ∨ k = 2 ∨ k = 3 ∨ k = 4 ∨ k = 5 := by omega
  rcases this with e | e | e | e | e | e <;> subst e <;> decide
