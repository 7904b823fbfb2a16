/-! ===== trees: the determinant counts them ===== -/
def bI (b : Bool) : Int := if b then 1 else 0
def gs (n : Nat) (f : Nat → Nat) : Nat → Nat → Nat
  | 0, i => i
  | k + 1, i => if i < n then gs n f k (f i) else i
def ldA (n : Nat) (f : Nat → Nat) : Nat → Bool
  | 0 => true
  | k + 1 => ldA n f k && Nat.ble n (gs n f n k)
/-- whether from each place one comes to the pit -/
def ld (n : Nat) (f : Nat → Nat) : Bool := ldA n f n
def Vf (f : Nat → Nat) : Nat → Nat → Int := fun p j => dlt p j - dlt (f p) j
def fl (l : List Nat) : Nat → Nat := fun i => l.getD i 0
set_option maxRecDepth 100000 in
theorem tc2 : ∀ a, a < 3 → ∀ b, b < 3 → dF 2 (Vf (fl [a, b])) = bI (ld 2 (fl [a, b])) := by decide +kernel
set_option maxRecDepth 100000 in
theorem tc3 : ∀ a, a < 4 → ∀ b, b < 4 → ∀ c, c < 4 → dF 3 (Vf (fl [a, b, c])) = bI (ld 3 (fl [a, b, c])) := by decide +kernel
set_option maxRecDepth 100000 in
theorem tc4 : ∀ a, a < 5 → ∀ b, b < 5 → ∀ c, c < 5 → ∀ d, d < 5 → dF 4 (Vf (fl [a, b, c, d])) = bI (ld 4 (fl [a, b, c, d])) := by decide +kernel
set_option maxRecDepth 100000 in
theorem tc5_00 : ∀ c, c < 6 → ∀ d, d < 6 → ∀ e, e < 6 → dF 5 (Vf (fl [0, 0, c, d, e])) = bI (ld 5 (fl [0, 0, c, d, e])) := by decide +kernel
set_option maxRecDepth 100000 in
theorem tc5_01 : ∀ c, c < 6 → ∀ d, d < 6 → ∀ e, e < 6 → dF 5 (Vf (fl [0, 1, c, d, e])) = bI (ld 5 (fl [0, 1, c, d, e])) := by decide +kernel
set_option maxRecDepth 100000 in
theorem tc5_02 : ∀ c, c < 6 → ∀ d, d < 6 → ∀ e, e < 6 → dF 5 (Vf (fl [0, 2, c, d, e])) = bI (ld 5 (fl [0, 2, c, d, e])) := by decide +kernel
set_option maxRecDepth 100000 in
theorem tc5_03 : ∀ c, c < 6 → ∀ d, d < 6 → ∀ e, e < 6 → dF 5 (Vf (fl [0, 3, c, d, e])) = bI (ld 5 (fl [0, 3, c, d, e])) := by decide +kernel
set_option maxRecDepth 100000 in
theorem tc5_04 : ∀ c, c < 6 → ∀ d, d < 6 → ∀ e, e < 6 → dF 5 (Vf (fl [0, 4, c, d, e])) = bI (ld 5 (fl [0, 4, c, d, e])) := by decide +kernel
set_option maxRecDepth 100000 in
theorem tc5_05 : ∀ c, c < 6 → ∀ d, d < 6 → ∀ e, e < 6 → dF 5 (Vf (fl [0, 5, c, d, e])) = bI (ld 5 (fl [0, 5, c, d, e])) := by decide +kernel
set_option maxRecDepth 100000 in
theorem tc5_10 : ∀ c, c < 6 → ∀ d, d < 6 → ∀ e, e < 6 → dF 5 (Vf (fl [1, 0, c, d, e])) = bI (ld 5 (fl [1, 0, c, d, e])) := by decide +kernel
set_option maxRecDepth 100000 in
theorem tc5_11 : ∀ c, c < 6 → ∀ d, d < 6 → ∀ e, e < 6 → dF 5 (Vf (fl [1, 1, c, d, e])) = bI (ld 5 (fl [1, 1, c, d, e])) := by decide +kernel
set_option maxRecDepth 100000 in
theorem tc5_12 : ∀ c, c < 6 → ∀ d, d < 6 → ∀ e, e < 6 → dF 5 (Vf (fl [1, 2, c, d, e])) = bI (ld 5 (fl [1, 2, c, d, e])) := by decide +kernel
set_option maxRecDepth 100000 in
theorem tc5_13 : ∀ c, c < 6 → ∀ d, d < 6 → ∀ e, e < 6 → dF 5 (Vf (fl [1, 3, c, d, e])) = bI (ld 5 (fl [1, 3, c, d, e])) := by decide +kernel
set_option maxRecDepth 100000 in
theorem tc5_14 : ∀ c, c < 6 → ∀ d, d < 6 → ∀ e, e < 6 → dF 5 (Vf (fl [1, 4, c, d, e])) = bI (ld 5 (fl [1, 4, c, d, e])) := by decide +kernel
set_option maxRecDepth 100000 in
theorem tc5_15 : ∀ c, c < 6 → ∀ d, d < 6 → ∀ e, e < 6 → dF 5 (Vf (fl [1, 5, c, d, e])) = bI (ld 5 (fl [1, 5, c, d, e])) := by decide +kernel
set_option maxRecDepth 100000 in
theorem tc5_20 : ∀ c, c < 6 → ∀ d, d < 6 → ∀ e, e < 6 → dF 5 (Vf (fl [2, 0, c, d, e])) = bI (ld 5 (fl [2, 0, c, d, e])) := by decide +kernel
set_option maxRecDepth 100000 in
theorem tc5_21 : ∀ c, c < 6 → ∀ d, d < 6 → ∀ e, e < 6 → dF 5 (Vf (fl [2, 1, c, d, e])) = bI (ld 5 (fl [2, 1, c, d, e])) := by decide +kernel
set_option maxRecDepth 100000 in
theorem tc5_22 : ∀ c, c < 6 → ∀ d, d < 6 → ∀ e, e < 6 → dF 5 (Vf (fl [2, 2, c, d, e])) = bI (ld 5 (fl [2, 2, c, d, e])) := by decide +kernel
set_option maxRecDepth 100000 in
theorem tc5_23 : ∀ c, c < 6 → ∀ d, d < 6 → ∀ e, e < 6 → dF 5 (Vf (fl [2, 3, c, d, e])) = bI (ld 5 (fl [2, 3, c, d, e])) := by decide +kernel
set_option maxRecDepth 100000 in
theorem tc5_24 : ∀ c, c < 6 → ∀ d, d < 6 → ∀ e, e < 6 → dF 5 (Vf (fl [2, 4, c, d, e])) = bI (ld 5 (fl [2, 4, c, d, e])) := by decide +kernel
set_option maxRecDepth 100000 in
theorem tc5_25 : ∀ c, c < 6 → ∀ d, d < 6 → ∀ e, e < 6 → dF 5 (Vf (fl [2, 5, c, d, e])) = bI (ld 5 (fl [2, 5, c, d, e])) := by decide +kernel
set_option maxRecDepth 100000 in
theorem tc5_30 : ∀ c, c < 6 → ∀ d, d < 6 → ∀ e, e < 6 → dF 5 (Vf (fl [3, 0, c, d, e])) = bI (ld 5 (fl [3, 0, c, d, e])) := by decide +kernel
set_option maxRecDepth 100000 in
theorem tc5_31 : ∀ c, c < 6 → ∀ d, d < 6 → ∀ e, e < 6 → dF 5 (Vf (fl [3, 1, c, d, e])) = bI (ld 5 (fl [3, 1, c, d, e])) := by decide +kernel
set_option maxRecDepth 100000 in
theorem tc5_32 : ∀ c, c < 6 → ∀ d, d < 6 → ∀ e, e < 6 → dF 5 (Vf (fl [3, 2, c, d, e])) = bI (ld 5 (fl [3, 2, c, d, e])) := by decide +kernel
set_option maxRecDepth 100000 in
theorem tc5_33 : ∀ c, c < 6 → ∀ d, d < 6 → ∀ e, e < 6 → dF 5 (Vf (fl [3, 3, c, d, e])) = bI (ld 5 (fl [3, 3, c, d, e])) := by decide +kernel
set_option maxRecDepth 100000 in
theorem tc5_34 : ∀ c, c < 6 → ∀ d, d < 6 → ∀ e, e < 6 → dF 5 (Vf (fl [3, 4, c, d, e])) = bI (ld 5 (fl [3, 4, c, d, e])) := by decide +kernel
set_option maxRecDepth 100000 in
theorem tc5_35 : ∀ c, c < 6 → ∀ d, d < 6 → ∀ e, e < 6 → dF 5 (Vf (fl [3, 5, c, d, e])) = bI (ld 5 (fl [3, 5, c, d, e])) := by decide +kernel
set_option maxRecDepth 100000 in
theorem tc5_40 : ∀ c, c < 6 → ∀ d, d < 6 → ∀ e, e < 6 → dF 5 (Vf (fl [4, 0, c, d, e])) = bI (ld 5 (fl [4, 0, c, d, e])) := by decide +kernel
set_option maxRecDepth 100000 in
theorem tc5_41 : ∀ c, c < 6 → ∀ d, d < 6 → ∀ e, e < 6 → dF 5 (Vf (fl [4, 1, c, d, e])) = bI (ld 5 (fl [4, 1, c, d, e])) := by decide +kernel
set_option maxRecDepth 100000 in
theorem tc5_42 : ∀ c, c < 6 → ∀ d, d < 6 → ∀ e, e < 6 → dF 5 (Vf (fl [4, 2, c, d, e])) = bI (ld 5 (fl [4, 2, c, d, e])) := by decide +kernel
set_option maxRecDepth 100000 in
theorem tc5_43 : ∀ c, c < 6 → ∀ d, d < 6 → ∀ e, e < 6 → dF 5 (Vf (fl [4, 3, c, d, e])) = bI (ld 5 (fl [4, 3, c, d, e])) := by decide +kernel
set_option maxRecDepth 100000 in
theorem tc5_44 : ∀ c, c < 6 → ∀ d, d < 6 → ∀ e, e < 6 → dF 5 (Vf (fl [4, 4, c, d, e])) = bI (ld 5 (fl [4, 4, c, d, e])) := by decide +kernel
set_option maxRecDepth 100000 in
theorem tc5_45 : ∀ c, c < 6 → ∀ d, d < 6 → ∀ e, e < 6 → dF 5 (Vf (fl [4, 5, c, d, e])) = bI (ld 5 (fl [4, 5, c, d, e])) := by decide +kernel
set_option maxRecDepth 100000 in
theorem tc5_50 : ∀ c, c < 6 → ∀ d, d < 6 → ∀ e, e < 6 → dF 5 (Vf (fl [5, 0, c, d, e])) = bI (ld 5 (fl [5, 0, c, d, e])) := by decide +kernel
set_option maxRecDepth 100000 in
theorem tc5_51 : ∀ c, c < 6 → ∀ d, d < 6 → ∀ e, e < 6 → dF 5 (Vf (fl [5, 1, c, d, e])) = bI (ld 5 (fl [5, 1, c, d, e])) := by decide +kernel
set_option maxRecDepth 100000 in
theorem tc5_52 : ∀ c, c < 6 → ∀ d, d < 6 → ∀ e, e < 6 → dF 5 (Vf (fl [5, 2, c, d, e])) = bI (ld 5 (fl [5, 2, c, d, e])) := by decide +kernel
set_option maxRecDepth 100000 in
theorem tc5_53 : ∀ c, c < 6 → ∀ d, d < 6 → ∀ e, e < 6 → dF 5 (Vf (fl [5, 3, c, d, e])) = bI (ld 5 (fl [5, 3, c, d, e])) := by decide +kernel
set_option maxRecDepth 100000 in
theorem tc5_54 : ∀ c, c < 6 → ∀ d, d < 6 → ∀ e, e < 6 → dF 5 (Vf (fl [5, 4, c, d, e])) = bI (ld 5 (fl [5, 4, c, d, e])) := by decide +kernel
set_option maxRecDepth 100000 in
theorem tc5_55 : ∀ c, c < 6 → ∀ d, d < 6 → ∀ e, e < 6 → dF 5 (Vf (fl [5, 5, c, d, e])) = bI (ld 5 (fl [5, 5, c, d, e])) := by decide +kernel
