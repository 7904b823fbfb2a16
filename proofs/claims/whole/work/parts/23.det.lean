/-! ===== determinants up to five rows (written by a program) ===== -/
def d1 (a : Int) : Int := a
def d2 (a b c d : Int) : Int := a * d - b * c
def d3 (m00 m01 m02 m10 m11 m12 m20 m21 m22 : Int) : Int := m00 * (d2 m11 m12 m21 m22) - m01 * (d2 m10 m12 m20 m22) + m02 * (d2 m10 m11 m20 m21)
def d4 (m00 m01 m02 m03 m10 m11 m12 m13 m20 m21 m22 m23 m30 m31 m32 m33 : Int) : Int := m00 * (d3 m11 m12 m13 m21 m22 m23 m31 m32 m33) - m01 * (d3 m10 m12 m13 m20 m22 m23 m30 m32 m33) + m02 * (d3 m10 m11 m13 m20 m21 m23 m30 m31 m33) - m03 * (d3 m10 m11 m12 m20 m21 m22 m30 m31 m32)
def d5 (m00 m01 m02 m03 m04 m10 m11 m12 m13 m14 m20 m21 m22 m23 m24 m30 m31 m32 m33 m34 m40 m41 m42 m43 m44 : Int) : Int := m00 * (d4 m11 m12 m13 m14 m21 m22 m23 m24 m31 m32 m33 m34 m41 m42 m43 m44) - m01 * (d4 m10 m12 m13 m14 m20 m22 m23 m24 m30 m32 m33 m34 m40 m42 m43 m44) + m02 * (d4 m10 m11 m13 m14 m20 m21 m23 m24 m30 m31 m33 m34 m40 m41 m43 m44) - m03 * (d4 m10 m11 m12 m14 m20 m21 m22 m24 m30 m31 m32 m34 m40 m41 m42 m44) + m04 * (d4 m10 m11 m12 m13 m20 m21 m22 m23 m30 m31 m32 m33 m40 m41 m42 m43)
theorem syl2 (m00 m01 m10 m11 : Int) : (d2 m00 m01 m10 m11) * 1 = (d1 m11) * (d1 m00) - (d1 m10) * (d1 m01) := by
  simp only [d1, d2, d3, d4, d5]
  grind
theorem syl3 (m00 m01 m02 m10 m11 m12 m20 m21 m22 : Int) : (d3 m00 m01 m02 m10 m11 m12 m20 m21 m22) * (d1 m00) = (d2 m00 m02 m20 m22) * (d2 m00 m01 m10 m11) - (d2 m00 m01 m20 m21) * (d2 m00 m02 m10 m12) := by
  simp only [d1, d2, d3, d4, d5]
  grind
theorem syl4 (m00 m01 m02 m03 m10 m11 m12 m13 m20 m21 m22 m23 m30 m31 m32 m33 : Int) : (d4 m00 m01 m02 m03 m10 m11 m12 m13 m20 m21 m22 m23 m30 m31 m32 m33) * (d2 m00 m01 m10 m11) = (d3 m00 m01 m03 m10 m11 m13 m30 m31 m33) * (d3 m00 m01 m02 m10 m11 m12 m20 m21 m22) - (d3 m00 m01 m02 m10 m11 m12 m30 m31 m32) * (d3 m00 m01 m03 m10 m11 m13 m20 m21 m23) := by
  simp only [d1, d2, d3, d4, d5]
  grind
set_option maxRecDepth 1000000 in
set_option maxHeartbeats 4000000 in
theorem d5_row3 (m00 m01 m02 m03 m04 m10 m11 m12 m13 m14 m20 m21 m22 m23 m24 m30 m31 m32 m33 m34 m40 m41 m42 m43 m44 : Int) : (d5 m00 m01 m02 m03 m04 m10 m11 m12 m13 m14 m20 m21 m22 m23 m24 m30 m31 m32 m33 m34 m40 m41 m42 m43 m44) = (-1) * (m30 * (d4 m01 m02 m03 m04 m11 m12 m13 m14 m21 m22 m23 m24 m41 m42 m43 m44)) + 1 * (m31 * (d4 m00 m02 m03 m04 m10 m12 m13 m14 m20 m22 m23 m24 m40 m42 m43 m44)) + (-1) * (m32 * (d4 m00 m01 m03 m04 m10 m11 m13 m14 m20 m21 m23 m24 m40 m41 m43 m44)) + 1 * (m33 * (d4 m00 m01 m02 m04 m10 m11 m12 m14 m20 m21 m22 m24 m40 m41 m42 m44)) + (-1) * (m34 * (d4 m00 m01 m02 m03 m10 m11 m12 m13 m20 m21 m22 m23 m40 m41 m42 m43)) := by
  simp only [d1, d2, d3, d4, d5]
  grind
set_option maxRecDepth 1000000 in
set_option maxHeartbeats 4000000 in
theorem d5_tw0 (m00 m01 m02 m03 m04 m10 m11 m12 m13 m14 m20 m21 m22 m23 m24 m40 m41 m42 m43 m44 : Int) : (-1) * (m00 * (d4 m01 m02 m03 m04 m11 m12 m13 m14 m21 m22 m23 m24 m41 m42 m43 m44)) + 1 * (m01 * (d4 m00 m02 m03 m04 m10 m12 m13 m14 m20 m22 m23 m24 m40 m42 m43 m44)) + (-1) * (m02 * (d4 m00 m01 m03 m04 m10 m11 m13 m14 m20 m21 m23 m24 m40 m41 m43 m44)) + 1 * (m03 * (d4 m00 m01 m02 m04 m10 m11 m12 m14 m20 m21 m22 m24 m40 m41 m42 m44)) + (-1) * (m04 * (d4 m00 m01 m02 m03 m10 m11 m12 m13 m20 m21 m22 m23 m40 m41 m42 m43)) = 0 := by
  simp only [d1, d2, d3, d4, d5]
  grind
set_option maxRecDepth 1000000 in
set_option maxHeartbeats 4000000 in
theorem d5_tw1 (m00 m01 m02 m03 m04 m10 m11 m12 m13 m14 m20 m21 m22 m23 m24 m40 m41 m42 m43 m44 : Int) : (-1) * (m10 * (d4 m01 m02 m03 m04 m11 m12 m13 m14 m21 m22 m23 m24 m41 m42 m43 m44)) + 1 * (m11 * (d4 m00 m02 m03 m04 m10 m12 m13 m14 m20 m22 m23 m24 m40 m42 m43 m44)) + (-1) * (m12 * (d4 m00 m01 m03 m04 m10 m11 m13 m14 m20 m21 m23 m24 m40 m41 m43 m44)) + 1 * (m13 * (d4 m00 m01 m02 m04 m10 m11 m12 m14 m20 m21 m22 m24 m40 m41 m42 m44)) + (-1) * (m14 * (d4 m00 m01 m02 m03 m10 m11 m12 m13 m20 m21 m22 m23 m40 m41 m42 m43)) = 0 := by
  simp only [d1, d2, d3, d4, d5]
  grind
set_option maxRecDepth 1000000 in
set_option maxHeartbeats 4000000 in
theorem d5_tw2 (m00 m01 m02 m03 m04 m10 m11 m12 m13 m14 m20 m21 m22 m23 m24 m40 m41 m42 m43 m44 : Int) : (-1) * (m20 * (d4 m01 m02 m03 m04 m11 m12 m13 m14 m21 m22 m23 m24 m41 m42 m43 m44)) + 1 * (m21 * (d4 m00 m02 m03 m04 m10 m12 m13 m14 m20 m22 m23 m24 m40 m42 m43 m44)) + (-1) * (m22 * (d4 m00 m01 m03 m04 m10 m11 m13 m14 m20 m21 m23 m24 m40 m41 m43 m44)) + 1 * (m23 * (d4 m00 m01 m02 m04 m10 m11 m12 m14 m20 m21 m22 m24 m40 m41 m42 m44)) + (-1) * (m24 * (d4 m00 m01 m02 m03 m10 m11 m12 m13 m20 m21 m22 m23 m40 m41 m42 m43)) = 0 := by
  simp only [d1, d2, d3, d4, d5]
  grind
theorem d5_el0 (m00 m01 m02 m10 m11 m12 m20 m21 m22 m30 m31 m32 : Int) : (d3 m00 m01 m02 m10 m11 m12 m20 m21 m22) * m30 = 0 - ((-1) * ((d3 m10 m11 m12 m20 m21 m22 m30 m31 m32) * m00) + 1 * ((d3 m00 m01 m02 m20 m21 m22 m30 m31 m32) * m10) + (-1) * ((d3 m00 m01 m02 m10 m11 m12 m30 m31 m32) * m20)) := by
  simp only [d1, d2, d3, d4, d5]
  grind
theorem d5_el1 (m00 m01 m02 m10 m11 m12 m20 m21 m22 m30 m31 m32 : Int) : (d3 m00 m01 m02 m10 m11 m12 m20 m21 m22) * m31 = 0 - ((-1) * ((d3 m10 m11 m12 m20 m21 m22 m30 m31 m32) * m01) + 1 * ((d3 m00 m01 m02 m20 m21 m22 m30 m31 m32) * m11) + (-1) * ((d3 m00 m01 m02 m10 m11 m12 m30 m31 m32) * m21)) := by
  simp only [d1, d2, d3, d4, d5]
  grind
theorem d5_el2 (m00 m01 m02 m10 m11 m12 m20 m21 m22 m30 m31 m32 : Int) : (d3 m00 m01 m02 m10 m11 m12 m20 m21 m22) * m32 = 0 - ((-1) * ((d3 m10 m11 m12 m20 m21 m22 m30 m31 m32) * m02) + 1 * ((d3 m00 m01 m02 m20 m21 m22 m30 m31 m32) * m12) + (-1) * ((d3 m00 m01 m02 m10 m11 m12 m30 m31 m32) * m22)) := by
  simp only [d1, d2, d3, d4, d5]
  grind
theorem d5_el3 (m00 m01 m02 m03 m10 m11 m12 m13 m20 m21 m22 m23 m30 m31 m32 m33 : Int) : (d3 m00 m01 m02 m10 m11 m12 m20 m21 m22) * m33 = (d4 m00 m01 m02 m03 m10 m11 m12 m13 m20 m21 m22 m23 m30 m31 m32 m33) - ((-1) * ((d3 m10 m11 m12 m20 m21 m22 m30 m31 m32) * m03) + 1 * ((d3 m00 m01 m02 m20 m21 m22 m30 m31 m32) * m13) + (-1) * ((d3 m00 m01 m02 m10 m11 m12 m30 m31 m32) * m23)) := by
  simp only [d1, d2, d3, d4, d5]
  grind
theorem d5_el4 (m00 m01 m02 m04 m10 m11 m12 m14 m20 m21 m22 m24 m30 m31 m32 m34 : Int) : (d3 m00 m01 m02 m10 m11 m12 m20 m21 m22) * m34 = (d4 m00 m01 m02 m04 m10 m11 m12 m14 m20 m21 m22 m24 m30 m31 m32 m34) - ((-1) * ((d3 m10 m11 m12 m20 m21 m22 m30 m31 m32) * m04) + 1 * ((d3 m00 m01 m02 m20 m21 m22 m30 m31 m32) * m14) + (-1) * ((d3 m00 m01 m02 m10 m11 m12 m30 m31 m32) * m24)) := by
  simp only [d1, d2, d3, d4, d5]
  grind
theorem syl5_k1 (D r0 r1 r2 r3 r4 c0 c1 c2 c3 c4 : Int) : ((-1) * (r0 * c0) + 1 * (r1 * c1) + (-1) * (r2 * c2) + 1 * (r3 * c3) + (-1) * (r4 * c4)) * D = (-1) * ((D * r0) * c0) + 1 * ((D * r1) * c1) + (-1) * ((D * r2) * c2) + 1 * ((D * r3) * c3) + (-1) * ((D * r4) * c4) := by grind
theorem syl5_k2 (c0 c1 c2 c3 c4 p3 p4 e0 e1 e2 a00 a01 a02 a03 a04 a10 a11 a12 a13 a14 a20 a21 a22 a23 a24 : Int) : (-1) * ((0 - ((-1) * (e0 * a00) + 1 * (e1 * a10) + (-1) * (e2 * a20))) * c0) + 1 * ((0 - ((-1) * (e0 * a01) + 1 * (e1 * a11) + (-1) * (e2 * a21))) * c1) + (-1) * ((0 - ((-1) * (e0 * a02) + 1 * (e1 * a12) + (-1) * (e2 * a22))) * c2) + 1 * ((p3 - ((-1) * (e0 * a03) + 1 * (e1 * a13) + (-1) * (e2 * a23))) * c3) + (-1) * ((p4 - ((-1) * (e0 * a04) + 1 * (e1 * a14) + (-1) * (e2 * a24))) * c4) = (c3 * p3 - c4 * p4) + e0 * ((-1) * (a00 * c0) + 1 * (a01 * c1) + (-1) * (a02 * c2) + 1 * (a03 * c3) + (-1) * (a04 * c4)) + (-1) * (e1 * ((-1) * (a10 * c0) + 1 * (a11 * c1) + (-1) * (a12 * c2) + 1 * (a13 * c3) + (-1) * (a14 * c4))) + e2 * ((-1) * (a20 * c0) + 1 * (a21 * c1) + (-1) * (a22 * c2) + 1 * (a23 * c3) + (-1) * (a24 * c4)) := by grind
theorem syl5_lin (D r0 r1 r2 r3 r4 c0 c1 c2 c3 c4 p3 p4 e0 e1 e2 a00 a01 a02 a03 a04 a10 a11 a12 a13 a14 a20 a21 a22 a23 a24 : Int) (h0 : D * r0 = 0 - ((-1) * (e0 * a00) + 1 * (e1 * a10) + (-1) * (e2 * a20))) (h1 : D * r1 = 0 - ((-1) * (e0 * a01) + 1 * (e1 * a11) + (-1) * (e2 * a21))) (h2 : D * r2 = 0 - ((-1) * (e0 * a02) + 1 * (e1 * a12) + (-1) * (e2 * a22))) (h3 : D * r3 = p3 - ((-1) * (e0 * a03) + 1 * (e1 * a13) + (-1) * (e2 * a23))) (h4 : D * r4 = p4 - ((-1) * (e0 * a04) + 1 * (e1 * a14) + (-1) * (e2 * a24))) (z0 : (-1) * (a00 * c0) + 1 * (a01 * c1) + (-1) * (a02 * c2) + 1 * (a03 * c3) + (-1) * (a04 * c4) = 0) (z1 : (-1) * (a10 * c0) + 1 * (a11 * c1) + (-1) * (a12 * c2) + 1 * (a13 * c3) + (-1) * (a14 * c4) = 0) (z2 : (-1) * (a20 * c0) + 1 * (a21 * c1) + (-1) * (a22 * c2) + 1 * (a23 * c3) + (-1) * (a24 * c4) = 0) : ((-1) * (r0 * c0) + 1 * (r1 * c1) + (-1) * (r2 * c2) + 1 * (r3 * c3) + (-1) * (r4 * c4)) * D = c3 * p3 - c4 * p4 := by
  rw [syl5_k1, h0, h1, h2, h3, h4, syl5_k2, z0, z1, z2]
  simp
theorem syl5 (m00 m01 m02 m03 m04 m10 m11 m12 m13 m14 m20 m21 m22 m23 m24 m30 m31 m32 m33 m34 m40 m41 m42 m43 m44 : Int) : (d5 m00 m01 m02 m03 m04 m10 m11 m12 m13 m14 m20 m21 m22 m23 m24 m30 m31 m32 m33 m34 m40 m41 m42 m43 m44) * (d3 m00 m01 m02 m10 m11 m12 m20 m21 m22) = (d4 m00 m01 m02 m04 m10 m11 m12 m14 m20 m21 m22 m24 m40 m41 m42 m44) * (d4 m00 m01 m02 m03 m10 m11 m12 m13 m20 m21 m22 m23 m30 m31 m32 m33) - (d4 m00 m01 m02 m03 m10 m11 m12 m13 m20 m21 m22 m23 m40 m41 m42 m43) * (d4 m00 m01 m02 m04 m10 m11 m12 m14 m20 m21 m22 m24 m30 m31 m32 m34) := by
  rw [d5_row3]
  exact syl5_lin _ _ _ _ _ _ _ _ _ _ _ _ _ _ _ _ _ _ _ _ _ _ _ _ _ _ _ _ _ _ _  (d5_el0 m00 m01 m02 m10 m11 m12 m20 m21 m22 m30 m31 m32) (d5_el1 m00 m01 m02 m10 m11 m12 m20 m21 m22 m30 m31 m32) (d5_el2 m00 m01 m02 m10 m11 m12 m20 m21 m22 m30 m31 m32) (d5_el3 m00 m01 m02 m03 m10 m11 m12 m13 m20 m21 m22 m23 m30 m31 m32 m33) (d5_el4 m00 m01 m02 m04 m10 m11 m12 m14 m20 m21 m22 m24 m30 m31 m32 m34) (d5_tw0 m00 m01 m02 m03 m04 m10 m11 m12 m13 m14 m20 m21 m22 m23 m24 m40 m41 m42 m43 m44) (d5_tw1 m00 m01 m02 m03 m04 m10 m11 m12 m13 m14 m20 m21 m22 m23 m24 m40 m41 m42 m43 m44) (d5_tw2 m00 m01 m02 m03 m04 m10 m11 m12 m13 m14 m20 m21 m22 m23 m24 m40 m41 m42 m43 m44)
/-- the determinant of the first n rows and columns -/
def dF (n : Nat) (R : Nat → Nat → Int) : Int := match n with
  | 0 => 1
  | 1 => (d1 (R 0 0))
  | 2 => (d2 (R 0 0) (R 0 1) (R 1 0) (R 1 1))
  | 3 => (d3 (R 0 0) (R 0 1) (R 0 2) (R 1 0) (R 1 1) (R 1 2) (R 2 0) (R 2 1) (R 2 2))
  | 4 => (d4 (R 0 0) (R 0 1) (R 0 2) (R 0 3) (R 1 0) (R 1 1) (R 1 2) (R 1 3) (R 2 0) (R 2 1) (R 2 2) (R 2 3) (R 3 0) (R 3 1) (R 3 2) (R 3 3))
  | 5 => (d5 (R 0 0) (R 0 1) (R 0 2) (R 0 3) (R 0 4) (R 1 0) (R 1 1) (R 1 2) (R 1 3) (R 1 4) (R 2 0) (R 2 1) (R 2 2) (R 2 3) (R 2 4) (R 3 0) (R 3 1) (R 3 2) (R 3 3) (R 3 4) (R 4 0) (R 4 1) (R 4 2) (R 4 3) (R 4 4))
  | _ => 0
def upR (R : Nat → Nat → Int) (p : Nat) (r : Nat → Int) : Nat → Nat → Int := fun i j => if i = p then r j else R i j
def dlt (q : Nat) : Nat → Int := fun j => if j = q then 1 else 0
set_option maxRecDepth 1000000 in
set_option maxHeartbeats 4000000 in
theorem dF_lin20 (R : Nat → Nat → Int) (r : Nat → Int) : dF 2 (upR R 0 r) = sI (fun q => r q * dF 2 (upR R 0 (dlt q))) 2 := by
  simp [dF, d1, d2, d3, d4, d5, upR, dlt, sI]
  try grind
set_option maxRecDepth 1000000 in
set_option maxHeartbeats 4000000 in
theorem dF_lin21 (R : Nat → Nat → Int) (r : Nat → Int) : dF 2 (upR R 1 r) = sI (fun q => r q * dF 2 (upR R 1 (dlt q))) 2 := by
  simp [dF, d1, d2, d3, d4, d5, upR, dlt, sI]
  try grind
set_option maxRecDepth 1000000 in
set_option maxHeartbeats 4000000 in
theorem dF_lin30 (R : Nat → Nat → Int) (r : Nat → Int) : dF 3 (upR R 0 r) = sI (fun q => r q * dF 3 (upR R 0 (dlt q))) 3 := by
  simp [dF, d1, d2, d3, d4, d5, upR, dlt, sI]
  try grind
set_option maxRecDepth 1000000 in
set_option maxHeartbeats 4000000 in
theorem dF_lin31 (R : Nat → Nat → Int) (r : Nat → Int) : dF 3 (upR R 1 r) = sI (fun q => r q * dF 3 (upR R 1 (dlt q))) 3 := by
  simp [dF, d1, d2, d3, d4, d5, upR, dlt, sI]
  try grind
set_option maxRecDepth 1000000 in
set_option maxHeartbeats 4000000 in
theorem dF_lin32 (R : Nat → Nat → Int) (r : Nat → Int) : dF 3 (upR R 2 r) = sI (fun q => r q * dF 3 (upR R 2 (dlt q))) 3 := by
  simp [dF, d1, d2, d3, d4, d5, upR, dlt, sI]
  try grind
set_option maxRecDepth 1000000 in
set_option maxHeartbeats 4000000 in
theorem dF_lin40 (R : Nat → Nat → Int) (r : Nat → Int) : dF 4 (upR R 0 r) = sI (fun q => r q * dF 4 (upR R 0 (dlt q))) 4 := by
  simp [dF, d1, d2, d3, d4, d5, upR, dlt, sI]
  try grind
set_option maxRecDepth 1000000 in
set_option maxHeartbeats 4000000 in
theorem dF_lin41 (R : Nat → Nat → Int) (r : Nat → Int) : dF 4 (upR R 1 r) = sI (fun q => r q * dF 4 (upR R 1 (dlt q))) 4 := by
  simp [dF, d1, d2, d3, d4, d5, upR, dlt, sI]
  try grind
set_option maxRecDepth 1000000 in
set_option maxHeartbeats 4000000 in
theorem dF_lin42 (R : Nat → Nat → Int) (r : Nat → Int) : dF 4 (upR R 2 r) = sI (fun q => r q * dF 4 (upR R 2 (dlt q))) 4 := by
  simp [dF, d1, d2, d3, d4, d5, upR, dlt, sI]
  try grind
set_option maxRecDepth 1000000 in
set_option maxHeartbeats 4000000 in
theorem dF_lin43 (R : Nat → Nat → Int) (r : Nat → Int) : dF 4 (upR R 3 r) = sI (fun q => r q * dF 4 (upR R 3 (dlt q))) 4 := by
  simp [dF, d1, d2, d3, d4, d5, upR, dlt, sI]
  try grind
set_option maxRecDepth 1000000 in
set_option maxHeartbeats 4000000 in
theorem dF_lin50 (R : Nat → Nat → Int) (r : Nat → Int) : dF 5 (upR R 0 r) = sI (fun q => r q * dF 5 (upR R 0 (dlt q))) 5 := by
  simp [dF, d1, d2, d3, d4, d5, upR, dlt, sI]
  try grind
set_option maxRecDepth 1000000 in
set_option maxHeartbeats 4000000 in
theorem dF_lin51 (R : Nat → Nat → Int) (r : Nat → Int) : dF 5 (upR R 1 r) = sI (fun q => r q * dF 5 (upR R 1 (dlt q))) 5 := by
  simp [dF, d1, d2, d3, d4, d5, upR, dlt, sI]
  try grind
set_option maxRecDepth 1000000 in
set_option maxHeartbeats 4000000 in
theorem dF_lin52 (R : Nat → Nat → Int) (r : Nat → Int) : dF 5 (upR R 2 r) = sI (fun q => r q * dF 5 (upR R 2 (dlt q))) 5 := by
  simp [dF, d1, d2, d3, d4, d5, upR, dlt, sI]
  try grind
set_option maxRecDepth 1000000 in
set_option maxHeartbeats 4000000 in
theorem dF_lin53 (R : Nat → Nat → Int) (r : Nat → Int) : dF 5 (upR R 3 r) = sI (fun q => r q * dF 5 (upR R 3 (dlt q))) 5 := by
  simp [dF, d1, d2, d3, d4, d5, upR, dlt, sI]
  try grind
set_option maxRecDepth 1000000 in
set_option maxHeartbeats 4000000 in
theorem dF_lin54 (R : Nat → Nat → Int) (r : Nat → Int) : dF 5 (upR R 4 r) = sI (fun q => r q * dF 5 (upR R 4 (dlt q))) 5 := by
  simp [dF, d1, d2, d3, d4, d5, upR, dlt, sI]
  try grind
set_option maxRecDepth 1000000 in
set_option maxHeartbeats 4000000 in
theorem dF_tr2 (R : Nat → Nat → Int) : dF 2 (fun i j => R j i) = dF 2 R := by
  simp only [dF, d1, d2, d3, d4, d5]
  grind
set_option maxRecDepth 1000000 in
set_option maxHeartbeats 4000000 in
theorem dF_tr3 (R : Nat → Nat → Int) : dF 3 (fun i j => R j i) = dF 3 R := by
  simp only [dF, d1, d2, d3, d4, d5]
  grind
set_option maxRecDepth 1000000 in
set_option maxHeartbeats 4000000 in
theorem dF_tr4 (R : Nat → Nat → Int) : dF 4 (fun i j => R j i) = dF 4 R := by
  simp only [dF, d1, d2, d3, d4, d5]
  grind
set_option maxRecDepth 1000000 in
set_option maxHeartbeats 4000000 in
theorem dF_tr5 (R : Nat → Nat → Int) : dF 5 (fun i j => R j i) = dF 5 R := by
  simp only [dF, d1, d2, d3, d4, d5]
  grind
set_option maxRecDepth 1000000 in
set_option maxHeartbeats 4000000 in
theorem dF_eq201 (R : Nat → Nat → Int) : dF 2 (upR R 0 (R 1)) = 0 := by
  simp [dF, d1, d2, d3, d4, d5, upR]
  try grind
set_option maxRecDepth 1000000 in
set_option maxHeartbeats 4000000 in
theorem dF_eq210 (R : Nat → Nat → Int) : dF 2 (upR R 1 (R 0)) = 0 := by
  simp [dF, d1, d2, d3, d4, d5, upR]
  try grind
set_option maxRecDepth 1000000 in
set_option maxHeartbeats 4000000 in
theorem dF_eq301 (R : Nat → Nat → Int) : dF 3 (upR R 0 (R 1)) = 0 := by
  simp [dF, d1, d2, d3, d4, d5, upR]
  try grind
set_option maxRecDepth 1000000 in
set_option maxHeartbeats 4000000 in
theorem dF_eq302 (R : Nat → Nat → Int) : dF 3 (upR R 0 (R 2)) = 0 := by
  simp [dF, d1, d2, d3, d4, d5, upR]
  try grind
set_option maxRecDepth 1000000 in
set_option maxHeartbeats 4000000 in
theorem dF_eq310 (R : Nat → Nat → Int) : dF 3 (upR R 1 (R 0)) = 0 := by
  simp [dF, d1, d2, d3, d4, d5, upR]
  try grind
set_option maxRecDepth 1000000 in
set_option maxHeartbeats 4000000 in
theorem dF_eq312 (R : Nat → Nat → Int) : dF 3 (upR R 1 (R 2)) = 0 := by
  simp [dF, d1, d2, d3, d4, d5, upR]
  try grind
set_option maxRecDepth 1000000 in
set_option maxHeartbeats 4000000 in
theorem dF_eq320 (R : Nat → Nat → Int) : dF 3 (upR R 2 (R 0)) = 0 := by
  simp [dF, d1, d2, d3, d4, d5, upR]
  try grind
set_option maxRecDepth 1000000 in
set_option maxHeartbeats 4000000 in
theorem dF_eq321 (R : Nat → Nat → Int) : dF 3 (upR R 2 (R 1)) = 0 := by
  simp [dF, d1, d2, d3, d4, d5, upR]
  try grind
set_option maxRecDepth 1000000 in
set_option maxHeartbeats 4000000 in
theorem dF_eq401 (R : Nat → Nat → Int) : dF 4 (upR R 0 (R 1)) = 0 := by
  simp [dF, d1, d2, d3, d4, d5, upR]
  try grind
set_option maxRecDepth 1000000 in
set_option maxHeartbeats 4000000 in
theorem dF_eq402 (R : Nat → Nat → Int) : dF 4 (upR R 0 (R 2)) = 0 := by
  simp [dF, d1, d2, d3, d4, d5, upR]
  try grind
set_option maxRecDepth 1000000 in
set_option maxHeartbeats 4000000 in
theorem dF_eq403 (R : Nat → Nat → Int) : dF 4 (upR R 0 (R 3)) = 0 := by
  simp [dF, d1, d2, d3, d4, d5, upR]
  try grind
set_option maxRecDepth 1000000 in
set_option maxHeartbeats 4000000 in
theorem dF_eq410 (R : Nat → Nat → Int) : dF 4 (upR R 1 (R 0)) = 0 := by
  simp [dF, d1, d2, d3, d4, d5, upR]
  try grind
set_option maxRecDepth 1000000 in
set_option maxHeartbeats 4000000 in
theorem dF_eq412 (R : Nat → Nat → Int) : dF 4 (upR R 1 (R 2)) = 0 := by
  simp [dF, d1, d2, d3, d4, d5, upR]
  try grind
set_option maxRecDepth 1000000 in
set_option maxHeartbeats 4000000 in
theorem dF_eq413 (R : Nat → Nat → Int) : dF 4 (upR R 1 (R 3)) = 0 := by
  simp [dF, d1, d2, d3, d4, d5, upR]
  try grind
set_option maxRecDepth 1000000 in
set_option maxHeartbeats 4000000 in
theorem dF_eq420 (R : Nat → Nat → Int) : dF 4 (upR R 2 (R 0)) = 0 := by
  simp [dF, d1, d2, d3, d4, d5, upR]
  try grind
set_option maxRecDepth 1000000 in
set_option maxHeartbeats 4000000 in
theorem dF_eq421 (R : Nat → Nat → Int) : dF 4 (upR R 2 (R 1)) = 0 := by
  simp [dF, d1, d2, d3, d4, d5, upR]
  try grind
set_option maxRecDepth 1000000 in
set_option maxHeartbeats 4000000 in
theorem dF_eq423 (R : Nat → Nat → Int) : dF 4 (upR R 2 (R 3)) = 0 := by
  simp [dF, d1, d2, d3, d4, d5, upR]
  try grind
set_option maxRecDepth 1000000 in
set_option maxHeartbeats 4000000 in
theorem dF_eq430 (R : Nat → Nat → Int) : dF 4 (upR R 3 (R 0)) = 0 := by
  simp [dF, d1, d2, d3, d4, d5, upR]
  try grind
set_option maxRecDepth 1000000 in
set_option maxHeartbeats 4000000 in
theorem dF_eq431 (R : Nat → Nat → Int) : dF 4 (upR R 3 (R 1)) = 0 := by
  simp [dF, d1, d2, d3, d4, d5, upR]
  try grind
set_option maxRecDepth 1000000 in
set_option maxHeartbeats 4000000 in
theorem dF_eq432 (R : Nat → Nat → Int) : dF 4 (upR R 3 (R 2)) = 0 := by
  simp [dF, d1, d2, d3, d4, d5, upR]
  try grind
set_option maxRecDepth 1000000 in
set_option maxHeartbeats 4000000 in
theorem dF_eq501 (R : Nat → Nat → Int) : dF 5 (upR R 0 (R 1)) = 0 := by
  simp [dF, d1, d2, d3, d4, d5, upR]
  try grind
set_option maxRecDepth 1000000 in
set_option maxHeartbeats 4000000 in
theorem dF_eq502 (R : Nat → Nat → Int) : dF 5 (upR R 0 (R 2)) = 0 := by
  simp [dF, d1, d2, d3, d4, d5, upR]
  try grind
set_option maxRecDepth 1000000 in
set_option maxHeartbeats 4000000 in
theorem dF_eq503 (R : Nat → Nat → Int) : dF 5 (upR R 0 (R 3)) = 0 := by
  simp [dF, d1, d2, d3, d4, d5, upR]
  try grind
set_option maxRecDepth 1000000 in
set_option maxHeartbeats 4000000 in
theorem dF_eq504 (R : Nat → Nat → Int) : dF 5 (upR R 0 (R 4)) = 0 := by
  simp [dF, d1, d2, d3, d4, d5, upR]
  try grind
set_option maxRecDepth 1000000 in
set_option maxHeartbeats 4000000 in
theorem dF_eq510 (R : Nat → Nat → Int) : dF 5 (upR R 1 (R 0)) = 0 := by
  simp [dF, d1, d2, d3, d4, d5, upR]
  try grind
set_option maxRecDepth 1000000 in
set_option maxHeartbeats 4000000 in
theorem dF_eq512 (R : Nat → Nat → Int) : dF 5 (upR R 1 (R 2)) = 0 := by
  simp [dF, d1, d2, d3, d4, d5, upR]
  try grind
set_option maxRecDepth 1000000 in
set_option maxHeartbeats 4000000 in
theorem dF_eq513 (R : Nat → Nat → Int) : dF 5 (upR R 1 (R 3)) = 0 := by
  simp [dF, d1, d2, d3, d4, d5, upR]
  try grind
set_option maxRecDepth 1000000 in
set_option maxHeartbeats 4000000 in
theorem dF_eq514 (R : Nat → Nat → Int) : dF 5 (upR R 1 (R 4)) = 0 := by
  simp [dF, d1, d2, d3, d4, d5, upR]
  try grind
set_option maxRecDepth 1000000 in
set_option maxHeartbeats 4000000 in
theorem dF_eq520 (R : Nat → Nat → Int) : dF 5 (upR R 2 (R 0)) = 0 := by
  simp [dF, d1, d2, d3, d4, d5, upR]
  try grind
set_option maxRecDepth 1000000 in
set_option maxHeartbeats 4000000 in
theorem dF_eq521 (R : Nat → Nat → Int) : dF 5 (upR R 2 (R 1)) = 0 := by
  simp [dF, d1, d2, d3, d4, d5, upR]
  try grind
set_option maxRecDepth 1000000 in
set_option maxHeartbeats 4000000 in
theorem dF_eq523 (R : Nat → Nat → Int) : dF 5 (upR R 2 (R 3)) = 0 := by
  simp [dF, d1, d2, d3, d4, d5, upR]
  try grind
set_option maxRecDepth 1000000 in
set_option maxHeartbeats 4000000 in
theorem dF_eq524 (R : Nat → Nat → Int) : dF 5 (upR R 2 (R 4)) = 0 := by
  simp [dF, d1, d2, d3, d4, d5, upR]
  try grind
set_option maxRecDepth 1000000 in
set_option maxHeartbeats 4000000 in
theorem dF_eq530 (R : Nat → Nat → Int) : dF 5 (upR R 3 (R 0)) = 0 := by
  simp [dF, d1, d2, d3, d4, d5, upR]
  try grind
set_option maxRecDepth 1000000 in
set_option maxHeartbeats 4000000 in
theorem dF_eq531 (R : Nat → Nat → Int) : dF 5 (upR R 3 (R 1)) = 0 := by
  simp [dF, d1, d2, d3, d4, d5, upR]
  try grind
set_option maxRecDepth 1000000 in
set_option maxHeartbeats 4000000 in
theorem dF_eq532 (R : Nat → Nat → Int) : dF 5 (upR R 3 (R 2)) = 0 := by
  simp [dF, d1, d2, d3, d4, d5, upR]
  try grind
set_option maxRecDepth 1000000 in
set_option maxHeartbeats 4000000 in
theorem dF_eq534 (R : Nat → Nat → Int) : dF 5 (upR R 3 (R 4)) = 0 := by
  simp [dF, d1, d2, d3, d4, d5, upR]
  try grind
set_option maxRecDepth 1000000 in
set_option maxHeartbeats 4000000 in
theorem dF_eq540 (R : Nat → Nat → Int) : dF 5 (upR R 4 (R 0)) = 0 := by
  simp [dF, d1, d2, d3, d4, d5, upR]
  try grind
set_option maxRecDepth 1000000 in
set_option maxHeartbeats 4000000 in
theorem dF_eq541 (R : Nat → Nat → Int) : dF 5 (upR R 4 (R 1)) = 0 := by
  simp [dF, d1, d2, d3, d4, d5, upR]
  try grind
set_option maxRecDepth 1000000 in
set_option maxHeartbeats 4000000 in
theorem dF_eq542 (R : Nat → Nat → Int) : dF 5 (upR R 4 (R 2)) = 0 := by
  simp [dF, d1, d2, d3, d4, d5, upR]
  try grind
set_option maxRecDepth 1000000 in
set_option maxHeartbeats 4000000 in
theorem dF_eq543 (R : Nat → Nat → Int) : dF 5 (upR R 4 (R 3)) = 0 := by
  simp [dF, d1, d2, d3, d4, d5, upR]
  try grind
