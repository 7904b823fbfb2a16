/-! ===== longs ===== -/
def lI (x : Int) : Int64 := Int64.ofInt x
theorem lI_mul (a b : Int) : lI a * lI b = lI (a * b) := (Int64.ofInt_mul a b).symm
theorem lI_sub (a b : Int) : lI a - lI b = lI (a - b) := (Int64.ofInt_sub a b).symm
theorem lI_add (a b : Int) : lI a + lI b = lI (a + b) := (Int64.ofInt_add a b).symm
theorem lI_toInt {x : Int} (h : x.natAbs < 2 ^ 63) : (lI x).toInt = x := Int64.toInt_ofInt_of_le (by omega) (by omega)
theorem lI_eq {x y : Int} (hx : x.natAbs < 2 ^ 63) (hy : y.natAbs < 2 ^ 63) : lI x = lI y ↔ x = y := by
  constructor
  · intro h
    have := congrArg Int64.toInt h
    rw [lI_toInt hx, lI_toInt hy] at this
    exact this
  · intro h; rw [h]
theorem lI_div {a b : Int} (ha : a.natAbs < 2 ^ 63) (hb : b.natAbs < 2 ^ 63) : lI a / lI b = lI (a.tdiv b) := by
  refine (Int64.ofInt_tdiv ?_ ?_ ?_ ?_).symm
  · rw [show Int64.minValue.toInt = -9223372036854775808 by decide]; omega
  · rw [show Int64.maxValue.toInt = 9223372036854775807 by decide]; omega
  · rw [show Int64.minValue.toInt = -9223372036854775808 by decide]; omega
  · rw [show Int64.maxValue.toInt = 9223372036854775807 by decide]; omega
theorem lI_exact {x b : Int} (hx : (x * b).natAbs < 2 ^ 63) (hb : b.natAbs < 2 ^ 63) (h0 : b ≠ 0) : lI (x * b) / lI b = lI x := by
  rw [lI_div hx hb, Int.mul_tdiv_cancel _ h0]
theorem i2l_n (x : Nat) (h : x < 2 ^ 31) : (nI x).toInt64 = lI (x : Int) := by
  apply Int64.toInt_inj.mp
  rw [Int32.toInt_toInt64, nI_toInt h, lI_toInt (by omega)]
theorem i2l_neg (x : Nat) (h : x < 2 ^ 31) : (- nI x).toInt64 = lI (- (x : Int)) := by
  apply Int64.toInt_inj.mp
  rw [Int32.toInt_toInt64, sb_negT h, lI_toInt (by omega)]
theorem i2l_lI (x : Int32) : x.toInt64 = lI x.toInt := by
  apply Int64.toInt_inj.mp
  rw [Int32.toInt_toInt64]
  have h1 := Int32.le_toInt x
  have h2 := Int32.toInt_lt x
  rw [lI_toInt (by omega)]
theorem lI_0 : Int64.ofNat ((0 : Fin 2) : Nat) = lI 0 := by decide
theorem lI_1 : Int64.ofNat ((1 : Fin 2) : Nat) = lI 1 := by decide
theorem lcmp_ne {x : Int} (hx : x.natAbs < 2 ^ 63) (h0 : x ≠ 0) : ¬ lg_cmp (lI x) (lI 0) = 0 := by
  unfold lg_cmp
  split
  · decide
  · split
    · next e => exact absurd ((lI_eq hx (by decide)).mp e) h0
    · decide
theorem lcmp_eq : lg_cmp (lI 0) (lI 0) = 0 := by decide
/-! ===== how large minors are ===== -/
theorem ab_mul {x y : Int} {X Y : Nat} (hx : x.natAbs ≤ X) (hy : y.natAbs ≤ Y) : (x * y).natAbs ≤ X * Y := by
  rw [Int.natAbs_mul]; exact Nat.mul_le_mul hx hy
theorem ab_add {x y : Int} {X Y : Nat} (hx : x.natAbs ≤ X) (hy : y.natAbs ≤ Y) : (x + y).natAbs ≤ X + Y := by omega
theorem ab_sub {x y : Int} {X Y : Nat} (hx : x.natAbs ≤ X) (hy : y.natAbs ≤ Y) : (x - y).natAbs ≤ X + Y := by omega
theorem db2 {a b c d : Int} {C : Nat} (ha : a.natAbs ≤ 18) (hb : b.natAbs ≤ C) (hc : c.natAbs ≤ 18) (hd : d.natAbs ≤ C) : (d2 a b c d).natAbs ≤ 36 * C := by
  have := ab_sub (ab_mul ha hd) (ab_mul hb hc)
  unfold d2; omega
theorem db3 {m00 m01 m02 m10 m11 m12 m20 m21 m22 : Int} {C : Nat} (h00 : m00.natAbs ≤ 18) (h01 : m01.natAbs ≤ 18) (h02 : m02.natAbs ≤ C) (h10 : m10.natAbs ≤ 18) (h11 : m11.natAbs ≤ 18) (h12 : m12.natAbs ≤ C) (h20 : m20.natAbs ≤ 18) (h21 : m21.natAbs ≤ 18) (h22 : m22.natAbs ≤ C) : (d3 m00 m01 m02 m10 m11 m12 m20 m21 m22).natAbs ≤ 1944 * C := by
  have := ab_add (ab_sub (ab_mul h00 (db2 h11 h12 h21 h22)) (ab_mul h01 (db2 h10 h12 h20 h22))) (ab_mul h02 (db2 h10 h11 h20 h21))
  unfold d3; omega
theorem db4 {m00 m01 m02 m03 m10 m11 m12 m13 m20 m21 m22 m23 m30 m31 m32 m33 : Int} {C : Nat} (h00 : m00.natAbs ≤ 18) (h01 : m01.natAbs ≤ 18) (h02 : m02.natAbs ≤ 18) (h03 : m03.natAbs ≤ C) (h10 : m10.natAbs ≤ 18) (h11 : m11.natAbs ≤ 18) (h12 : m12.natAbs ≤ 18) (h13 : m13.natAbs ≤ C) (h20 : m20.natAbs ≤ 18) (h21 : m21.natAbs ≤ 18) (h22 : m22.natAbs ≤ 18) (h23 : m23.natAbs ≤ C) (h30 : m30.natAbs ≤ 18) (h31 : m31.natAbs ≤ 18) (h32 : m32.natAbs ≤ 18) (h33 : m33.natAbs ≤ C) : (d4 m00 m01 m02 m03 m10 m11 m12 m13 m20 m21 m22 m23 m30 m31 m32 m33).natAbs ≤ 139968 * C := by
  have := ab_sub (ab_add (ab_sub (ab_mul h00 (db3 h11 h12 h13 h21 h22 h23 h31 h32 h33)) (ab_mul h01 (db3 h10 h12 h13 h20 h22 h23 h30 h32 h33))) (ab_mul h02 (db3 h10 h11 h13 h20 h21 h23 h30 h31 h33))) (ab_mul h03 (db3 h10 h11 h12 h20 h21 h22 h30 h31 h32))
  unfold d4; omega
theorem db5 {R : Nat → Nat → Int} {C : Nat} (h : ∀ i j, i < 5 → j < 4 → (R i j).natAbs ≤ 18) (hc : ∀ i, i < 5 → (R i 4).natAbs ≤ C) : (dF 5 R).natAbs ≤ 12597120 * C := by
  have h0 := fun j (hj : j < 4) => h 0 j (by decide) hj
  have h1 := fun j (hj : j < 4) => h 1 j (by decide) hj
  have h2 := fun j (hj : j < 4) => h 2 j (by decide) hj
  have h3 := fun j (hj : j < 4) => h 3 j (by decide) hj
  have h4 := fun j (hj : j < 4) => h 4 j (by decide) hj
  have l0 : 0 < 4 := by decide
  have l1 : 1 < 4 := by decide
  have l2 : 2 < 4 := by decide
  have l3 : 3 < 4 := by decide
  have c1 := hc 1 (by decide)
  have c2 := hc 2 (by decide)
  have c3 := hc 3 (by decide)
  have c4 := hc 4 (by decide)
  have := ab_add (ab_sub (ab_add (ab_sub (ab_mul (h0 0 l0) (db4 (h1 1 l1) (h1 2 l2) (h1 3 l3) c1 (h2 1 l1) (h2 2 l2) (h2 3 l3) c2 (h3 1 l1) (h3 2 l2) (h3 3 l3) c3 (h4 1 l1) (h4 2 l2) (h4 3 l3) c4)) (ab_mul (h0 1 l1) (db4 (h1 0 l0) (h1 2 l2) (h1 3 l3) c1 (h2 0 l0) (h2 2 l2) (h2 3 l3) c2 (h3 0 l0) (h3 2 l2) (h3 3 l3) c3 (h4 0 l0) (h4 2 l2) (h4 3 l3) c4))) (ab_mul (h0 2 l2) (db4 (h1 0 l0) (h1 1 l1) (h1 3 l3) c1 (h2 0 l0) (h2 1 l1) (h2 3 l3) c2 (h3 0 l0) (h3 1 l1) (h3 3 l3) c3 (h4 0 l0) (h4 1 l1) (h4 3 l3) c4))) (ab_mul (h0 3 l3) (db4 (h1 0 l0) (h1 1 l1) (h1 2 l2) c1 (h2 0 l0) (h2 1 l1) (h2 2 l2) c2 (h3 0 l0) (h3 1 l1) (h3 2 l2) c3 (h4 0 l0) (h4 1 l1) (h4 2 l2) c4))) (ab_mul (hc 0 (by decide)) (db4 (h1 0 l0) (h1 1 l1) (h1 2 l2) (h1 3 l3) (h2 0 l0) (h2 1 l1) (h2 2 l2) (h2 3 l3) (h3 0 l0) (h3 1 l1) (h3 2 l2) (h3 3 l3) (h4 0 l0) (h4 1 l1) (h4 2 l2) (h4 3 l3)))
  show (d5 _ _ _ _ _ _ _ _ _ _ _ _ _ _ _ _ _ _ _ _ _ _ _ _ _).natAbs ≤ _
  unfold d5
  omega
def cB (k : Nat) : Nat := match k with
  | 0 => 1
  | 1 => 36
  | 2 => 1944
  | 3 => 139968
  | _ => 12597120
theorem cB_le {k : Nat} (h : k ≤ 3) : cB k ≤ 139968 := by
  have : k = 0 ∨ k = 1 ∨ k = 2 ∨ k = 3 := by omega
  rcases this with e | e | e | e <;> subst e <;> decide
/-- a square whose entries are at most 18, beside it a column of at most 60000 -/
def Bdd (n : Nat) (R : Nat → Nat → Int) : Prop := (∀ p q, p < n → q < n → (R p q).natAbs ≤ 18) ∧ ∀ p, p < n → (R p n).natAbs ≤ 60000
theorem mn_bd {n k : Nat} {R : Nat → Nat → Int} {p q C : Nat} (hn : n ≤ 5) (hB : ∀ p q, p < n → q < n → (R p q).natAbs ≤ 18) (hk : k < n) (hp : p < n) (hC : ∀ i, i < n → (R i q).natAbs ≤ C) : (mn k R p q).natAbs ≤ cB k * C := by
  have : k = 0 ∨ k = 1 ∨ k = 2 ∨ k = 3 ∨ k = 4 := by omega
  rcases this with e | e | e | e | e <;> subst e
  · have := hC p hp
    show (R p q).natAbs ≤ 1 * C
    omega
  · exact db2 (hB 0 0 (by omega) (by omega)) (hC 0 (by omega)) (hB p 0 hp (by omega)) (hC p hp)
  · exact db3 (hB 0 0 (by omega) (by omega)) (hB 0 1 (by omega) (by omega)) (hC 0 (by omega)) (hB 1 0 (by omega) (by omega)) (hB 1 1 (by omega) (by omega)) (hC 1 (by omega)) (hB p 0 hp (by omega)) (hB p 1 hp (by omega)) (hC p hp)
  · exact db4 (hB 0 0 (by omega) (by omega)) (hB 0 1 (by omega) (by omega)) (hB 0 2 (by omega) (by omega)) (hC 0 (by omega)) (hB 1 0 (by omega) (by omega)) (hB 1 1 (by omega) (by omega)) (hB 1 2 (by omega) (by omega)) (hC 1 (by omega)) (hB 2 0 (by omega) (by omega)) (hB 2 1 (by omega) (by omega)) (hB 2 2 (by omega) (by omega)) (hC 2 (by omega)) (hB p 0 hp (by omega)) (hB p 1 hp (by omega)) (hB p 2 hp (by omega)) (hC p hp)
  · refine db5 (fun i j hi hj => ?_) (fun i hi => ?_)
    · refine hB _ _ ?_ ?_
      · split <;> omega
      · rw [if_pos hj]; omega
    · rw [if_neg (Nat.lt_irrefl 4)]
      refine hC _ ?_
      split <;> omega
theorem mn_b1 {n k : Nat} {R : Nat → Nat → Int} {p q : Nat} (hn : n ≤ 5) (hB : Bdd n R) (hk : k < n) (hp : p < n) (hq : q ≤ n) : (mn k R p q).natAbs ≤ cB k * 60000 := by
  refine mn_bd hn hB.1 hk hp (fun i hi => ?_)
  rcases Nat.lt_or_ge q n with g | g
  · have := hB.1 i q hi g; omega
  · rw [show q = n by omega]; exact hB.2 i hi
theorem mn_b2 {n k : Nat} {R : Nat → Nat → Int} {p q : Nat} (hn : n ≤ 5) (hB : Bdd n R) (hk : k < n) (hp : p < n) (hq : q < n) : (mn k R p q).natAbs ≤ cB k * 18 := mn_bd hn hB.1 hk hp (fun i hi => hB.1 i q hi hq)
