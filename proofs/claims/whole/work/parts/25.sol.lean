/-! ===== solutions: of the square, of the rows in steps; Cramer's way ===== -/
/-- row p after k turns, at X (columns k .. n; the last one is the told side) -/
def Lk (n k : Nat) (R : Nat → Nat → Int) (p : Nat) (X : Nat → Int) : Int := sI (fun j => mn k R p (k + j) * X (k + j)) (n + 1 - k)
theorem Lk_first {n k : Nat} {R : Nat → Nat → Int} {p : Nat} {X : Nat → Int} (h : k ≤ n) : Lk n k R p X = mn k R p k * X k + sI (fun j => mn k R p (k + 1 + j) * X (k + 1 + j)) (n + 1 - (k + 1)) := by
  unfold Lk
  rw [show n + 1 - k = (n + 1 - (k + 1)) + 1 by omega, sI_first]
  have : (fun j => mn k R p (k + (j + 1)) * X (k + (j + 1))) = fun j => mn k R p (k + 1 + j) * X (k + 1 + j) := funext (fun j => by rw [show k + (j + 1) = k + 1 + j by omega])
  rw [this]
  rfl
theorem Lk_next {n k : Nat} {R : Nat → Nat → Int} (hk : k ≤ 3) (hkn : k < n) (p : Nat) (X : Nat → Int) : Dv k R * Lk n (k + 1) R p X = mn k R k k * Lk n k R p X - mn k R p k * Lk n k R k X := by
  rw [Lk_first (n := n) (k := k) (R := R) (p := p) (X := X) (by omega), Lk_first (n := n) (k := k) (R := R) (p := k) (X := X) (by omega)]
  unfold Lk
  rw [← sI_mul]
  have e2 : (fun i => Dv k R * (mn (k + 1) R p (k + 1 + i) * X (k + 1 + i))) = fun i => mn k R k k * (mn k R p (k + 1 + i) * X (k + 1 + i)) - mn k R p k * (mn k R k (k + 1 + i) * X (k + 1 + i)) := funext (fun i => by
    have := mn_syl hk R p (k + 1 + i)
    rw [← Int.mul_assoc, Int.mul_comm (Dv k R), this, Int.sub_mul, Int.mul_comm (mn k R p (k + 1 + i)), Int.mul_assoc, Int.mul_assoc])
  rw [e2, sI_sub, sI_mul, sI_mul, Int.mul_add, Int.mul_add]
  have : mn k R k k * (mn k R p k * X k) = mn k R p k * (mn k R k k * X k) := by rw [← Int.mul_assoc, Int.mul_comm (mn k R k k), Int.mul_assoc]
  omega
theorem sol_iff {n : Nat} {R : Nat → Nat → Int} (hn : n ≤ 5) (hp : ∀ k, k < n → 0 < mn k R k k) (X : Nat → Int) : (∀ p, p < n → Lk n 0 R p X = 0) ↔ ∀ p, p < n → Lk n p R p X = 0 := by
  have hD : ∀ k, k ≤ n → Dv k R ≠ 0 := by
    intro k hk
    cases k with
    | zero => exact Int.one_ne_zero
    | succ k => have := hp k (by omega); show mn k R k k ≠ 0; omega
  have key : ∀ k, k < n → ((∀ p, p < n → Lk n 0 R p X = 0) ↔ (∀ p, p < k → Lk n p R p X = 0) ∧ ∀ p, k ≤ p → p < n → Lk n k R p X = 0) := by
    intro k
    induction k with
    | zero => exact fun _ => ⟨fun h => ⟨fun p hp => absurd hp (Nat.not_lt_zero p), fun p _ hp => h p hp⟩, fun h p hp => h.2 p (Nat.zero_le _) hp⟩
    | succ k ih =>
      intro hk
      have pv := hp k (by omega)
      rw [ih (by omega)]
      constructor
      · rintro ⟨h1, h2⟩
        refine ⟨fun p hp => ?_, fun p hp1 hp2 => ?_⟩
        · rcases Nat.lt_or_ge p k with g | g
          · exact h1 p g
          · rw [show p = k by omega]; exact h2 k (Nat.le_refl k) (by omega)
        · have := Lk_next (R := R) (show k ≤ 3 by omega) (show k < n by omega) p X
          rw [h2 p (by omega) hp2, h2 k (Nat.le_refl k) (by omega), Int.mul_zero, Int.mul_zero, Int.sub_zero] at this
          rcases Int.mul_eq_zero.mp this with g | g
          · exact absurd g (hD k (by omega))
          · exact g
      · rintro ⟨h1, h2⟩
        refine ⟨fun p hp => h1 p (by omega), fun p hp1 hp2 => ?_⟩
        have hk0 := h1 k (by omega)
        rcases Nat.lt_or_ge k p with g | g
        · have := Lk_next (R := R) (show k ≤ 3 by omega) (show k < n by omega) p X
          rw [h2 p (by omega) hp2, hk0, Int.mul_zero, Int.mul_zero, Int.sub_zero] at this
          rcases Int.mul_eq_zero.mp this.symm with g | g
          · omega
          · exact g
        · rw [show p = k by omega]; exact hk0
  rcases Nat.eq_zero_or_pos n with e | e
  · subst e
    exact ⟨fun _ p hp => absurd hp (Nat.not_lt_zero p), fun _ p hp => absurd hp (Nat.not_lt_zero p)⟩
  · rw [key (n - 1) (by omega)]
    constructor
    · rintro ⟨h1, h2⟩ p hp
      rcases Nat.lt_or_ge p (n - 1) with g | g
      · exact h1 p g
      · rw [show p = n - 1 by omega]; exact h2 (n - 1) (Nat.le_refl _) (by omega)
    · intro h
      exact ⟨fun p hp => h p (by omega), fun p h1 h2 => by rw [show p = n - 1 by omega]; exact h (n - 1) (by omega)⟩
/-- there is always a solution in fractions -/
theorem sol_frac {n : Nat} {R : Nat → Nat → Int} (hp : ∀ k, k < n → 0 < mn k R k k) : ∃ X : Nat → Int, X n ≠ 0 ∧ ∀ p, p < n → Lk n p R p X = 0 := by
  have key : ∀ e p, p + e = n → ∃ X : Nat → Int, X n ≠ 0 ∧ ∀ i, p ≤ i → i < n → Lk n i R i X = 0 := by
    intro e
    induction e with
    | zero => intro p he; exact ⟨fun _ => 1, Int.one_ne_zero, fun i h1 h2 => by omega⟩
    | succ e ih =>
      intro p he
      obtain ⟨X, hX, h⟩ := ih (p + 1) (by omega)
      have pv := hp p (by omega)
      let S : Int := sI (fun j => mn p R p (p + 1 + j) * X (p + 1 + j)) (n + 1 - (p + 1))
      let X' : Nat → Int := fun q => if q = p then - S else mn p R p p * X q
      have hX' : ∀ q, q ≠ p → X' q = mn p R p p * X q := fun q hq => if_neg hq
      have sc : ∀ k r, p < k → Lk n k R r X' = mn p R p p * Lk n k R r X := by
        intro k r hk
        unfold Lk
        rw [← sI_mul]
        refine sI_congr (fun j _ => ?_)
        rw [hX' (k + j) (by omega), ← Int.mul_assoc, ← Int.mul_assoc, Int.mul_comm (mn k R r (k + j))]
      refine ⟨X', ?_, fun i h1 h2 => ?_⟩
      · rw [hX' n (by omega)]
        exact Int.mul_ne_zero (by omega) hX
      · rcases Nat.lt_or_ge p i with g | g
        · rw [sc i i g, h i (by omega) h2, Int.mul_zero]
        · have : i = p := by omega
          subst this
          rw [Lk_first (by omega)]
          have e1 : sI (fun j => mn i R i (i + 1 + j) * X' (i + 1 + j)) (n + 1 - (i + 1)) = mn i R i i * S := by
            show _ = mn i R i i * sI _ _
            rw [← sI_mul]
            refine sI_congr (fun j _ => ?_)
            rw [hX' (i + 1 + j) (by omega), ← Int.mul_assoc, ← Int.mul_assoc, Int.mul_comm (mn i R i (i + 1 + j))]
          rw [e1, show X' i = - S from if_pos rfl, Int.mul_neg]
          omega
  obtain ⟨X, h1, h2⟩ := key n 0 (by omega)
  exact ⟨X, h1, fun p hp => h2 p (Nat.zero_le _) hp⟩
theorem dF_lin {n p : Nat} (h1 : 2 ≤ n) (h2 : n ≤ 5) (hp : p < n) (R : Nat → Nat → Int) (r : Nat → Int) : dF n (upR R p r) = sI (fun q => r q * dF n (upR R p (dlt q))) n := by
  have hn : n = 2 ∨ n = 3 ∨ n = 4 ∨ n = 5 := by omega
  have hq : p = 0 ∨ p = 1 ∨ p = 2 ∨ p = 3 ∨ p = 4 := by omega
  rcases hn with e | e | e | e <;> subst e <;> rcases hq with e | e | e | e | e <;> subst e <;> first | (exfalso; omega) | exact dF_lin20 R r | exact dF_lin21 R r | exact dF_lin30 R r | exact dF_lin31 R r | exact dF_lin32 R r | exact dF_lin40 R r | exact dF_lin41 R r | exact dF_lin42 R r | exact dF_lin43 R r | exact dF_lin50 R r | exact dF_lin51 R r | exact dF_lin52 R r | exact dF_lin53 R r | exact dF_lin54 R r
theorem dF_tr {n : Nat} (h1 : 2 ≤ n) (h2 : n ≤ 5) (R : Nat → Nat → Int) : dF n (fun i j => R j i) = dF n R := by
  have hn : n = 2 ∨ n = 3 ∨ n = 4 ∨ n = 5 := by omega
  rcases hn with e | e | e | e <;> subst e
  · exact dF_tr2 R
  · exact dF_tr3 R
  · exact dF_tr4 R
  · exact dF_tr5 R
theorem dF_eq {n p q : Nat} (h1 : 2 ≤ n) (h2 : n ≤ 5) (hp : p < n) (hq : q < n) (hne : p ≠ q) (R : Nat → Nat → Int) : dF n (upR R p (R q)) = 0 := by
  have hn : n = 2 ∨ n = 3 ∨ n = 4 ∨ n = 5 := by omega
  have hp' : p = 0 ∨ p = 1 ∨ p = 2 ∨ p = 3 ∨ p = 4 := by omega
  have hq' : q = 0 ∨ q = 1 ∨ q = 2 ∨ q = 3 ∨ q = 4 := by omega
  rcases hn with e | e | e | e
  · subst e
    rcases hp' with e | e | e | e | e <;> subst e <;> rcases hq' with e | e | e | e | e <;> subst e <;> first | (exfalso; omega) | exact dF_eq201 R | exact dF_eq210 R
  · subst e
    rcases hp' with e | e | e | e | e <;> subst e <;> rcases hq' with e | e | e | e | e <;> subst e <;> first | (exfalso; omega) | exact dF_eq301 R | exact dF_eq302 R | exact dF_eq310 R | exact dF_eq312 R | exact dF_eq320 R | exact dF_eq321 R
  · subst e
    rcases hp' with e | e | e | e | e <;> subst e <;> rcases hq' with e | e | e | e | e <;> subst e <;> first | (exfalso; omega) | exact dF_eq401 R | exact dF_eq402 R | exact dF_eq403 R | exact dF_eq410 R | exact dF_eq412 R | exact dF_eq413 R | exact dF_eq420 R | exact dF_eq421 R | exact dF_eq423 R | exact dF_eq430 R | exact dF_eq431 R | exact dF_eq432 R
  · subst e
    rcases hp' with e | e | e | e | e <;> subst e <;> rcases hq' with e | e | e | e | e <;> subst e <;> first | (exfalso; omega) | exact dF_eq501 R | exact dF_eq502 R | exact dF_eq503 R | exact dF_eq504 R | exact dF_eq510 R | exact dF_eq512 R | exact dF_eq513 R | exact dF_eq514 R | exact dF_eq520 R | exact dF_eq521 R | exact dF_eq523 R | exact dF_eq524 R | exact dF_eq530 R | exact dF_eq531 R | exact dF_eq532 R | exact dF_eq534 R | exact dF_eq540 R | exact dF_eq541 R | exact dF_eq542 R | exact dF_eq543 R
theorem dF_sum {n p m : Nat} (h1 : 2 ≤ n) (h2 : n ≤ 5) (hp : p < n) (R : Nat → Nat → Int) (z : Nat → Int) (v : Nat → Nat → Int) : dF n (upR R p (fun j => sI (fun t => z t * v t j) m)) = sI (fun t => z t * dF n (upR R p (v t))) m := by
  rw [dF_lin h1 h2 hp]
  have e : (fun q => sI (fun t => z t * v t q) m * dF n (upR R p (dlt q))) = fun q => sI (fun t => z t * (v t q * dF n (upR R p (dlt q)))) m := funext (fun q => by
    rw [Int.mul_comm, ← sI_mul]
    refine sI_congr (fun t _ => ?_)
    rw [Int.mul_comm, Int.mul_assoc])
  rw [e, sI_swap]
  refine sI_congr (fun t _ => ?_)
  rw [sI_mul, dF_lin h1 h2 hp]
theorem dF_congr {n : Nat} {R S : Nat → Nat → Int} (h2 : n ≤ 5) (h : ∀ i j, i < n → j < n → R i j = S i j) : dF n R = dF n S := by
  have hn : n = 0 ∨ n = 1 ∨ n = 2 ∨ n = 3 ∨ n = 4 ∨ n = 5 := by omega
  rcases hn with e | e | e | e | e | e <;> subst e <;> simp only [dF] <;> first | rfl | simp only [h _ _ (show 0 < 1 by decide) (show 0 < 1 by decide)] | skip
  · rw [h 0 0 (by decide) (by decide), h 0 1 (by decide) (by decide), h 1 0 (by decide) (by decide), h 1 1 (by decide) (by decide)]
  · rw [h 0 0 (by decide) (by decide), h 0 1 (by decide) (by decide), h 0 2 (by decide) (by decide), h 1 0 (by decide) (by decide), h 1 1 (by decide) (by decide), h 1 2 (by decide) (by decide), h 2 0 (by decide) (by decide), h 2 1 (by decide) (by decide), h 2 2 (by decide) (by decide)]
  · rw [h 0 0 (by decide) (by decide), h 0 1 (by decide) (by decide), h 0 2 (by decide) (by decide), h 0 3 (by decide) (by decide), h 1 0 (by decide) (by decide), h 1 1 (by decide) (by decide), h 1 2 (by decide) (by decide), h 1 3 (by decide) (by decide), h 2 0 (by decide) (by decide), h 2 1 (by decide) (by decide), h 2 2 (by decide) (by decide), h 2 3 (by decide) (by decide), h 3 0 (by decide) (by decide), h 3 1 (by decide) (by decide), h 3 2 (by decide) (by decide), h 3 3 (by decide) (by decide)]
  · rw [h 0 0 (by decide) (by decide), h 0 1 (by decide) (by decide), h 0 2 (by decide) (by decide), h 0 3 (by decide) (by decide), h 0 4 (by decide) (by decide), h 1 0 (by decide) (by decide), h 1 1 (by decide) (by decide), h 1 2 (by decide) (by decide), h 1 3 (by decide) (by decide), h 1 4 (by decide) (by decide), h 2 0 (by decide) (by decide), h 2 1 (by decide) (by decide), h 2 2 (by decide) (by decide), h 2 3 (by decide) (by decide), h 2 4 (by decide) (by decide), h 3 0 (by decide) (by decide), h 3 1 (by decide) (by decide), h 3 2 (by decide) (by decide), h 3 3 (by decide) (by decide), h 3 4 (by decide) (by decide), h 4 0 (by decide) (by decide), h 4 1 (by decide) (by decide), h 4 2 (by decide) (by decide), h 4 3 (by decide) (by decide), h 4 4 (by decide) (by decide)]
/-- the square with one column told -/
def upC (R : Nat → Nat → Int) (p : Nat) (b : Nat → Int) : Nat → Nat → Int := fun i j => if j = p then b i else R i j
theorem cramer {n p : Nat} (h1 : 2 ≤ n) (h2 : n ≤ 5) (hp : p < n) (R : Nat → Nat → Int) (b z : Nat → Int) (D : Int) (h : ∀ i, i < n → sI (fun q => R i q * z q) n = D * b i) : D * dF n (upC R p b) = z p * dF n R := by
  let C : Nat → Nat → Int := fun i j => R j i
  have e1 : dF n (upC R p b) = dF n (upR C p b) := (dF_tr h1 h2 (upC R p b)).symm
  have e2 : dF n R = dF n C := (dF_tr h1 h2 R).symm
  have e3 : dF n (upR C p (fun i => D * b i)) = D * dF n (upR C p b) := by
    rw [dF_lin h1 h2 hp, dF_lin h1 h2 hp (r := b), ← sI_mul]
    refine sI_congr (fun q _ => Int.mul_assoc ..)
  have e4 : dF n (upR C p (fun i => D * b i)) = dF n (upR C p (fun j => sI (fun q => z q * C q j) n)) := by
    refine dF_congr h2 (fun i j hi hj => ?_)
    unfold upR
    by_cases e : i = p
    · rw [if_pos e, if_pos e]
      show D * b j = sI (fun q => z q * C q j) n
      rw [← h j hj]
      refine sI_congr (fun q _ => Int.mul_comm ..)
    · rw [if_neg e, if_neg e]
  rw [e1, ← e3, e4, dF_sum h1 h2 hp, e2]
  have key : ∀ m, m ≤ n → sI (fun t => z t * dF n (upR C p (C t))) m = if p < m then z p * dF n C else 0 := by
    intro m
    induction m with
    | zero => intro _; rfl
    | succ m ih =>
      intro hm
      show sI _ m + z m * dF n (upR C p (C m)) = _
      rw [ih (by omega)]
      by_cases e : p = m
      · subst e
        rw [if_neg (Nat.lt_irrefl p), if_pos (by omega), show dF n (upR C p (C p)) = dF n C from dF_congr h2 (fun i j _ _ => by
          unfold upR
          by_cases e : i = p
          · rw [if_pos e, e]
          · rw [if_neg e])]
        omega
      · rw [dF_eq h1 h2 hp (by omega) e, Int.mul_zero, Int.add_zero]
        by_cases e2 : p < m
        · rw [if_pos e2, if_pos (by omega)]
        · rw [if_neg e2, if_neg (by omega)]
  rw [key n (Nat.le_refl n), if_pos hp]
/-- a whole solution is there, if and only if the determinant divides each of Cramer's -/
theorem whole_iff {n : Nat} {R : Nat → Nat → Int} (h1 : 2 ≤ n) (h2 : n ≤ 5) (hp : ∀ k, k < n → 0 < mn k R k k) : (∃ x : Nat → Int, ∀ i, i < n → sI (fun q => R i q * x q) n = R i n) ↔ ∀ p, p < n → ∃ c, dF n (upC R p (fun i => R i n)) = c * dF n R := by
  have hdet : dF n R ≠ 0 := by
    have := hp (n - 1) (by omega)
    rw [mn_det (by omega) h2] at this
    omega
  constructor
  · rintro ⟨x, hx⟩ p hpn
    have := cramer h1 h2 hpn R (fun i => R i n) x 1 (fun i hi => by rw [hx i hi, Int.one_mul])
    rw [Int.one_mul] at this
    exact ⟨x p, this⟩
  · intro h
    obtain ⟨X, hX, hs⟩ := sol_frac hp
    have hs0 := (sol_iff h2 hp X).mpr hs
    have hz : ∀ i, i < n → sI (fun q => R i q * X q) n = - X n * R i n := by
      intro i hi
      have := hs0 i hi
      unfold Lk at this
      rw [show n + 1 - 0 = n + 1 from rfl] at this
      have e : sI (fun j => mn 0 R i (0 + j) * X (0 + j)) (n + 1) = sI (fun q => R i q * X q) n + R i n * X n := by
        show sI _ n + mn 0 R i (0 + n) * X (0 + n) = _
        rw [Nat.zero_add, mn_0]
        congr 1
        exact sI_congr (fun j _ => by rw [Nat.zero_add, mn_0])
      rw [e] at this
      rw [Int.neg_mul, Int.mul_comm (X n)]
      omega
    have hc : ∀ p, p < n → ∃ c, X p = - X n * c := by
      intro p hpn
      obtain ⟨c, hc⟩ := h p hpn
      have := cramer h1 h2 hpn R (fun i => R i n) X (- X n) hz
      rw [hc, ← Int.mul_assoc] at this
      exact ⟨c, (Int.eq_of_mul_eq_mul_right hdet this).symm⟩
    have hc2 : ∃ x : Nat → Int, ∀ p, p < n → X p = - X n * x p := ⟨fun p => if hpn : p < n then (hc p hpn).choose else 0, fun p hpn => by simp only [dif_pos hpn]; exact (hc p hpn).choose_spec⟩
    obtain ⟨x, hx⟩ := hc2
    refine ⟨x, fun i hi => ?_⟩
    have e1 := hz i hi
    have e2 : sI (fun q => R i q * X q) n = - X n * sI (fun q => R i q * x q) n := by
      rw [← sI_mul]
      refine sI_congr (fun q hq => ?_)
      rw [hx q hq, ← Int.mul_assoc, ← Int.mul_assoc, Int.mul_comm (R i q)]
    rw [e2] at e1
    exact Int.eq_of_mul_eq_mul_left (by omega) e1
