/-! ===== Bareiss's way: entries are minors; pivots of a yard are above 0; solutions ===== -/
def mn (k : Nat) (R : Nat → Nat → Int) (p q : Nat) : Int := dF (k + 1) (fun i j => R (if i < k then i else p) (if j < k then j else q))
def Dv (k : Nat) (R : Nat → Nat → Int) : Int := match k with
  | 0 => 1
  | k + 1 => mn k R k k
theorem mn_0 (R : Nat → Nat → Int) (p q : Nat) : mn 0 R p q = R p q := rfl
theorem mn_syl {k : Nat} (hk : k ≤ 3) (R : Nat → Nat → Int) (p q : Nat) : mn (k + 1) R p q * Dv k R = mn k R p q * mn k R k k - mn k R p k * mn k R k q := by
  have : k = 0 ∨ k = 1 ∨ k = 2 ∨ k = 3 := by omega
  rcases this with e | e | e | e <;> subst e
  · have := syl2 (R 0 0) (R 0 q) (R p 0) (R p q)
    exact this
  · have := syl3 (R 0 0) (R 0 1) (R 0 q) (R 1 0) (R 1 1) (R 1 q) (R p 0) (R p 1) (R p q)
    exact this
  · have := syl4 (R 0 0) (R 0 1) (R 0 2) (R 0 q) (R 1 0) (R 1 1) (R 1 2) (R 1 q) (R 2 0) (R 2 1) (R 2 2) (R 2 q) (R p 0) (R p 1) (R p 2) (R p q)
    exact this
  · have := syl5 (R 0 0) (R 0 1) (R 0 2) (R 0 3) (R 0 q) (R 1 0) (R 1 1) (R 1 2) (R 1 3) (R 1 q) (R 2 0) (R 2 1) (R 2 2) (R 2 3) (R 2 q) (R 3 0) (R 3 1) (R 3 2) (R 3 3) (R 3 q) (R p 0) (R p 1) (R p 2) (R p 3) (R p q)
    exact this
theorem mn_det {n : Nat} (h1 : 1 ≤ n) (h2 : n ≤ 5) (R : Nat → Nat → Int) : mn (n - 1) R (n - 1) (n - 1) = dF n R := by
  have : n = 1 ∨ n = 2 ∨ n = 3 ∨ n = 4 ∨ n = 5 := by omega
  rcases this with e | e | e | e | e <;> subst e <;> rfl
theorem sI_first (f : Nat → Int) : ∀ n, sI f (n + 1) = f 0 + sI (fun j => f (j + 1)) n
  | 0 => by show 0 + f 0 = f 0 + 0; omega
  | n + 1 => by
    have ih := sI_first f n
    show sI f (n + 1) + f (n + 1) = f 0 + (sI (fun j => f (j + 1)) n + f (n + 1))
    rw [ih]; omega
theorem sI_neg_le {f : Nat → Int} {n : Nat} (h : ∀ i, i < n → f i ≤ 0) : sI f n ≤ 0 := by
  have := sI_mono (g := fun _ => 0) h
  rw [sI_zero] at this
  exact this
theorem sI_sub (f g : Nat → Int) (n : Nat) : sI (fun i => f i - g i) n = sI f n - sI g n := by
  rw [Int.sub_eq_add_neg, ← sI_neg, ← sI_add]
  exact sI_congr (fun i _ => Int.sub_eq_add_neg ..)
/-- the sum of a row's places from k on -/
def rsm (n k : Nat) (R : Nat → Nat → Int) (p : Nat) : Int := sI (fun j => mn k R p (k + j)) (n - k)
/-- after k turns: paths are below 0, sums not, every set leads out -/
def Stg (n k : Nat) (R : Nat → Nat → Int) : Prop := (∀ p q, k ≤ p → p < n → k ≤ q → q < n → p ≠ q → mn k R p q ≤ 0) ∧ (∀ p, k ≤ p → p < n → 0 ≤ rsm n k R p) ∧ (∀ T : Nat → Bool, (∃ p, k ≤ p ∧ p < n ∧ T p = true) → ∃ p, k ≤ p ∧ p < n ∧ T p = true ∧ (0 < rsm n k R p ∨ ∃ q, k ≤ q ∧ q < n ∧ T q = false ∧ mn k R p q < 0)) ∧ 0 < Dv k R
theorem Stg.piv {n k : Nat} {R : Nat → Nat → Int} (S : Stg n k R) (hk : k < n) : 0 < mn k R k k := by
  obtain ⟨s1, s2, s3, -⟩ := S
  have e : rsm n k R k = mn k R k k + sI (fun j => mn k R k (k + (j + 1))) (n - k - 1) := by
    unfold rsm
    rw [show n - k = (n - k - 1) + 1 by omega, sI_first]
    rfl
  have hle : ∀ j, j < n - k - 1 → mn k R k (k + (j + 1)) ≤ 0 := fun j hj => s1 k _ (Nat.le_refl k) hk (by omega) (by omega) (by omega)
  have h0 := sI_neg_le (f := fun j => mn k R k (k + (j + 1))) hle
  have h1 := s2 k (Nat.le_refl k) hk
  obtain ⟨p, p1, p2, p3, p4⟩ := s3 (fun j => decide (j = k)) ⟨k, Nat.le_refl k, hk, decide_eq_true rfl⟩
  have p3 : p = k := of_decide_eq_true p3
  subst p3
  rcases p4 with h | ⟨q, q1, q2, q3, q4⟩
  · omega
  · have q3 : ¬ q = p := of_decide_eq_false q3
    have h2 : - mn p R p (p + ((q - p - 1) + 1)) ≤ sI (fun j => - mn p R p (p + (j + 1))) (n - p - 1) := sI_one (f := fun j => - mn p R p (p + (j + 1))) (i := q - p - 1) (by omega) (fun j hj => by have := hle j hj; omega)
    rw [sI_neg, show p + ((q - p - 1) + 1) = q by omega] at h2
    omega
theorem rsm_next {n k : Nat} {R : Nat → Nat → Int} (hk : k ≤ 3) (hkn : k < n) (p : Nat) : Dv k R * rsm n (k + 1) R p = mn k R k k * rsm n k R p - mn k R p k * rsm n k R k := by
  have e : ∀ p, rsm n k R p = mn k R p k + sI (fun j => mn k R p (k + 1 + j)) (n - (k + 1)) := by
    intro p
    unfold rsm
    rw [show n - k = (n - (k + 1)) + 1 by omega, sI_first]
    have : (fun j => mn k R p (k + (j + 1))) = fun j => mn k R p (k + 1 + j) := funext (fun j => by rw [show k + (j + 1) = k + 1 + j by omega])
    rw [this]
    rfl
  rw [e p, e k]
  unfold rsm
  rw [← sI_mul]
  have e2 : (fun i => Dv k R * mn (k + 1) R p (k + 1 + i)) = fun i => mn k R k k * mn k R p (k + 1 + i) - mn k R p k * mn k R k (k + 1 + i) := funext (fun i => by
    rw [Int.mul_comm, mn_syl hk, Int.mul_comm (mn k R k k)])
  rw [e2, sI_sub, sI_mul, sI_mul, Int.mul_add, Int.mul_add, Int.mul_comm (mn k R k k) (mn k R p k)]
  omega
theorem pos_of_mul {a b : Int} (ha : 0 < a) (h : 0 < a * b) : 0 < b := by
  rcases Int.lt_trichotomy b 0 with g | g | g
  · have := Int.mul_lt_mul_of_pos_left g ha
    rw [Int.mul_zero] at this
    omega
  · rw [g, Int.mul_zero] at h; omega
  · exact g
theorem nonneg_of_mul {a b : Int} (ha : 0 < a) (h : 0 ≤ a * b) : 0 ≤ b := by
  rcases Int.lt_or_le b 0 with g | g
  · have := Int.mul_lt_mul_of_pos_left g ha
    rw [Int.mul_zero] at this
    omega
  · exact g
theorem Stg.next {n k : Nat} {R : Nat → Nat → Int} (hk : k ≤ 3) (S : Stg n k R) (hkn : k < n) : Stg n (k + 1) R := by
  have pv := S.piv hkn
  obtain ⟨s1, s2, s3, s4⟩ := S
  have ent : ∀ p q, Dv k R * - mn (k + 1) R p q = mn k R k k * - mn k R p q + - mn k R p k * - mn k R k q := by
    intro p q
    have := mn_syl hk R p q
    rw [Int.mul_neg, Int.mul_comm, this, Int.mul_neg, Int.neg_mul_neg, Int.mul_comm (mn k R p q)]
    omega
  have hpk : ∀ p, k + 1 ≤ p → p < n → 0 ≤ - mn k R p k := fun p h1 h2 => by have := s1 p k (by omega) h2 (Nat.le_refl k) hkn (by omega); omega
  have hkq : ∀ q, k + 1 ≤ q → q < n → 0 ≤ - mn k R k q := fun q h1 h2 => by have := s1 k q (Nat.le_refl k) hkn (by omega) h2 (by omega); omega
  have rn : ∀ p, Dv k R * rsm n (k + 1) R p = mn k R k k * rsm n k R p + - mn k R p k * rsm n k R k := fun p => by
    rw [rsm_next hk hkn p, Int.neg_mul]; omega
  refine ⟨fun p q h1 h2 h3 h4 h5 => ?_, fun p h1 h2 => ?_, fun T hT => ?_, pv⟩
  · have a1 := s1 p q (by omega) h2 (by omega) h4 h5
    have a2 := Int.mul_nonneg (Int.le_of_lt pv) (show 0 ≤ - mn k R p q by omega)
    have a3 := Int.mul_nonneg (hpk p h1 h2) (hkq q h3 h4)
    have := nonneg_of_mul s4 (show 0 ≤ Dv k R * - mn (k + 1) R p q by rw [ent]; omega)
    omega
  · have a2 := Int.mul_nonneg (Int.le_of_lt pv) (s2 p (by omega) h2)
    have a3 := Int.mul_nonneg (hpk p h1 h2) (s2 k (Nat.le_refl k) hkn)
    exact nonneg_of_mul s4 (by rw [rn]; omega)
  · -- what holds of p if the old row of p, or that of k behind it, leads out
    have out1 : ∀ p, k + 1 ≤ p → p < n → 0 < rsm n k R p → 0 < rsm n (k + 1) R p := fun p h1 h2 h3 => by
      have a2 := Int.mul_pos pv h3
      have a3 := Int.mul_nonneg (hpk p h1 h2) (s2 k (Nat.le_refl k) hkn)
      exact pos_of_mul s4 (by rw [rn]; omega)
    have out2 : ∀ p q, k + 1 ≤ p → p < n → k + 1 ≤ q → q < n → mn k R p q < 0 → mn (k + 1) R p q < 0 := fun p q h1 h2 h3 h4 h5 => by
      have a2 := Int.mul_pos pv (show 0 < - mn k R p q by omega)
      have a3 := Int.mul_nonneg (hpk p h1 h2) (hkq q h3 h4)
      have := pos_of_mul s4 (show 0 < Dv k R * - mn (k + 1) R p q by rw [ent]; omega)
      omega
    obtain ⟨p0, hp0, hp0n, hp0T⟩ := hT
    let T' : Nat → Bool := fun j => T j && decide (k + 1 ≤ j)
    obtain ⟨p, p1, p2, p3, p4⟩ := s3 T' ⟨p0, by omega, hp0n, by simp [T', hp0T, hp0]⟩
    have p3' : T p = true ∧ k + 1 ≤ p := by simpa [T'] using p3
    rcases p4 with h | ⟨q, q1, q2, q3, q4⟩
    · exact ⟨p, p3'.2, p2, p3'.1, Or.inl (out1 p p3'.2 p2 h)⟩
    · by_cases eq : q = k
      · subst eq
        -- p gives to k: ask of the set with k in it
        let T2 : Nat → Bool := fun j => T' j || decide (j = q)
        obtain ⟨r, r1, r2, r3, r4⟩ := s3 T2 ⟨q, Nat.le_refl q, hkn, by simp [T2]⟩
        by_cases er : r = q
        · subst er
          rcases r4 with h | ⟨x, x1, x2, x3, x4⟩
          · refine ⟨p, p3'.2, p2, p3'.1, Or.inl ?_⟩
            have a2 := Int.mul_nonneg (Int.le_of_lt pv) (s2 p (by omega) p2)
            have a3 := Int.mul_pos (show 0 < - mn r R p r by omega) h
            exact pos_of_mul s4 (by rw [rn]; omega)
          · have x3' : T' x = false ∧ ¬ x = r := by simpa [T2] using x3
            have hxr : r + 1 ≤ x := by omega
            have hTx : T x = false := by
              cases e9 : T x with
              | false => rfl
              | true => have := x3'.1; simp [T', e9] at this; omega
            refine ⟨p, p3'.2, p2, p3'.1, Or.inr ⟨x, hxr, x2, hTx, ?_⟩⟩
            have hne : p ≠ x := fun z => by rw [← z, p3'.1] at hTx; cases hTx
            have a1 := s1 p x (by omega) p2 (by omega) x2 hne
            have a2 := Int.mul_nonneg (Int.le_of_lt pv) (show 0 ≤ - mn r R p x by omega)
            have a3 := Int.mul_pos (show 0 < - mn r R p r by omega) (show 0 < - mn r R r x by omega)
            have := pos_of_mul s4 (show 0 < Dv r R * - mn (r + 1) R p x by rw [ent]; omega)
            omega
        · have r3' : T r = true ∧ q + 1 ≤ r := by
            have : T' r = true := by simpa [T2, er] using r3
            simpa [T'] using this
          rcases r4 with h | ⟨x, x1, x2, x3, x4⟩
          · exact ⟨r, r3'.2, r2, r3'.1, Or.inl (out1 r r3'.2 r2 h)⟩
          · have x3' : T' x = false ∧ ¬ x = q := by simpa [T2] using x3
            have hxr : q + 1 ≤ x := by omega
            have hTx : T x = false := by
              cases e9 : T x with
              | false => rfl
              | true => have := x3'.1; simp [T', e9] at this; omega
            exact ⟨r, r3'.2, r2, r3'.1, Or.inr ⟨x, hxr, x2, hTx, out2 r x r3'.2 r2 hxr x2 x4⟩⟩
      · have hqk : k + 1 ≤ q := by omega
        have hTq : T q = false := by
          cases e9 : T q with
          | false => rfl
          | true => simp [T', e9, hqk] at q3
        exact ⟨p, p3'.2, p2, p3'.1, Or.inr ⟨q, hqk, q2, hTq, out2 p q p3'.2 p2 hqk q2 q4⟩⟩
/-- the square of a yard -/
def sqr (n : Nat) (a : Nat → Nat → Nat) (w : Nat → Nat) : Nat → Nat → Int := fun p q => if p = q then (dgr n a w p : Int) else - (a p q : Int)
theorem sqr_row {n : Nat} {a : Nat → Nat → Nat} {w : Nat → Nat} {p : Nat} (hp : p < n) (h0 : a p p = 0) : sI (sqr n a w p) n = (w p : Int) := by
  have key : ∀ m, sI (sqr n a w p) m = (if p < m then (dgr n a w p : Int) else 0) - sm (a p) m := by
    intro m
    induction m with
    | zero => rfl
    | succ m ih =>
      show sI (sqr n a w p) m + (if p = m then (dgr n a w p : Int) else - (a p m : Int)) = _ - ((sm (a p) m + a p m : Nat) : Int)
      rw [ih]
      by_cases e : p = m
      · subst e
        rw [if_neg (Nat.lt_irrefl p), if_pos rfl, if_pos (by omega), h0]
        omega
      · rw [if_neg e]
        by_cases e2 : p < m
        · rw [if_pos e2, if_pos (by omega)]; omega
        · rw [if_neg e2, if_neg (by omega)]; omega
  rw [key n, if_pos hp]
  unfold dgr
  omega
/-- a yard's pivots are above 0; B may be anything in the columns from n on -/
theorem yard_stg {n : Nat} {a : Nat → Nat → Nat} {w κ : Nat → Nat} (Y : Yw n a w κ) {R : Nat → Nat → Int} (hR : ∀ p q, p < n → q < n → R p q = sqr n a w p q) : ∀ k, k < n → Stg n k R := by
  have hn := Y.1
  intro k
  induction k with
  | zero =>
    intro h0
    have rs : ∀ p, p < n → rsm n 0 R p = (w p : Int) := fun p hp => by
      unfold rsm
      rw [← sqr_row hp (Y.2.2.1 p hp), Nat.sub_zero]
      refine sI_congr (fun i hi => ?_)
      rw [mn_0, Nat.zero_add]
      exact hR p i hp hi
    refine ⟨fun p q _ hp _ hq hne => ?_, fun p _ hp => ?_, fun T hT => ?_, Int.one_pos⟩
    · rw [mn_0, hR p q hp hq]
      unfold sqr
      rw [if_neg hne]
      omega
    · rw [rs p hp]; omega
    · obtain ⟨p, -, hp, hpT⟩ := hT
      obtain ⟨q, hq, hqT, h⟩ := Y.2.2.2.2.2.2 T ⟨p, hp, hpT⟩
      refine ⟨q, Nat.zero_le _, hq, hqT, ?_⟩
      rcases h with h | ⟨r, hr, hrT, h⟩
      · left; rw [rs q hq]; omega
      · right
        refine ⟨r, Nat.zero_le _, hr, hrT, ?_⟩
        rw [mn_0, hR q r hq hr]
        unfold sqr
        rw [if_neg (fun z => by rw [z, hrT] at hqT; cases hqT)]
        omega
  | succ k ih =>
    intro h
    exact (ih (by omega)).next (by omega) (by omega)
