/-! ===== sets that grow by sweeps ===== -/
def bt1 (S q : Nat) : Nat := S / 2 ^ q % 2
theorem bt1_or {S p q : Nat} : bt1 (S ||| 2 ^ p) q = if q = p then 1 else bt1 S q := bit_or
theorem bt1_lt (S q : Nat) : bt1 S q < 2 := Nat.mod_lt _ (by decide)
theorem bt1_0 (q : Nat) : bt1 0 q = 0 := by simp [bt1]
def swp (c : Nat → Nat → Bool) (S : Nat) : Nat → Nat
  | 0 => S
  | k + 1 => if c (swp c S k) k = true then swp c S k ||| 2 ^ k else swp c S k
def itr (c : Nat → Nat → Bool) (n : Nat) : Nat → Nat
  | 0 => 0
  | m + 1 => swp c (itr c n m) n
theorem swp_up (c : Nat → Nat → Bool) (S q : Nat) : ∀ k, bt1 S q ≤ bt1 (swp c S k) q
  | 0 => Nat.le_refl _
  | k + 1 => by
    have ih := swp_up c S q k
    show bt1 S q ≤ bt1 (if _ then _ else _) q
    split
    · rw [bt1_or]
      have := bt1_lt S q
      split <;> omega
    · exact ih
theorem bt_ext {S T : Nat} (h : ∀ q, bt1 S q = bt1 T q) : S = T := by
  apply Nat.eq_of_testBit_eq
  intro q
  have := h q
  unfold bt1 at this
  rw [Nat.testBit_eq_decide_div_mod_eq, Nat.testBit_eq_decide_div_mod_eq, this]
theorem or_same {S p : Nat} (h : bt1 S p = 1) : S ||| 2 ^ p = S := bt_ext (fun q => by
  rw [bt1_or]
  split
  · next e => rw [e]; exact h.symm
  · rfl)
/-- a set that a sweep leaves: every place that could come has come -/
theorem swp_fix {c : Nat → Nat → Bool} {S : Nat} : ∀ {k : Nat}, (∀ p, p < k → c S p = true → bt1 S p = 1) → swp c S k = S
  | 0, _ => rfl
  | k + 1, h => by
    have ih := swp_fix (c := c) (S := S) (k := k) (fun p hp => h p (by omega))
    show (if c (swp c S k) k = true then swp c S k ||| 2 ^ k else swp c S k) = S
    rw [ih]
    split
    · next e => exact or_same (h k (by omega) e)
    · rfl
theorem swp_fix_inv {c : Nat → Nat → Bool} {S : Nat} : ∀ {k : Nat}, swp c S k = S → ∀ p, p < k → c S p = true → bt1 S p = 1
  | 0, _, p, hp, _ => by omega
  | k + 1, h, p, hp, hc => by
    have hk : swp c S k = S := bt_ext (fun q => by
      have h1 := swp_up c S q k
      have h2 : bt1 (swp c S k) q ≤ bt1 (swp c S (k + 1)) q := by
        show _ ≤ bt1 (if _ then _ else _) q
        split
        · rw [bt1_or]
          have := bt1_lt (swp c S k) q
          split <;> omega
        · exact Nat.le_refl _
      rw [h] at h2
      omega)
    by_cases e : p = k
    · subst e
      have h1 : (if c (swp c S p) p = true then swp c S p ||| 2 ^ p else swp c S p) = S := h
      rw [hk, if_pos hc] at h1
      rw [← h1, bt1_or, if_pos rfl]
    · exact swp_fix_inv hk p (by omega) hc
theorem swp_lt {c : Nat → Nat → Bool} {S : Nat} {n : Nat} (hS : S < 2 ^ n) : ∀ {k : Nat}, k ≤ n → swp c S k < 2 ^ n
  | 0, _ => hS
  | k + 1, hk => by
    have ih := swp_lt (c := c) hS (k := k) (by omega)
    show (if _ then _ else _) < 2 ^ n
    split
    · exact Nat.or_lt_two_pow ih (Nat.pow_lt_pow_right (by decide) (by omega))
    · exact ih
theorem itr_lt (c : Nat → Nat → Bool) (n : Nat) : ∀ m, itr c n m < 2 ^ n
  | 0 => Nat.two_pow_pos n
  | m + 1 => swp_lt (itr_lt c n m) (Nat.le_refl n)
/-- places outside the sweep stay out -/
theorem swp_out {c : Nat → Nat → Bool} {S q : Nat} : ∀ {k : Nat}, k ≤ q → bt1 (swp c S k) q = bt1 S q
  | 0, _ => rfl
  | k + 1, hk => by
    have ih := swp_out (c := c) (S := S) (q := q) (k := k) (by omega)
    show bt1 (if _ then _ else _) q = _
    split
    · rw [bt1_or, if_neg (by omega)]; exact ih
    · exact ih
def cnt (n S : Nat) : Nat := sm (bt1 S) n
theorem cnt_le (n S : Nat) : cnt n S ≤ n := by
  have := sm_le (f := bt1 S) (n := n) (b := 1) (fun i _ => by have := bt1_lt S i; omega)
  unfold cnt
  omega
theorem cnt_up {n S T : Nat} (h : ∀ q, bt1 S q ≤ bt1 T q) (hd : ∃ q, q < n ∧ bt1 S q < bt1 T q) : cnt n S + 1 ≤ cnt n T := by
  obtain ⟨q, hq, hlt⟩ := hd
  have hpt : ∀ i, i < n → (fun p => bt1 S p + (if p = q then 1 else 0)) i ≤ bt1 T i := by
    intro i _
    have := h i
    dsimp only
    split
    · next e => subst e; omega
    · omega
  have h1 := sm_mono hpt
  rw [sm_add] at h1
  have h2 : (if q = q then 1 else 0) ≤ sm (fun p => if p = q then 1 else 0) n := sm_ge (f := fun p => if p = q then 1 else 0) hq
  rw [if_pos rfl] at h2
  unfold cnt
  omega
theorem cnt_full {n S : Nat} (h : n ≤ cnt n S) : ∀ q, q < n → bt1 S q = 1 := by
  intro q hq
  have hl := bt1_lt S q
  rcases Nat.lt_or_ge (bt1 S q) 1 with g | g
  · exfalso
    have hpt : ∀ i, i < n → (fun p => bt1 S p + (if p = q then 1 else 0)) i ≤ 1 := by
      intro i _
      have := bt1_lt S i
      dsimp only
      split
      · next e => subst e; omega
      · omega
    have h1 := sm_le hpt
    rw [sm_add] at h1
    have h2 : (if q = q then 1 else 0) ≤ sm (fun p => if p = q then 1 else 0) n := sm_ge (f := fun p => if p = q then 1 else 0) hq
    rw [if_pos rfl] at h2
    unfold cnt at h
    omega
  · omega
theorem swp_grow {c : Nat → Nat → Bool} {n S : Nat} : swp c S n = S ∨ cnt n S + 1 ≤ cnt n (swp c S n) := by
  by_cases e : swp c S n = S
  · exact Or.inl e
  · right
    refine cnt_up (fun q => swp_up c S q n) ?_
    by_cases hd : ∃ q, q < n ∧ bt1 S q < bt1 (swp c S n) q
    · exact hd
    · exfalso
      refine e (bt_ext (fun q => ?_))
      by_cases hq : q < n
      · have h1 := swp_up c S q n
        rcases Nat.lt_or_ge (bt1 S q) (bt1 (swp c S n) q) with g | g
        · exact absurd ⟨q, hq, g⟩ hd
        · omega
      · exact swp_out (by omega)
theorem itr_grow {c : Nat → Nat → Bool} {n : Nat} : ∀ m, swp c (itr c n m) n = itr c n m ∨ m ≤ cnt n (itr c n m)
  | 0 => Or.inr (Nat.zero_le _)
  | m + 1 => by
    rcases itr_grow (c := c) (n := n) m with h | h
    · left
      show swp c (swp c (itr c n m) n) n = swp c (itr c n m) n
      rw [h, h]
    · rcases swp_grow (c := c) (n := n) (S := itr c n m) with g | g
      · left
        show swp c (swp c (itr c n m) n) n = swp c (itr c n m) n
        rw [g, g]
      · right
        show m + 1 ≤ cnt n (swp c (itr c n m) n)
        omega
/-- n sweeps are enough -/
theorem itr_fix (c : Nat → Nat → Bool) (n : Nat) : swp c (itr c n n) n = itr c n n := by
  rcases itr_grow (c := c) (n := n) n with h | h
  · exact h
  · exact swp_fix (fun p hp _ => cnt_full h p hp)
theorem itr_stay {c : Nat → Nat → Bool} {n m : Nat} (h : swp c (itr c n m) n = itr c n m) : ∀ j, itr c n (m + j) = itr c n m
  | 0 => rfl
  | j + 1 => by
    show swp c (itr c n (m + j)) n = _
    rw [itr_stay h j, h]
/-- whoever sweeps till nothing changes comes to the same set -/
theorem itr_same {c : Nat → Nat → Bool} {n m : Nat} (h : swp c (itr c n m) n = itr c n m) : itr c n m = itr c n n := by
  rcases Nat.le_total m n with g | g
  · have := itr_stay h (n - m)
    rw [show m + (n - m) = n by omega] at this
    exact this.symm
  · have := itr_stay (itr_fix c n) (m - n)
    rw [show n + (m - n) = m by omega] at this
    exact this
theorem pin_pos {a : Nat → Nat} {S : Nat} : ∀ {n : Nat}, 0 < pin a S n ↔ ∃ q, q < n ∧ bt1 S q = 1 ∧ 0 < a q
  | 0 => ⟨fun h => absurd h (Nat.lt_irrefl 0), fun ⟨q, hq, _⟩ => absurd hq (Nat.not_lt_zero q)⟩
  | n + 1 => by
    have ih := pin_pos (a := a) (S := S) (n := n)
    by_cases e : bt1 S n = 1
    · rw [pin_s e]
      refine ⟨fun h => ?_, fun ⟨q, hq, h1, h2⟩ => ?_⟩
      · rcases Nat.eq_zero_or_pos (a n) with z | z
        · obtain ⟨q, hq, h1, h2⟩ := ih.mp (by omega)
          exact ⟨q, by omega, h1, h2⟩
        · exact ⟨n, by omega, e, z⟩
      · rcases Nat.lt_or_ge q n with g | g
        · have := ih.mpr ⟨q, g, h1, h2⟩
          omega
        · have : q = n := by omega
          subst this
          omega
    · rw [pin_n e]
      refine ⟨fun h => ?_, fun ⟨q, hq, h1, h2⟩ => ?_⟩
      · obtain ⟨q, hq, h1, h2⟩ := ih.mp h
        exact ⟨q, by omega, h1, h2⟩
      · rcases Nat.lt_or_ge q n with g | g
        · exact ih.mpr ⟨q, g, h1, h2⟩
        · have : q = n := by omega
          subst this
          exact absurd h1 e
/-- a place is open, if a path leads to the pit or to an open place -/
def opc (n : Nat) (a : Nat → Nat → Nat) (w : Nat → Nat) (S p : Nat) : Bool := decide (0 < w p) || decide (0 < pin (a p) S n)
theorem opn_of {n : Nat} {a : Nat → Nat → Nat} {w : Nat → Nat} (h : ∀ q, q < n → bt1 (itr (opc n a w) n n) q = 1) : Opn n a w := by
  intro T hT
  by_cases hex : ∃ q, q < n ∧ T q = true ∧ (0 < w q ∨ ∃ p, p < n ∧ T p = false ∧ 0 < a q p)
  · exact hex
  · exfalso
    have step : ∀ (S : Nat), (∀ q, q < n → T q = true → bt1 S q = 0) → ∀ k, k ≤ n → ∀ q, q < n → T q = true → bt1 (swp (opc n a w) S k) q = 0 := by
      intro S hS k
      induction k with
      | zero => intro _; exact hS
      | succ k ih =>
        intro hk q hq ht
        have ih := ih (by omega)
        show bt1 (if _ then _ else _) q = 0
        split
        · next hc =>
          rw [bt1_or]
          split
          · next e =>
            subst e
            exfalso
            refine hex ⟨q, hq, ht, ?_⟩
            simp only [opc, Bool.or_eq_true, decide_eq_true_eq] at hc
            rcases hc with g | g
            · exact Or.inl g
            · obtain ⟨p, hp, h1, h2⟩ := pin_pos.mp g
              refine Or.inr ⟨p, hp, ?_, h2⟩
              cases e9 : T p with
              | false => rfl
              | true => have := ih p hp e9; omega
          · exact ih q hq ht
        · exact ih q hq ht
    have all : ∀ m, ∀ q, q < n → T q = true → bt1 (itr (opc n a w) n m) q = 0 := by
      intro m
      induction m with
      | zero => intro q _ _; exact bt1_0 q
      | succ m ih => exact step _ ih n (Nat.le_refl n)
    obtain ⟨p, hp, ht⟩ := hT
    have := all n p hp ht
    have := h p hp
    omega
