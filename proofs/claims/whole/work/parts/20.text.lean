/-! ===== the text: pure ===== -/
/-- codes read one by one: wrong or not, and where one is -/
def rst (ck : Nat → Int32 → Bool) (cd : Nat → Int32) (m : Nat) (s0 : Bool × Nat) : Nat → Bool × Nat
  | 0 => s0
  | j + 1 => if (rst ck cd m s0 j).1 = false ∧ (rst ck cd m s0 j).2 < m ∧ ck j (cd (rst ck cd m s0 j).2) = true then (false, (rst ck cd m s0 j).2 + 1) else (true, (rst ck cd m s0 j).2)
theorem rst_ok {ck : Nat → Int32 → Bool} {cd : Nat → Int32} {m : Nat} {s0 : Bool × Nat} {j : Nat} (h : (rst ck cd m s0 j).1 = false ∧ (rst ck cd m s0 j).2 < m ∧ ck j (cd (rst ck cd m s0 j).2) = true) : rst ck cd m s0 (j + 1) = (false, (rst ck cd m s0 j).2 + 1) := if_pos h
theorem rst_no {ck : Nat → Int32 → Bool} {cd : Nat → Int32} {m : Nat} {s0 : Bool × Nat} {j : Nat} (h : ¬ ((rst ck cd m s0 j).1 = false ∧ (rst ck cd m s0 j).2 < m ∧ ck j (cd (rst ck cd m s0 j).2) = true)) : rst ck cd m s0 (j + 1) = (true, (rst ck cd m s0 j).2) := if_neg h
theorem rst_wrong {ck : Nat → Int32 → Bool} {cd : Nat → Int32} {m : Nat} {s0 : Bool × Nat} {j : Nat} (h : (rst ck cd m s0 j).1 = true) : ∀ i, rst ck cd m s0 (j + i) = rst ck cd m s0 j
  | 0 => rfl
  | i + 1 => by
    have ih := rst_wrong h i
    rw [show j + (i + 1) = (j + i) + 1 by omega, rst_no (by rw [ih, h]; simp), ih, ← h]
theorem rst_false {ck : Nat → Int32 → Bool} {cd : Nat → Int32} {m : Nat} {s0 : Bool × Nat} {j : Nat} (h : (rst ck cd m s0 j).1 = false) : ∀ i, i ≤ j → rst ck cd m s0 i = (false, s0.2 + i) := by
  have hf : ∀ i, i ≤ j → (rst ck cd m s0 i).1 = false := by
    intro i hi
    cases e : (rst ck cd m s0 i).1 with
    | false => rfl
    | true =>
      have := rst_wrong e (j - i)
      rw [show i + (j - i) = j by omega] at this
      rw [this, e] at h
      cases h
  intro i
  induction i with
  | zero => intro _; have := hf 0 (Nat.zero_le _); show s0 = _; rw [show s0 = (s0.1, s0.2) from rfl, show s0.1 = false from this]; rfl
  | succ i ih =>
    intro hi
    have h1 := ih (by omega)
    have h2 := hf (i + 1) hi
    by_cases c : (rst ck cd m s0 i).1 = false ∧ (rst ck cd m s0 i).2 < m ∧ ck i (cd (rst ck cd m s0 i).2) = true
    · rw [rst_ok c, h1]; rfl
    · rw [rst_no c] at h2; cases h2
theorem rst_pass {ck : Nat → Int32 → Bool} {cd : Nat → Int32} {m : Nat} {s0 : Bool × Nat} {j i : Nat} (h : (rst ck cd m s0 j).1 = false) (hi : i < j) : s0.2 + i < m ∧ ck i (cd (s0.2 + i)) = true := by
  have h1 := rst_false h i (by omega)
  have h2 := rst_false h (i + 1) hi
  by_cases c : (rst ck cd m s0 i).1 = false ∧ (rst ck cd m s0 i).2 < m ∧ ck i (cd (rst ck cd m s0 i).2) = true
  · rw [h1] at c
    exact c.2
  · rw [rst_no c] at h2; cases h2
theorem rst_le {ck : Nat → Int32 → Bool} {cd : Nat → Int32} {m : Nat} {s0 : Bool × Nat} (h0 : s0.2 ≤ m) : ∀ j, (rst ck cd m s0 j).2 ≤ m
  | 0 => h0
  | j + 1 => by
    have ih := rst_le (ck := ck) (cd := cd) h0 j
    by_cases c : (rst ck cd m s0 j).1 = false ∧ (rst ck cd m s0 j).2 < m ∧ ck j (cd (rst ck cd m s0 j).2) = true
    · rw [rst_ok c]; exact c.2.1
    · rw [rst_no c]; exact ih
/-- a code is a digit 0 .. k -/
def isDg (k : Nat) (c : Int32) : Bool := decide (nI 48 ≤ c) && decide (c ≤ nI (48 + k))
def isLt (c : Int32) : Bool := decide (c = nI 112) || decide (c = nI 98) || decide (c = nI 100)
def ktL (c : Int32) : Nat := if c = nI 112 then 0 else if c = nI 98 then 1 else 2
/-- how many pairs there are ahead of those of place a -/
def pA (n : Nat) : Nat → Nat := sm (fun i => n - 1 - i)
def ckT (n j : Nat) (c : Int32) : Bool := if j < pA n n then isDg 3 c else if (j - pA n n) % 4 = 0 then decide (c = nI 59) else if (j - pA n n) % 4 = 1 then isLt c else if (j - pA n n) % 4 = 2 then isDg 3 c else isDg 9 c
def ySt (cd : Nat → Int32) (m : Nat) : (Bool × Nat) × Nat := if 0 < m ∧ cd 0 = nI 121 then (if 1 < m ∧ nI 50 ≤ cd 1 ∧ cd 1 ≤ nI 53 then ((false, 2), (cd 1).toNatClampNeg - 48) else ((true, 1), 2)) else ((true, 0), 2)
def yEnd (cd : Nat → Int32) (m : Nat) : Bool × Nat := rst (ckT (ySt cd m).2) cd m (ySt cd m).1 (pA (ySt cd m).2 (ySt cd m).2 + 4 * (ySt cd m).2)
def yOk (cd : Nat → Int32) (m : Nat) : Prop := (yEnd cd m).1 = false ∧ (yEnd cd m).2 = m
/-- what the text tells -/
def dgv (c : Int32) : Nat := c.toNatClampNeg - 48
def yp (n p q : Nat) : Nat := 2 + pA n p + (q - p - 1)
def ya (cd : Nat → Int32) (n : Nat) (p q : Nat) : Nat := if p < q then dgv (cd (yp n p q)) else if q < p then dgv (cd (yp n q p)) else 0
def yw (cd : Nat → Int32) (n : Nat) (p : Nat) : Nat := dgv (cd (2 + (pA n n + 4 * p + 2)))
def yk (cd : Nat → Int32) (n : Nat) (p : Nat) : Nat := ktL (cd (2 + (pA n n + 4 * p + 1)))
def yh (cd : Nat → Int32) (n : Nat) (p : Nat) : Nat := dgv (cd (2 + (pA n n + 4 * p + 3)))
theorem dg_of {k : Nat} {c : Int32} (hk : k ≤ 9) (h : isDg k c = true) : ∃ v, v ≤ k ∧ c = nI (48 + v) := by
  simp only [isDg, Bool.and_eq_true, decide_eq_true_eq] at h
  rcases pk_ix c (n := 48 + k + 1) (by omega) with e | e | ⟨j, h1, h2⟩
  · have := Int32.lt_iff_toInt_lt.mp e
    have h3 := Int32.le_iff_toInt_le.mp h.1
    rw [nI_toInt (by omega)] at h3
    rw [toInt0] at this
    omega
  · have h3 := Int32.le_iff_toInt_le.mp e
    have h4 := Int32.le_iff_toInt_le.mp h.2
    rw [nI_toInt (by omega)] at h3 h4
    omega
  · have h3 : 48 ≤ j := (nI_leI (by omega) (by omega)).mp (h2 ▸ h.1)
    exact ⟨j - 48, by omega, by rw [h2, show 48 + (j - 48) = j by omega]⟩
theorem dg_val {k : Nat} {c : Int32} (hk : k ≤ 9) (h : isDg k c = true) : dgv c ≤ k ∧ c - nI 48 = nI (dgv c) := by
  obtain ⟨v, h1, h2⟩ := dg_of hk h
  subst h2
  unfold dgv
  rw [nI_clamp (by omega), pk_sub (by omega)]
  exact ⟨by omega, rfl⟩
theorem pA_mono (n : Nat) : ∀ {a b : Nat}, a ≤ b → pA n a ≤ pA n b := by
  intro a b h
  induction b with
  | zero => rw [show a = 0 by omega]; exact Nat.le_refl _
  | succ b ih =>
    rcases Nat.lt_or_ge a (b + 1) with g | g
    · have := ih (by omega)
      show pA n a ≤ pA n b + _
      omega
    · rw [show a = b + 1 by omega]; exact Nat.le_refl _
theorem pA_in {n a b : Nat} (h1 : a < b) (h2 : b < n) : pA n a + (b - a - 1) < pA n n := by
  have h3 := pA_mono n (show a + 1 ≤ n by omega)
  have h4 : pA n (a + 1) = pA n a + (n - 1 - a) := rfl
  omega
/-! ===== TextReader ===== -/
def Tr (N : Nat) (h : AH) (r m : Nat) (wr : Bool) (at' : Nat) (cd : Nat → Int32) : Prop := r + 1 < N ∧ h r = .inr (5, [.ref (r + 1), .int (nI m), .int (b2i wr), .int (nI at')]) ∧ h (r + 1) = .inl (0, 60, .inl cd)
theorem Tr.fr {N : Nat} {h h' : AH} {r m lo hi : Nat} {wr : Bool} {at' : Nat} {cd : Nat → Int32} (G : Tr N h r m wr at' cd) (f : Fr lo hi h h') (hd : r + 2 ≤ lo ∨ hi ≤ r) : Tr N h' r m wr at' cd := by
  obtain ⟨a0, a1, a2⟩ := G
  exact ⟨a0, (f _ (by omega)).trans a1, (f _ (by omega)).trans a2⟩
theorem c_Reader_code {l : Launch} {N : Nat} {h : AH} {r m at' : Nat} {wr : Bool} {cd : Nat → Int32} {lo hi : Int32} {P : Option Value → AH → Prop} (T : Tr N h r m wr at' cd) (hm : m ≤ 60) (ha : at' ≤ m)
    (hp : ∀ h', Fr r (r + 1) h h' → ((wr = false ∧ at' < m ∧ lo ≤ cd at' ∧ cd at' ≤ hi) → Tr N h' r m false (at' + 1) cd → P (some (.int (cd at'))) h') ∧ (¬ (wr = false ∧ at' < m ∧ lo ≤ cd at' ∧ cd at' ≤ hi) → Tr N h' r m true at' cd → P (some (.int lo)) h')) : Sem l QX5_code N h [.ref r, .int lo, .int hi] P := by
  obtain ⟨hN, h0, h1⟩ := T
  refine iX5_code rfl ?_
  intro Z hZ
  have bad : ¬ (wr = false ∧ at' < m ∧ lo ≤ cd at' ∧ cd at' ≤ hi) → Z h 44 [some (.ref r), some (.int lo), some (.int hi)] [] := by
    intro hb
    iterate 2 (first | refine hZ _ _ _ _ ⟨rfl, ?_⟩ | refine hZ _ _ _ _ ⟨_, _, (by repeat (first | exact up_s | assumption | refine up_n (by omega) ?_)), adl (by omega), (by rfl), ?_⟩ | refine hZ _ _ _ _ ⟨_, _, (by repeat (first | exact up_s | assumption | refine up_n (by omega) ?_)), adl (by omega), (by first | assumption | exact vp_in_nI (by omega) (by omega)), ?_⟩ | refine hZ _ _ _ _ ⟨_, (by repeat (first | exact up_s | assumption | refine up_n (by omega) ?_)), adl (by omega), (by rfl), trivial, ?_⟩ | refine hZ _ _ _ _ ⟨trivial, ?_⟩ | refine hZ _ _ _ _ ?_)
    show Z _ 46 _ _
    refine hZ _ _ _ _ ⟨_, h0, adl (by omega), rfl, Or.inr rfl, ?_⟩
    repeat (first | refine hZ _ _ _ _ ⟨rfl, ?_⟩ | refine hZ _ _ _ _ ⟨_, _, (by repeat (first | exact up_s | assumption | refine up_n (by omega) ?_)), adl (by omega), (by rfl), ?_⟩ | refine hZ _ _ _ _ ⟨_, _, (by repeat (first | exact up_s | assumption | refine up_n (by omega) ?_)), adl (by omega), (by first | assumption | exact vp_in_nI (by omega) (by omega)), ?_⟩ | refine hZ _ _ _ _ ⟨_, (by repeat (first | exact up_s | assumption | refine up_n (by omega) ?_)), adl (by omega), (by rfl), trivial, ?_⟩ | refine hZ _ _ _ _ ⟨trivial, ?_⟩ | refine hZ _ _ _ _ ?_)
    exact (hp _ (Fr.rf.up (by omega) (by omega))).2 hb ⟨hN, (by repeat (first | exact up_s | assumption | refine up_n (by omega) ?_)), (by repeat (first | exact up_s | assumption | refine up_n (by omega) ?_))⟩
  cases wr with
  | true =>
    repeat (first | refine hZ _ _ _ _ ⟨rfl, ?_⟩ | refine hZ _ _ _ _ ⟨_, _, (by repeat (first | exact up_s | assumption | refine up_n (by omega) ?_)), adl (by omega), (by rfl), ?_⟩ | refine hZ _ _ _ _ ⟨_, _, (by repeat (first | exact up_s | assumption | refine up_n (by omega) ?_)), adl (by omega), (by first | assumption | exact vp_in_nI (by omega) (by omega)), ?_⟩ | refine hZ _ _ _ _ ⟨_, (by repeat (first | exact up_s | assumption | refine up_n (by omega) ?_)), adl (by omega), (by rfl), trivial, ?_⟩ | refine hZ _ _ _ _ ⟨trivial, ?_⟩ | refine hZ _ _ _ _ ?_)
    refine ⟨fun c => bad (by simp), fun c => absurd c (by decide)⟩
  | false =>
    repeat (first | refine hZ _ _ _ _ ⟨rfl, ?_⟩ | refine hZ _ _ _ _ ⟨_, _, (by repeat (first | exact up_s | assumption | refine up_n (by omega) ?_)), adl (by omega), (by rfl), ?_⟩ | refine hZ _ _ _ _ ⟨_, _, (by repeat (first | exact up_s | assumption | refine up_n (by omega) ?_)), adl (by omega), (by first | assumption | exact vp_in_nI (by omega) (by omega)), ?_⟩ | refine hZ _ _ _ _ ⟨_, (by repeat (first | exact up_s | assumption | refine up_n (by omega) ?_)), adl (by omega), (by rfl), trivial, ?_⟩ | refine hZ _ _ _ _ ⟨trivial, ?_⟩ | refine hZ _ _ _ _ ?_)
    refine ⟨fun c => absurd rfl c, fun c => ?_⟩
    repeat (first | refine hZ _ _ _ _ ⟨rfl, ?_⟩ | refine hZ _ _ _ _ ⟨_, _, (by repeat (first | exact up_s | assumption | refine up_n (by omega) ?_)), adl (by omega), (by rfl), ?_⟩ | refine hZ _ _ _ _ ⟨_, _, (by repeat (first | exact up_s | assumption | refine up_n (by omega) ?_)), adl (by omega), (by first | assumption | exact vp_in_nI (by omega) (by omega)), ?_⟩ | refine hZ _ _ _ _ ⟨_, (by repeat (first | exact up_s | assumption | refine up_n (by omega) ?_)), adl (by omega), (by rfl), trivial, ?_⟩ | refine hZ _ _ _ _ ⟨trivial, ?_⟩ | refine hZ _ _ _ _ ?_)
    refine ⟨fun c => bad (fun z => by have := (nI_leI (by omega) (by omega)).mp c; omega), fun c => ?_⟩
    have hlt : at' < m := Nat.not_le.mp (fun z => c ((nI_leI (by omega) (by omega)).mpr z))
    repeat (first | refine hZ _ _ _ _ ⟨rfl, ?_⟩ | refine hZ _ _ _ _ ⟨_, _, (by repeat (first | exact up_s | assumption | refine up_n (by omega) ?_)), adl (by omega), (by rfl), ?_⟩ | refine hZ _ _ _ _ ⟨_, _, (by repeat (first | exact up_s | assumption | refine up_n (by omega) ?_)), adl (by omega), (by first | assumption | exact vp_in_nI (by omega) (by omega)), ?_⟩ | refine hZ _ _ _ _ ⟨_, (by repeat (first | exact up_s | assumption | refine up_n (by omega) ?_)), adl (by omega), (by rfl), trivial, ?_⟩ | refine hZ _ _ _ _ ⟨trivial, ?_⟩ | refine hZ _ _ _ _ ?_)
    rw [nI_clamp (by omega)]
    refine ⟨fun c => bad (fun z => Int32.not_lt.mpr z.2.2.1 c), fun c1 => ?_⟩
    repeat (first | refine hZ _ _ _ _ ⟨rfl, ?_⟩ | refine hZ _ _ _ _ ⟨_, _, (by repeat (first | exact up_s | assumption | refine up_n (by omega) ?_)), adl (by omega), (by rfl), ?_⟩ | refine hZ _ _ _ _ ⟨_, _, (by repeat (first | exact up_s | assumption | refine up_n (by omega) ?_)), adl (by omega), (by first | assumption | exact vp_in_nI (by omega) (by omega)), ?_⟩ | refine hZ _ _ _ _ ⟨_, (by repeat (first | exact up_s | assumption | refine up_n (by omega) ?_)), adl (by omega), (by rfl), trivial, ?_⟩ | refine hZ _ _ _ _ ⟨trivial, ?_⟩ | refine hZ _ _ _ _ ?_)
    rw [nI_clamp (by omega)]
    refine ⟨fun c2 => ?_, fun c2 => bad (fun z => c2 z.2.2.2)⟩
    iterate 12 (first | refine hZ _ _ _ _ ⟨rfl, ?_⟩ | refine hZ _ _ _ _ ⟨_, _, (by repeat (first | exact up_s | assumption | refine up_n (by omega) ?_)), adl (by omega), (by rfl), ?_⟩ | refine hZ _ _ _ _ ⟨_, _, (by repeat (first | exact up_s | assumption | refine up_n (by omega) ?_)), adl (by omega), (by first | assumption | exact vp_in_nI (by omega) (by omega)), ?_⟩ | refine hZ _ _ _ _ ⟨_, (by repeat (first | exact up_s | assumption | refine up_n (by omega) ?_)), adl (by omega), (by rfl), trivial, ?_⟩ | refine hZ _ _ _ _ ⟨trivial, ?_⟩ | refine hZ _ _ _ _ ?_)
    show Z _ 71 _ _
    have hnm : nI at' + Int32.ofInt 1 - Int32.ofInt 1 = nI at' := by rw [Int32.add_sub_cancel]
    rw [hnm]
    repeat (first | refine hZ _ _ _ _ ⟨rfl, ?_⟩ | refine hZ _ _ _ _ ⟨_, _, (by repeat (first | exact up_s | assumption | refine up_n (by omega) ?_)), adl (by omega), (by rfl), ?_⟩ | refine hZ _ _ _ _ ⟨_, _, (by repeat (first | exact up_s | assumption | refine up_n (by omega) ?_)), adl (by omega), (by first | assumption | exact vp_in_nI (by omega) (by omega)), ?_⟩ | refine hZ _ _ _ _ ⟨_, (by repeat (first | exact up_s | assumption | refine up_n (by omega) ?_)), adl (by omega), (by rfl), trivial, ?_⟩ | refine hZ _ _ _ _ ⟨trivial, ?_⟩ | refine hZ _ _ _ _ ?_)
    rw [nI_clamp (by omega), nI_inc]
    exact (hp _ (Fr.rf.up (by omega) (by omega))).1 ⟨rfl, hlt, Int32.not_lt.mp c1, c2⟩ ⟨hN, (by repeat (first | exact up_s | assumption | refine up_n (by omega) ?_)), (by repeat (first | exact up_s | assumption | refine up_n (by omega) ?_))⟩
theorem c_Reader_stepBack {l : Launch} {N : Nat} {h : AH} {r m at' : Nat} {wr : Bool} {cd : Nat → Int32} {P : Option Value → AH → Prop} (T : Tr N h r m wr (at' + 1) cd)
    (hp : ∀ h', Fr r (r + 1) h h' → Tr N h' r m true at' cd → P (some (.int 0)) h') : Sem l QX5_stepBack N h [.ref r] P := by
  obtain ⟨hN, h0, h1⟩ := T
  refine iX5_stepBack rfl ?_
  intro Z hZ
  iterate 8 (first | refine hZ _ _ _ _ ⟨rfl, ?_⟩ | refine hZ _ _ _ _ ⟨_, _, (by repeat (first | exact up_s | assumption | refine up_n (by omega) ?_)), adl (by omega), (by rfl), ?_⟩ | refine hZ _ _ _ _ ⟨_, _, (by repeat (first | exact up_s | assumption | refine up_n (by omega) ?_)), adl (by omega), (by first | assumption | exact vp_in_nI (by omega) (by omega)), ?_⟩ | refine hZ _ _ _ _ ⟨_, (by repeat (first | exact up_s | assumption | refine up_n (by omega) ?_)), adl (by omega), (by rfl), trivial, ?_⟩ | refine hZ _ _ _ _ ⟨trivial, ?_⟩ | refine hZ _ _ _ _ ?_)
  show Z _ 12 _ _
  rw [lit_1, pk_sub (by omega)]
  refine hZ _ _ _ _ ⟨_, (by repeat (first | exact up_s | assumption | refine up_n (by omega) ?_)), adl (by omega), rfl, Or.inr rfl, ?_⟩
  repeat (first | refine hZ _ _ _ _ ⟨rfl, ?_⟩ | refine hZ _ _ _ _ ⟨_, _, (by repeat (first | exact up_s | assumption | refine up_n (by omega) ?_)), adl (by omega), (by rfl), ?_⟩ | refine hZ _ _ _ _ ⟨_, _, (by repeat (first | exact up_s | assumption | refine up_n (by omega) ?_)), adl (by omega), (by first | assumption | exact vp_in_nI (by omega) (by omega)), ?_⟩ | refine hZ _ _ _ _ ⟨_, (by repeat (first | exact up_s | assumption | refine up_n (by omega) ?_)), adl (by omega), (by rfl), trivial, ?_⟩ | refine hZ _ _ _ _ ⟨trivial, ?_⟩ | refine hZ _ _ _ _ ?_)
  exact hp _ ((Fr.rf.up (by omega) (by omega)).up (by omega) (by omega)) ⟨hN, (by repeat (first | exact up_s | assumption | refine up_n (by omega) ?_)), (by repeat (first | exact up_s | assumption | refine up_n (by omega) ?_))⟩
theorem c_Reader_letter {l : Launch} {N : Nat} {h : AH} {r m at' : Nat} {wr : Bool} {cd : Nat → Int32} {P : Option Value → AH → Prop} (T : Tr N h r m wr at' cd) (hm : m ≤ 60) (ha : at' ≤ m)
    (hp : ∀ h', Fr r (r + 1) h h' → ((wr = false ∧ at' < m ∧ isLt (cd at') = true) → Tr N h' r m false (at' + 1) cd → P (some (.int (nI (ktL (cd at'))))) h') ∧ (¬ (wr = false ∧ at' < m ∧ isLt (cd at') = true) → Tr N h' r m true at' cd → ∀ v, v ≤ 2 → P (some (.int (nI v))) h')) : Sem l QX5_kindOfLetter N h [.ref r] P := by
  have T0 := T
  obtain ⟨hN, h0, h1⟩ := T
  refine iX5_kindOfLetter rfl ?_
  intro Z hZ
  iterate 3 (first | refine hZ _ _ _ _ ⟨rfl, ?_⟩ | refine hZ _ _ _ _ ⟨_, _, (by repeat (first | exact up_s | assumption | refine up_n (by omega) ?_)), adl (by omega), (by rfl), ?_⟩ | refine hZ _ _ _ _ ⟨_, _, (by repeat (first | exact up_s | assumption | refine up_n (by omega) ?_)), adl (by omega), (by first | assumption | exact vp_in_nI (by omega) (by omega)), ?_⟩ | refine hZ _ _ _ _ ⟨_, (by repeat (first | exact up_s | assumption | refine up_n (by omega) ?_)), adl (by omega), (by rfl), trivial, ?_⟩ | refine hZ _ _ _ _ ⟨trivial, ?_⟩ | refine hZ _ _ _ _ ?_)
  show Z _ 5 _ _
  refine hZ _ _ _ _ ⟨⟨_, (by repeat (first | exact up_s | assumption | refine up_n (by omega) ?_))⟩, adl (by omega), rfl, ?_⟩
  refine c_Reader_code T0 hm ha (fun h2 F => ⟨fun hg T2 => ?_, fun hb T2 => ?_⟩)
  · show Z _ 8 _ _
    have T3 := T2
    obtain ⟨-, g0, g1⟩ := T2
    repeat (first | refine hZ _ _ _ _ ⟨rfl, ?_⟩ | refine hZ _ _ _ _ ⟨_, _, (by repeat (first | exact up_s | assumption | refine up_n (by omega) ?_)), adl (by omega), (by rfl), ?_⟩ | refine hZ _ _ _ _ ⟨_, _, (by repeat (first | exact up_s | assumption | refine up_n (by omega) ?_)), adl (by omega), (by first | assumption | exact vp_in_nI (by omega) (by omega)), ?_⟩ | refine hZ _ _ _ _ ⟨_, (by repeat (first | exact up_s | assumption | refine up_n (by omega) ?_)), adl (by omega), (by rfl), trivial, ?_⟩ | refine hZ _ _ _ _ ⟨trivial, ?_⟩ | refine hZ _ _ _ _ ?_)
    refine ⟨fun c => ?_, fun c => ⟨fun c1 => ?_, fun c1 => ⟨fun c2 => ?_, fun c2 => ?_⟩⟩⟩
    · have e : cd at' = nI 98 := Int32.toInt_inj.mp c
      repeat (first | refine hZ _ _ _ _ ⟨rfl, ?_⟩ | refine hZ _ _ _ _ ⟨_, _, (by repeat (first | exact up_s | assumption | refine up_n (by omega) ?_)), adl (by omega), (by rfl), ?_⟩ | refine hZ _ _ _ _ ⟨_, _, (by repeat (first | exact up_s | assumption | refine up_n (by omega) ?_)), adl (by omega), (by first | assumption | exact vp_in_nI (by omega) (by omega)), ?_⟩ | refine hZ _ _ _ _ ⟨_, (by repeat (first | exact up_s | assumption | refine up_n (by omega) ?_)), adl (by omega), (by rfl), trivial, ?_⟩ | refine hZ _ _ _ _ ⟨trivial, ?_⟩ | refine hZ _ _ _ _ ?_)
      rw [lit_1]
      have := (hp h2 F).1 ⟨hg.1, hg.2.1, by simp [isLt, e]⟩ T3
      rw [e] at this
      exact this
    · have e : cd at' = nI 100 := Int32.toInt_inj.mp c1
      repeat (first | refine hZ _ _ _ _ ⟨rfl, ?_⟩ | refine hZ _ _ _ _ ⟨_, _, (by repeat (first | exact up_s | assumption | refine up_n (by omega) ?_)), adl (by omega), (by rfl), ?_⟩ | refine hZ _ _ _ _ ⟨_, _, (by repeat (first | exact up_s | assumption | refine up_n (by omega) ?_)), adl (by omega), (by first | assumption | exact vp_in_nI (by omega) (by omega)), ?_⟩ | refine hZ _ _ _ _ ⟨_, (by repeat (first | exact up_s | assumption | refine up_n (by omega) ?_)), adl (by omega), (by rfl), trivial, ?_⟩ | refine hZ _ _ _ _ ⟨trivial, ?_⟩ | refine hZ _ _ _ _ ?_)
      rw [lit_2]
      have := (hp h2 F).1 ⟨hg.1, hg.2.1, by simp [isLt, e]⟩ T3
      rw [e] at this
      exact this
    · have e : cd at' = nI 112 := Int32.toInt_inj.mp c2
      repeat (first | refine hZ _ _ _ _ ⟨rfl, ?_⟩ | refine hZ _ _ _ _ ⟨_, _, (by repeat (first | exact up_s | assumption | refine up_n (by omega) ?_)), adl (by omega), (by rfl), ?_⟩ | refine hZ _ _ _ _ ⟨_, _, (by repeat (first | exact up_s | assumption | refine up_n (by omega) ?_)), adl (by omega), (by first | assumption | exact vp_in_nI (by omega) (by omega)), ?_⟩ | refine hZ _ _ _ _ ⟨_, (by repeat (first | exact up_s | assumption | refine up_n (by omega) ?_)), adl (by omega), (by rfl), trivial, ?_⟩ | refine hZ _ _ _ _ ⟨trivial, ?_⟩ | refine hZ _ _ _ _ ?_)
      rw [lit_0]
      have := (hp h2 F).1 ⟨hg.1, hg.2.1, by simp [isLt, e]⟩ T3
      rw [e] at this
      exact this
    · iterate 1 (first | refine hZ _ _ _ _ ⟨rfl, ?_⟩ | refine hZ _ _ _ _ ⟨_, _, (by repeat (first | exact up_s | assumption | refine up_n (by omega) ?_)), adl (by omega), (by rfl), ?_⟩ | refine hZ _ _ _ _ ⟨_, _, (by repeat (first | exact up_s | assumption | refine up_n (by omega) ?_)), adl (by omega), (by first | assumption | exact vp_in_nI (by omega) (by omega)), ?_⟩ | refine hZ _ _ _ _ ⟨_, (by repeat (first | exact up_s | assumption | refine up_n (by omega) ?_)), adl (by omega), (by rfl), trivial, ?_⟩ | refine hZ _ _ _ _ ⟨trivial, ?_⟩ | refine hZ _ _ _ _ ?_)
      show Z _ 51 _ _
      refine hZ _ _ _ _ ⟨⟨_, (by repeat (first | exact up_s | assumption | refine up_n (by omega) ?_))⟩, adl (by omega), rfl, ?_⟩
      refine c_Reader_stepBack T3 (fun h4 F4 T4 => ?_)
      show Z _ 54 _ _
      repeat (first | refine hZ _ _ _ _ ⟨rfl, ?_⟩ | refine hZ _ _ _ _ ⟨_, _, (by repeat (first | exact up_s | assumption | refine up_n (by omega) ?_)), adl (by omega), (by rfl), ?_⟩ | refine hZ _ _ _ _ ⟨_, _, (by repeat (first | exact up_s | assumption | refine up_n (by omega) ?_)), adl (by omega), (by first | assumption | exact vp_in_nI (by omega) (by omega)), ?_⟩ | refine hZ _ _ _ _ ⟨_, (by repeat (first | exact up_s | assumption | refine up_n (by omega) ?_)), adl (by omega), (by rfl), trivial, ?_⟩ | refine hZ _ _ _ _ ⟨trivial, ?_⟩ | refine hZ _ _ _ _ ?_)
      refine (hp h4 (F.tr F4)).2 (fun z => ?_) T4 0 (by decide)
      have := z.2.2
      simp only [isLt, Bool.or_eq_true, decide_eq_true_eq] at this
      rcases this with (e | e) | e
      · exact c2 (by rw [e]; rfl)
      · exact c (by rw [e]; rfl)
      · exact c1 (by rw [e]; rfl)
  · show Z _ 8 _ _
    repeat (first | refine hZ _ _ _ _ ⟨rfl, ?_⟩ | refine hZ _ _ _ _ ⟨_, _, (by repeat (first | exact up_s | assumption | refine up_n (by omega) ?_)), adl (by omega), (by rfl), ?_⟩ | refine hZ _ _ _ _ ⟨_, _, (by repeat (first | exact up_s | assumption | refine up_n (by omega) ?_)), adl (by omega), (by first | assumption | exact vp_in_nI (by omega) (by omega)), ?_⟩ | refine hZ _ _ _ _ ⟨_, (by repeat (first | exact up_s | assumption | refine up_n (by omega) ?_)), adl (by omega), (by rfl), trivial, ?_⟩ | refine hZ _ _ _ _ ⟨trivial, ?_⟩ | refine hZ _ _ _ _ ?_)
    refine ⟨fun c => ?_, fun c => absurd rfl c⟩
    repeat (first | refine hZ _ _ _ _ ⟨rfl, ?_⟩ | refine hZ _ _ _ _ ⟨_, _, (by repeat (first | exact up_s | assumption | refine up_n (by omega) ?_)), adl (by omega), (by rfl), ?_⟩ | refine hZ _ _ _ _ ⟨_, _, (by repeat (first | exact up_s | assumption | refine up_n (by omega) ?_)), adl (by omega), (by first | assumption | exact vp_in_nI (by omega) (by omega)), ?_⟩ | refine hZ _ _ _ _ ⟨_, (by repeat (first | exact up_s | assumption | refine up_n (by omega) ?_)), adl (by omega), (by rfl), trivial, ?_⟩ | refine hZ _ _ _ _ ⟨trivial, ?_⟩ | refine hZ _ _ _ _ ?_)
    refine (hp h2 F).2 (fun z => hb ⟨z.1, z.2.1, ?_⟩) T2 1 (by decide)
    have := z.2.2
    simp only [isLt, Bool.or_eq_true, decide_eq_true_eq] at this
    rcases this with (e | e) | e <;> rw [e] <;> decide
