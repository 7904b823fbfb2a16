/-! ===== two columns change places ===== -/
def swc (p q : Nat) (j : Nat) : Nat := if j = p then q else if j = q then p else j
set_option maxRecDepth 1000000 in
set_option maxHeartbeats 4000000 in
theorem dF_sw20 (R : Nat → Nat → Int) : dF 2 (fun i j => R i (swc 0 1 j)) = - dF 2 R := by
  simp [dF, d1, d2, d3, d4, d5, swc]
  try grind
set_option maxRecDepth 1000000 in
set_option maxHeartbeats 4000000 in
theorem dF_sw30 (R : Nat → Nat → Int) : dF 3 (fun i j => R i (swc 0 2 j)) = - dF 3 R := by
  simp [dF, d1, d2, d3, d4, d5, swc]
  try grind
set_option maxRecDepth 1000000 in
set_option maxHeartbeats 4000000 in
theorem dF_sw31 (R : Nat → Nat → Int) : dF 3 (fun i j => R i (swc 1 2 j)) = - dF 3 R := by
  simp [dF, d1, d2, d3, d4, d5, swc]
  try grind
set_option maxRecDepth 1000000 in
set_option maxHeartbeats 4000000 in
theorem dF_sw40 (R : Nat → Nat → Int) : dF 4 (fun i j => R i (swc 0 3 j)) = - dF 4 R := by
  simp [dF, d1, d2, d3, d4, d5, swc]
  try grind
set_option maxRecDepth 1000000 in
set_option maxHeartbeats 4000000 in
theorem dF_sw41 (R : Nat → Nat → Int) : dF 4 (fun i j => R i (swc 1 3 j)) = - dF 4 R := by
  simp [dF, d1, d2, d3, d4, d5, swc]
  try grind
set_option maxRecDepth 1000000 in
set_option maxHeartbeats 4000000 in
theorem dF_sw42 (R : Nat → Nat → Int) : dF 4 (fun i j => R i (swc 2 3 j)) = - dF 4 R := by
  simp [dF, d1, d2, d3, d4, d5, swc]
  try grind
set_option maxRecDepth 1000000 in
set_option maxHeartbeats 4000000 in
theorem dF_sw50 (R : Nat → Nat → Int) : dF 5 (fun i j => R i (swc 0 4 j)) = - dF 5 R := by
  simp [dF, d1, d2, d3, d4, d5, swc]
  try grind
set_option maxRecDepth 1000000 in
set_option maxHeartbeats 4000000 in
theorem dF_sw51 (R : Nat → Nat → Int) : dF 5 (fun i j => R i (swc 1 4 j)) = - dF 5 R := by
  simp [dF, d1, d2, d3, d4, d5, swc]
  try grind
set_option maxRecDepth 1000000 in
set_option maxHeartbeats 4000000 in
theorem dF_sw52 (R : Nat → Nat → Int) : dF 5 (fun i j => R i (swc 2 4 j)) = - dF 5 R := by
  simp [dF, d1, d2, d3, d4, d5, swc]
  try grind
set_option maxRecDepth 1000000 in
set_option maxHeartbeats 4000000 in
theorem dF_sw53 (R : Nat → Nat → Int) : dF 5 (fun i j => R i (swc 3 4 j)) = - dF 5 R := by
  simp [dF, d1, d2, d3, d4, d5, swc]
  try grind
theorem dF_sw {n p : Nat} (h1 : 2 ≤ n) (h2 : n ≤ 5) (hp : p < n - 1) (R : Nat → Nat → Int) : dF n (fun i j => R i (swc p (n - 1) j)) = - dF n R := by
  have hn : n = 2 ∨ n = 3 ∨ n = 4 ∨ n = 5 := by omega
  have hq : p = 0 ∨ p = 1 ∨ p = 2 ∨ p = 3 := by omega
  rcases hn with e | e | e | e <;> subst e <;> rcases hq with e | e | e | e <;> subst e <;> first | (exfalso; omega) | exact dF_sw20 R | exact dF_sw30 R | exact dF_sw31 R | exact dF_sw40 R | exact dF_sw41 R | exact dF_sw42 R | exact dF_sw50 R | exact dF_sw51 R | exact dF_sw52 R | exact dF_sw53 R
theorem dF_last {n : Nat} (h1 : 2 ≤ n) (h2 : n ≤ 5) {M : Nat → Nat → Int} {C : Nat} (hM : ∀ i j, i < n → j < n - 1 → (M i j).natAbs ≤ 18) (hC : ∀ i, i < n → (M i (n - 1)).natAbs ≤ C) : (dF n M).natAbs ≤ cB (n - 1) * C := by
  have := mn_bd (n := n) (k := n - 1) (R := fun i j => if j < n - 1 then M i j else if j = n then M i (n - 1) else 0) (p := n - 1) (q := n) (C := C) h2 (fun p q hp hq => by
    split
    · next g => exact hM p q hp g
    · rw [if_neg (by omega)]; decide) (by omega) (by omega) (fun i hi => by
    rw [if_neg (by omega), if_pos rfl]
    exact hC i hi)
  have e : mn (n - 1) (fun i j => if j < n - 1 then M i j else if j = n then M i (n - 1) else 0) (n - 1) n = dF n M := by
    unfold mn
    rw [show n - 1 + 1 = n by omega]
    refine dF_congr h2 (fun i j hi hj => ?_)
    dsimp only
    have ei : (if i < n - 1 then i else n - 1) = i := by split <;> omega
    rw [ei]
    by_cases g : j < n - 1
    · rw [if_pos g, if_pos g]
    · rw [if_neg g, if_neg (by omega), if_pos rfl, show j = n - 1 by omega]
  rw [e] at this
  exact this
theorem det_bd {n p : Nat} (h1 : 2 ≤ n) (h2 : n ≤ 5) (hp : p < n) {R : Nat → Nat → Int} (hB : Bdd n R) : (dF n (upC R p (fun i => R i n))).natAbs ≤ 755827200000 := by
  have hc : cB (n - 1) ≤ 12597120 := by
    have hn : n = 2 ∨ n = 3 ∨ n = 4 ∨ n = 5 := by omega
    rcases hn with e | e | e | e <;> subst e <;> decide
  have fin : ∀ M : Nat → Nat → Int, (∀ i j, i < n → j < n - 1 → (M i j).natAbs ≤ 18) → (∀ i, i < n → (M i (n - 1)).natAbs ≤ 60000) → (dF n M).natAbs ≤ 755827200000 := by
    intro M a1 a2
    have := dF_last h1 h2 a1 a2
    omega
  rcases Nat.lt_or_ge p (n - 1) with g | g
  · have := fin (fun i j => upC R p (fun i => R i n) i (swc p (n - 1) j)) (fun i j hi hj => ?_) (fun i hi => ?_)
    · rw [dF_sw h1 h2 g, Int.natAbs_neg] at this
      exact this
    · show (upC R p (fun i => R i n) i (swc p (n - 1) j)).natAbs ≤ 18
      by_cases e1 : j = p
      · rw [show swc p (n - 1) j = n - 1 from if_pos e1, show upC R p (fun i => R i n) i (n - 1) = R i (n - 1) from if_neg (by omega)]
        exact hB.1 i (n - 1) hi (by omega)
      · rw [show swc p (n - 1) j = j from (if_neg e1).trans (if_neg (by omega)), show upC R p (fun i => R i n) i j = R i j from if_neg e1]
        exact hB.1 i j hi (by omega)
    · show (upC R p (fun i => R i n) i (swc p (n - 1) (n - 1))).natAbs ≤ 60000
      rw [show swc p (n - 1) (n - 1) = p from (if_neg (by omega)).trans (if_pos rfl), show upC R p (fun i => R i n) i p = R i n from if_pos rfl]
      exact hB.2 i hi
  · refine fin _ (fun i j hi hj => ?_) (fun i hi => ?_)
    · unfold upC
      rw [if_neg (by omega)]
      exact hB.1 i j hi (by omega)
    · unfold upC
      rw [if_pos (by omega)]
      exact hB.2 i hi
/-- a whole solution of the square -/
def WA (n : Nat) (R : Nat → Nat → Int) : Prop := ∃ x : Nat → Int, ∀ i, i < n → sI (fun q => R i q * x q) n = R i n
def xX (n : Nat) (x : Nat → Int) : Nat → Int := fun q => if q = n then -1 else x q
theorem Lk_xX {n k : Nat} {R : Nat → Nat → Int} {p : Nat} {x : Nat → Int} (h : k ≤ n) : Lk n k R p (xX n x) = sI (fun j => mn k R p (k + j) * x (k + j)) (n - k) - mn k R p n := by
  unfold Lk
  rw [show n + 1 - k = (n - k) + 1 by omega]
  show sI _ (n - k) + mn k R p (k + (n - k)) * xX n x (k + (n - k)) = _
  rw [show k + (n - k) = n by omega, show xX n x n = -1 from if_pos rfl, sI_congr (g := fun j => mn k R p (k + j) * x (k + j)) (fun j hj => by rw [show xX n x (k + j) = x (k + j) from if_neg (by omega)])]
  omega
theorem WA_iff {n : Nat} {R : Nat → Nat → Int} (h2 : n ≤ 5) (hp : ∀ k, k < n → 0 < mn k R k k) : WA n R ↔ ∃ x, ∀ r, r < n → Lk n r R r (xX n x) = 0 := by
  unfold WA
  constructor
  · rintro ⟨x, hx⟩
    refine ⟨x, (sol_iff h2 hp _).mp (fun p hpn => ?_)⟩
    rw [Lk_xX (Nat.zero_le _), Nat.sub_zero, mn_0, sI_congr (f := fun j => mn 0 R p (0 + j) * x (0 + j)) (g := fun q => R p q * x q) (fun j _ => by rw [Nat.zero_add, mn_0]), hx p hpn]
    omega
  · rintro ⟨x, hx⟩
    refine ⟨x, fun i hi => ?_⟩
    have := (sol_iff h2 hp _).mpr hx i hi
    rw [Lk_xX (Nat.zero_le _), Nat.sub_zero, mn_0, sI_congr (f := fun j => mn 0 R i (0 + j) * x (0 + j)) (g := fun q => R i q * x q) (fun j _ => by rw [Nat.zero_add, mn_0])] at this
    omega
/-- the lower rows fix the lower part of a solution -/
theorem low_uniq {n : Nat} {R : Nat → Nat → Int} (hp : ∀ k, k < n → 0 < mn k R k k) {i : Nat} {x : Nat → Int} (hx : ∀ r, i ≤ r → r < n → Lk n r R r (xX n x) = 0) {X : Nat → Int} (hX : ∀ r, i ≤ r → r < n → Lk n r R r X = 0) : ∀ e q, q + e = n → i ≤ q → X q = - X n * xX n x q := by
  intro e
  induction e using Nat.strongRecOn with
  | ind e ih =>
    intro q hq hi
    rcases Nat.eq_zero_or_pos e with z | z
    · have : q = n := by omega
      rw [this, show xX n x n = -1 from if_pos rfl]
      omega
    · have h1 := hX q hi (by omega)
      have h2 := hx q hi (by omega)
      rw [Lk_first (by omega)] at h1 h2
      have e1 : sI (fun j => mn q R q (q + 1 + j) * X (q + 1 + j)) (n + 1 - (q + 1)) = - X n * sI (fun j => mn q R q (q + 1 + j) * xX n x (q + 1 + j)) (n + 1 - (q + 1)) := by
        rw [← sI_mul]
        refine sI_congr (fun j hj => ?_)
        rw [ih (n - (q + 1 + j)) (by omega) (q + 1 + j) (by omega) (by omega), ← Int.mul_assoc, ← Int.mul_assoc, Int.mul_comm (mn q R q (q + 1 + j))]
      rw [e1] at h1
      have pv := hp q (by omega)
      have e2 : mn q R q q * X q = mn q R q q * (- X n * xX n x q) := by
        have : - X n * (mn q R q q * xX n x q) + - X n * sI (fun j => mn q R q (q + 1 + j) * xX n x (q + 1 + j)) (n + 1 - (q + 1)) = 0 := by rw [← Int.mul_add, h2, Int.mul_zero]
        rw [← Int.mul_assoc, Int.mul_comm (mn q R q q) (- X n), Int.mul_assoc]
        omega
      exact Int.eq_of_mul_eq_mul_left (by omega) e2
theorem low_bd {n : Nat} {R : Nat → Nat → Int} (h1 : 2 ≤ n) (h2 : n ≤ 5) (hB : Bdd n R) (hp : ∀ k, k < n → 0 < mn k R k k) {i : Nat} {x : Nat → Int} (hx : ∀ r, i ≤ r → r < n → Lk n r R r (xX n x) = 0) {q : Nat} (hi : i ≤ q) (hq : q < n) : (x q).natAbs ≤ 755827200000 := by
  obtain ⟨X, hX, hs⟩ := sol_frac hp
  have hs0 := (sol_iff h2 hp X).mpr hs
  have hz : ∀ i, i < n → sI (fun q => R i q * X q) n = - X n * R i n := by
    intro i hi
    have := hs0 i hi
    unfold Lk at this
    rw [show n + 1 - 0 = n + 1 from rfl] at this
    have e : sI (fun j => mn 0 R i (0 + j) * X (0 + j)) (n + 1) = sI (fun q => R i q * X q) n + R i n * X n := by
      show sI _ n + mn 0 R i (0 + n) * X (0 + n) = _
      rw [Nat.zero_add, mn_0]
      congr 1
      exact sI_congr (fun j _ => by rw [Nat.zero_add, mn_0])
    rw [e] at this
    rw [Int.neg_mul, Int.mul_comm (X n)]
    omega
  have hc := cramer h1 h2 hq R (fun i => R i n) X (- X n) hz
  have hu := low_uniq hp hx (fun r _ h => hs r h) (n - q) q (by omega) hi
  rw [show xX n x q = x q from if_neg (by omega)] at hu
  rw [hu, Int.mul_assoc] at hc
  have hc2 := Int.eq_of_mul_eq_mul_left (show - X n ≠ 0 by omega) hc
  have hd : 0 < dF n R := by
    have := hp (n - 1) (by omega)
    rw [mn_det (by omega) h2] at this
    exact this
  have hb := det_bd h1 h2 hq hB
  rw [hc2, Int.natAbs_mul] at hb
  have : (x q).natAbs * 1 ≤ (x q).natAbs * (dF n R).natAbs := Nat.mul_le_mul_left _ (by omega)
  omega
set_option maxHeartbeats 4000000 in
theorem c_Eq_whole {l : Launch} {N : Nat} {h : AH} {e n : Nat} {Rw : Nat → Nat → Int64} {an : Nat → Int64} {R : Nat → Nat → Int} {P : Option Value → AH → Prop} (E : EqO N h e (nI n) Rw an) (hn : n ≤ 5) (hn2 : 2 ≤ n) (hB : Bdd n R) (hpv : ∀ k, k < n → 0 < mn k R k k) (hR : ∀ p q, p < n → p ≤ q → q ≤ n → Rw p q = lI (mn p R p q))
    (hp : ∀ h' an', EqO N h' e (nI n) Rw an' → Fr e (e + 8) h h' → P (some (.int (cb (WA n R)))) h') : Sem l QX0_haveWholeAnswer N h [.ref e] P := by
  refine iX0_haveWholeAnswer rfl ?_
  intro Z hZ
  have outer : ∀ i h1 an1 x v o2 o3 o4 o5, i ≤ n → v = nI i - 1 → EqO N h1 e (nI n) Rw an1 → (∀ q, i ≤ q → q < n → an1 q = lI (x q)) → (∀ r, i ≤ r → r < n → Lk n r R r (xX n x) = 0) → Fr e (e + 8) h h1 → Z h1 7 [some (.ref e), some (.int v), o2, o3, o4, o5] [] := by
    intro i
    induction i with
    | zero =>
      intro h1 an1 x v o2 o3 o4 o5 _ hv E1 hx hs F
      subst hv
      repeat (first | refine hZ _ _ _ _ ⟨rfl, ?_⟩ | refine hZ _ _ _ _ ⟨_, _, (by repeat (first | exact up_s | assumption | refine up_n (by omega) ?_)), adl (by omega), (by rfl), ?_⟩ | refine hZ _ _ _ _ ⟨_, _, (by repeat (first | exact up_s | assumption | refine up_n (by omega) ?_)), adl (by omega), (by first | assumption | exact vp_in_nI (by omega) (by omega)), ?_⟩ | refine hZ _ _ _ _ ⟨_, (by repeat (first | exact up_s | assumption | refine up_n (by omega) ?_)), adl (by omega), (by rfl), trivial, ?_⟩ | refine hZ _ _ _ _ ⟨trivial, ?_⟩ | refine hZ _ _ _ _ ⟨_, _, _, _, (by repeat (first | exact up_s | assumption | refine up_n (by omega) ?_)), (by first | exact Or.inr (Or.inr rfl) | exact Or.inr (Or.inl rfl) | exact Or.inl rfl), adl (by omega), (by first | assumption | exact vp_in_nI (by omega) (by omega)), rowsF_at (by omega), ?_⟩ | refine hZ _ _ _ _ ?_)
      refine ⟨fun c => ?_, fun c => absurd (by decide) c⟩
      repeat (first | refine hZ _ _ _ _ ⟨rfl, ?_⟩ | refine hZ _ _ _ _ ⟨_, _, (by repeat (first | exact up_s | assumption | refine up_n (by omega) ?_)), adl (by omega), (by rfl), ?_⟩ | refine hZ _ _ _ _ ⟨_, _, (by repeat (first | exact up_s | assumption | refine up_n (by omega) ?_)), adl (by omega), (by first | assumption | exact vp_in_nI (by omega) (by omega)), ?_⟩ | refine hZ _ _ _ _ ⟨_, (by repeat (first | exact up_s | assumption | refine up_n (by omega) ?_)), adl (by omega), (by rfl), trivial, ?_⟩ | refine hZ _ _ _ _ ⟨trivial, ?_⟩ | refine hZ _ _ _ _ ⟨_, _, _, _, (by repeat (first | exact up_s | assumption | refine up_n (by omega) ?_)), (by first | exact Or.inr (Or.inr rfl) | exact Or.inr (Or.inl rfl) | exact Or.inl rfl), adl (by omega), (by first | assumption | exact vp_in_nI (by omega) (by omega)), rowsF_at (by omega), ?_⟩ | refine hZ _ _ _ _ ?_)
      have := hp h1 an1 E1 F
      rw [cb_t ((WA_iff hn hpv).mpr ⟨x, fun r hr => hs r (Nat.zero_le _) hr⟩)] at this
      exact this
    | succ p ih =>
      intro h1 an1 x v o2 o3 o4 o5 hin hv E1 hx hs F
      have hpn : p < n := by omega
      have hv : v = nI p := by rw [hv, nI_pred]
      subst hv
      have E10 := E1
      obtain ⟨eN, e0, e1, e2, e3⟩ := E1
      have rp := e2 p (by omega)
      -- the rest, behind the inner loop
      have rest : ∀ y o4 o5, y = mn p R p n - sI (fun j => mn p R p (p + 1 + j) * x (p + 1 + j)) (n - (p + 1)) → Z h1 63 [some (.ref e), some (.int (nI p)), some (.long (lI y)), none, o4, o5] [] := by
        intro y o4 o5 hy
        have pv := hpv p hpn
        have hbp := mn_b2 (k := p) (p := p) (q := p) hn hB hpn hpn hpn
        have hbn := mn_b1 (k := p) (p := p) (q := n) hn hB hpn hpn (Nat.le_refl n)
        have cB5 : cB p ≤ 12597120 := by
          have : p = 0 ∨ p = 1 ∨ p = 2 ∨ p = 3 ∨ p = 4 := by omega
          rcases this with z | z | z | z | z <;> subst z <;> decide
        have hyb : y.natAbs < 2 ^ 63 := by
          rw [hy]
          have hsum : ∀ m, m ≤ n - (p + 1) → (sI (fun j => mn p R p (p + 1 + j) * x (p + 1 + j)) m).natAbs ≤ m * 1904249187532800000 := by
            intro m
            induction m with
            | zero => intro _; exact Nat.le_refl 0
            | succ m ihm =>
              intro hm
              have q1 := ihm (by omega)
              have hp3 : p ≤ 3 := by omega
              have q2 := mn_b2 (k := p) (p := p) (q := p + 1 + m) hn hB hpn hpn (by omega)
              have q3 := cB_le hp3
              have q4 := low_bd hn2 hn hB hpv hs (q := p + 1 + m) (by omega) (by omega)
              have q5 := ab_mul (show (mn p R p (p + 1 + m)).natAbs ≤ 2519424 by omega) q4
              have q6 := ab_add q1 q5
              show (sI _ m + mn p R p (p + 1 + m) * x (p + 1 + m)).natAbs ≤ _
              omega
          have q1 := hsum (n - (p + 1)) (Nat.le_refl _)
          have q2 := ab_sub hbn q1
          have : n - (p + 1) ≤ 4 := by omega
          have : (n - (p + 1)) * 1904249187532800000 ≤ 4 * 1904249187532800000 := Nat.mul_le_mul_right _ this
          omega
        iterate 7 (first | refine hZ _ _ _ _ ⟨rfl, ?_⟩ | refine hZ _ _ _ _ ⟨_, _, (by repeat (first | exact up_s | assumption | refine up_n (by omega) ?_)), adl (by omega), (by rfl), ?_⟩ | refine hZ _ _ _ _ ⟨_, _, (by repeat (first | exact up_s | assumption | refine up_n (by omega) ?_)), adl (by omega), (by first | assumption | exact vp_in_nI (by omega) (by omega)), ?_⟩ | refine hZ _ _ _ _ ⟨_, (by repeat (first | exact up_s | assumption | refine up_n (by omega) ?_)), adl (by omega), (by rfl), trivial, ?_⟩ | refine hZ _ _ _ _ ⟨trivial, ?_⟩ | refine hZ _ _ _ _ ⟨_, _, _, _, (by repeat (first | exact up_s | assumption | refine up_n (by omega) ?_)), (by first | exact Or.inr (Or.inr rfl) | exact Or.inr (Or.inl rfl) | exact Or.inl rfl), adl (by omega), (by first | assumption | exact vp_in_nI (by omega) (by omega)), rowsF_at (by omega), ?_⟩ | refine hZ _ _ _ _ ?_)
        show Z _ 73 _ _
        rw [nI_clamp (by omega), hR p p hpn (Nat.le_refl p) (by omega)]
        repeat (first | refine hZ _ _ _ _ ⟨rfl, ?_⟩ | refine hZ _ _ _ _ ⟨_, _, (by repeat (first | exact up_s | assumption | refine up_n (by omega) ?_)), adl (by omega), (by rfl), ?_⟩ | refine hZ _ _ _ _ ⟨_, _, (by repeat (first | exact up_s | assumption | refine up_n (by omega) ?_)), adl (by omega), (by first | assumption | exact vp_in_nI (by omega) (by omega)), ?_⟩ | refine hZ _ _ _ _ ⟨_, (by repeat (first | exact up_s | assumption | refine up_n (by omega) ?_)), adl (by omega), (by rfl), trivial, ?_⟩ | refine hZ _ _ _ _ ⟨trivial, ?_⟩ | refine hZ _ _ _ _ ⟨_, _, _, _, (by repeat (first | exact up_s | assumption | refine up_n (by omega) ?_)), (by first | exact Or.inr (Or.inr rfl) | exact Or.inr (Or.inl rfl) | exact Or.inl rfl), adl (by omega), (by first | assumption | exact vp_in_nI (by omega) (by omega)), rowsF_at (by omega), ?_⟩ | refine hZ _ _ _ _ ?_)
        rw [lI_0]
        refine ⟨fun c => absurd c (lcmp_ne (by omega) (by omega)), fun c => ?_⟩
        iterate 2 (first | refine hZ _ _ _ _ ⟨rfl, ?_⟩ | refine hZ _ _ _ _ ⟨_, _, (by repeat (first | exact up_s | assumption | refine up_n (by omega) ?_)), adl (by omega), (by rfl), ?_⟩ | refine hZ _ _ _ _ ⟨_, _, (by repeat (first | exact up_s | assumption | refine up_n (by omega) ?_)), adl (by omega), (by first | assumption | exact vp_in_nI (by omega) (by omega)), ?_⟩ | refine hZ _ _ _ _ ⟨_, (by repeat (first | exact up_s | assumption | refine up_n (by omega) ?_)), adl (by omega), (by rfl), trivial, ?_⟩ | refine hZ _ _ _ _ ⟨trivial, ?_⟩ | refine hZ _ _ _ _ ⟨_, _, _, _, (by repeat (first | exact up_s | assumption | refine up_n (by omega) ?_)), (by first | exact Or.inr (Or.inr rfl) | exact Or.inr (Or.inl rfl) | exact Or.inl rfl), adl (by omega), (by first | assumption | exact vp_in_nI (by omega) (by omega)), rowsF_at (by omega), ?_⟩ | refine hZ _ _ _ _ ?_)
        show Z _ 83 _ _
        refine hZ _ _ _ _ ⟨fun z => ?_, ?_⟩
        · have := (lI_eq (by omega) (by decide)).mp (show lI (mn p R p p) = lI 0 from z)
          omega
        rw [lI_div hyb (by omega), lI_mul, lI_sub]
        have hrem : y - y.tdiv (mn p R p p) * mn p R p p = y.tmod (mn p R p p) := by
          rw [Int.tmod_def, Int.mul_comm]
        rw [hrem]
        have hrb : (y.tmod (mn p R p p)).natAbs < 2 ^ 63 := by
          have := Int.natAbs_tmod y (mn p R p p)
          have h9 := Nat.mod_le y.natAbs (mn p R p p).natAbs
          omega
        repeat (first | refine hZ _ _ _ _ ⟨rfl, ?_⟩ | refine hZ _ _ _ _ ⟨_, _, (by repeat (first | exact up_s | assumption | refine up_n (by omega) ?_)), adl (by omega), (by rfl), ?_⟩ | refine hZ _ _ _ _ ⟨_, _, (by repeat (first | exact up_s | assumption | refine up_n (by omega) ?_)), adl (by omega), (by first | assumption | exact vp_in_nI (by omega) (by omega)), ?_⟩ | refine hZ _ _ _ _ ⟨_, (by repeat (first | exact up_s | assumption | refine up_n (by omega) ?_)), adl (by omega), (by rfl), trivial, ?_⟩ | refine hZ _ _ _ _ ⟨trivial, ?_⟩ | refine hZ _ _ _ _ ⟨_, _, _, _, (by repeat (first | exact up_s | assumption | refine up_n (by omega) ?_)), (by first | exact Or.inr (Or.inr rfl) | exact Or.inr (Or.inl rfl) | exact Or.inl rfl), adl (by omega), (by first | assumption | exact vp_in_nI (by omega) (by omega)), rowsF_at (by omega), ?_⟩ | refine hZ _ _ _ _ ?_)
        rw [lI_0]
        by_cases hdv : y.tmod (mn p R p p) = 0
        · rw [hdv]
          refine ⟨fun c => ?_, fun c => absurd lcmp_eq c⟩
          obtain ⟨t, ht⟩ := Int.dvd_of_tmod_eq_zero hdv
          iterate 5 (first | refine hZ _ _ _ _ ⟨rfl, ?_⟩ | refine hZ _ _ _ _ ⟨_, _, (by repeat (first | exact up_s | assumption | refine up_n (by omega) ?_)), adl (by omega), (by rfl), ?_⟩ | refine hZ _ _ _ _ ⟨_, _, (by repeat (first | exact up_s | assumption | refine up_n (by omega) ?_)), adl (by omega), (by first | assumption | exact vp_in_nI (by omega) (by omega)), ?_⟩ | refine hZ _ _ _ _ ⟨_, (by repeat (first | exact up_s | assumption | refine up_n (by omega) ?_)), adl (by omega), (by rfl), trivial, ?_⟩ | refine hZ _ _ _ _ ⟨trivial, ?_⟩ | refine hZ _ _ _ _ ⟨_, _, _, _, (by repeat (first | exact up_s | assumption | refine up_n (by omega) ?_)), (by first | exact Or.inr (Or.inr rfl) | exact Or.inr (Or.inl rfl) | exact Or.inl rfl), adl (by omega), (by first | assumption | exact vp_in_nI (by omega) (by omega)), rowsF_at (by omega), ?_⟩ | refine hZ _ _ _ _ ?_)
          show Z _ 99 _ _
          refine hZ _ _ _ _ ⟨fun z => ?_, ?_⟩
          · have := (lI_eq (by omega) (by decide)).mp (show lI (mn p R p p) = lI 0 from z)
            omega
          rw [lI_div hyb (by omega), ht, Int.mul_tdiv_cancel_left _ (by omega)]
          iterate 3 (first | refine hZ _ _ _ _ ⟨rfl, ?_⟩ | refine hZ _ _ _ _ ⟨_, _, (by repeat (first | exact up_s | assumption | refine up_n (by omega) ?_)), adl (by omega), (by rfl), ?_⟩ | refine hZ _ _ _ _ ⟨_, _, (by repeat (first | exact up_s | assumption | refine up_n (by omega) ?_)), adl (by omega), (by first | assumption | exact vp_in_nI (by omega) (by omega)), ?_⟩ | refine hZ _ _ _ _ ⟨_, (by repeat (first | exact up_s | assumption | refine up_n (by omega) ?_)), adl (by omega), (by rfl), trivial, ?_⟩ | refine hZ _ _ _ _ ⟨trivial, ?_⟩ | refine hZ _ _ _ _ ⟨_, _, _, _, (by repeat (first | exact up_s | assumption | refine up_n (by omega) ?_)), (by first | exact Or.inr (Or.inr rfl) | exact Or.inr (Or.inl rfl) | exact Or.inl rfl), adl (by omega), (by first | assumption | exact vp_in_nI (by omega) (by omega)), rowsF_at (by omega), ?_⟩ | refine hZ _ _ _ _ ?_)
          show Z _ 7 _ _
          rw [nI_clamp (by omega)]
          refine ih _ _ (fun q => if q = p then t else x q) _ _ _ _ _ (by omega) (by rw [lit_m1, Int32.sub_eq_add_neg]) ⟨eN, (by repeat (first | exact up_s | assumption | refine up_n (by omega) ?_)), (by repeat (first | exact up_s | assumption | refine up_n (by omega) ?_)), fun i hi => up_n (by omega) (e2 i hi), (by repeat (first | exact up_s | assumption | refine up_n (by omega) ?_))⟩ (fun q q1 q2 => ?_) (fun r q1 q2 => ?_) (F.up (by omega) (by omega))
          · by_cases z : q = p
            · rw [z, pk_uLs, if_pos rfl]
            · rw [pk_uLn z, if_neg z]; exact hx q (by omega) q2
          · rw [Lk_xX (by omega)]
            rcases Nat.lt_or_ge p r with g | g
            · have := hs r (by omega) q2
              rw [Lk_xX (by omega)] at this
              rw [sI_congr (g := fun j => mn r R r (r + j) * x (r + j)) (fun j _ => by rw [if_neg (by omega)])]
              exact this
            · have hrp : r = p := by omega
              subst hrp
              rw [show n - r = (n - (r + 1)) + 1 by omega, sI_first]
              rw [sI_congr (g := fun j => mn r R r (r + 1 + j) * x (r + 1 + j)) (fun j _ => by rw [if_neg (by omega), show r + (j + 1) = r + 1 + j by omega])]
              show mn r R r (r + 0) * (if r + 0 = r then t else x (r + 0)) + _ - _ = 0
              rw [Nat.add_zero, if_pos rfl]
              omega
        · refine ⟨fun c => absurd c (lcmp_ne hrb hdv), fun c => ?_⟩
          repeat (first | refine hZ _ _ _ _ ⟨rfl, ?_⟩ | refine hZ _ _ _ _ ⟨_, _, (by repeat (first | exact up_s | assumption | refine up_n (by omega) ?_)), adl (by omega), (by rfl), ?_⟩ | refine hZ _ _ _ _ ⟨_, _, (by repeat (first | exact up_s | assumption | refine up_n (by omega) ?_)), adl (by omega), (by first | assumption | exact vp_in_nI (by omega) (by omega)), ?_⟩ | refine hZ _ _ _ _ ⟨_, (by repeat (first | exact up_s | assumption | refine up_n (by omega) ?_)), adl (by omega), (by rfl), trivial, ?_⟩ | refine hZ _ _ _ _ ⟨trivial, ?_⟩ | refine hZ _ _ _ _ ⟨_, _, _, _, (by repeat (first | exact up_s | assumption | refine up_n (by omega) ?_)), (by first | exact Or.inr (Or.inr rfl) | exact Or.inr (Or.inl rfl) | exact Or.inl rfl), adl (by omega), (by first | assumption | exact vp_in_nI (by omega) (by omega)), rowsF_at (by omega), ?_⟩ | refine hZ _ _ _ _ ?_)
          have res := hp h1 an1 E10 F
          rw [cb_f (fun hw => ?_)] at res
          · exact res
          · obtain ⟨z, hz⟩ := (WA_iff hn hpv).mp hw
            -- below, z is x
            have same : ∀ q, p + 1 ≤ q → q < n → z q = x q := by
              intro q q1 q2
              have := low_uniq hpv (fun r h1 h2 => hs r h1 h2) (X := xX n z) (fun r _ h => hz r h) (n - q) q (by omega) q1
              rw [show xX n z q = z q from if_neg (by omega), show xX n x q = x q from if_neg (by omega), show xX n z n = -1 from if_pos rfl] at this
              omega
            have hzp := hz p hpn
            rw [Lk_xX (by omega), show n - p = (n - (p + 1)) + 1 by omega, sI_first] at hzp
            rw [sI_congr (g := fun j => mn p R p (p + 1 + j) * x (p + 1 + j)) (fun j hj => by rw [show p + (j + 1) = p + 1 + j by omega, same (p + 1 + j) (by omega) (by omega)])] at hzp
            have : y = mn p R p p * z p := by
              rw [hy]
              have : mn p R p (p + 0) * z (p + 0) = mn p R p p * z p := rfl
              omega
            exact hdv (by rw [this]; exact Int.mul_tmod_right _ _)
      have inner : ∀ j m o5, m + j = n - (p + 1) → Z h1 28 [some (.ref e), some (.int (nI p)), some (.long (lI (mn p R p n - sI (fun j => mn p R p (p + 1 + j) * x (p + 1 + j)) m))), none, some (.int (nI (p + 1 + m))), o5] [] := by
        intro j
        induction j with
        | zero =>
          intro m o5 hm
          repeat (first | refine hZ _ _ _ _ ⟨rfl, ?_⟩ | refine hZ _ _ _ _ ⟨_, _, (by repeat (first | exact up_s | assumption | refine up_n (by omega) ?_)), adl (by omega), (by rfl), ?_⟩ | refine hZ _ _ _ _ ⟨_, _, (by repeat (first | exact up_s | assumption | refine up_n (by omega) ?_)), adl (by omega), (by first | assumption | exact vp_in_nI (by omega) (by omega)), ?_⟩ | refine hZ _ _ _ _ ⟨_, (by repeat (first | exact up_s | assumption | refine up_n (by omega) ?_)), adl (by omega), (by rfl), trivial, ?_⟩ | refine hZ _ _ _ _ ⟨trivial, ?_⟩ | refine hZ _ _ _ _ ⟨_, _, _, _, (by repeat (first | exact up_s | assumption | refine up_n (by omega) ?_)), (by first | exact Or.inr (Or.inr rfl) | exact Or.inr (Or.inl rfl) | exact Or.inl rfl), adl (by omega), (by first | assumption | exact vp_in_nI (by omega) (by omega)), rowsF_at (by omega), ?_⟩ | refine hZ _ _ _ _ ?_)
          refine ⟨fun c => ?_, fun c => absurd (nI_le (by omega) (by omega)) c⟩
          exact rest _ _ _ (by rw [show m = n - (p + 1) by omega])
        | succ j ihj =>
          intro m o5 hm
          have nx := ihj (m + 1) o5 (by omega)
          repeat (first | refine hZ _ _ _ _ ⟨rfl, ?_⟩ | refine hZ _ _ _ _ ⟨_, _, (by repeat (first | exact up_s | assumption | refine up_n (by omega) ?_)), adl (by omega), (by rfl), ?_⟩ | refine hZ _ _ _ _ ⟨_, _, (by repeat (first | exact up_s | assumption | refine up_n (by omega) ?_)), adl (by omega), (by first | assumption | exact vp_in_nI (by omega) (by omega)), ?_⟩ | refine hZ _ _ _ _ ⟨_, (by repeat (first | exact up_s | assumption | refine up_n (by omega) ?_)), adl (by omega), (by rfl), trivial, ?_⟩ | refine hZ _ _ _ _ ⟨trivial, ?_⟩ | refine hZ _ _ _ _ ⟨_, _, _, _, (by repeat (first | exact up_s | assumption | refine up_n (by omega) ?_)), (by first | exact Or.inr (Or.inr rfl) | exact Or.inr (Or.inl rfl) | exact Or.inl rfl), adl (by omega), (by first | assumption | exact vp_in_nI (by omega) (by omega)), rowsF_at (by omega), ?_⟩ | refine hZ _ _ _ _ ?_)
          refine ⟨fun c => absurd c (nI_ge (by omega) (by omega)), fun c => ?_⟩
          iterate 16 (first | refine hZ _ _ _ _ ⟨rfl, ?_⟩ | refine hZ _ _ _ _ ⟨_, _, (by repeat (first | exact up_s | assumption | refine up_n (by omega) ?_)), adl (by omega), (by rfl), ?_⟩ | refine hZ _ _ _ _ ⟨_, _, (by repeat (first | exact up_s | assumption | refine up_n (by omega) ?_)), adl (by omega), (by first | assumption | exact vp_in_nI (by omega) (by omega)), ?_⟩ | refine hZ _ _ _ _ ⟨_, (by repeat (first | exact up_s | assumption | refine up_n (by omega) ?_)), adl (by omega), (by rfl), trivial, ?_⟩ | refine hZ _ _ _ _ ⟨trivial, ?_⟩ | refine hZ _ _ _ _ ⟨_, _, _, _, (by repeat (first | exact up_s | assumption | refine up_n (by omega) ?_)), (by first | exact Or.inr (Or.inr rfl) | exact Or.inr (Or.inl rfl) | exact Or.inl rfl), adl (by omega), (by first | assumption | exact vp_in_nI (by omega) (by omega)), rowsF_at (by omega), ?_⟩ | refine hZ _ _ _ _ ?_)
          show Z _ 28 _ _
          rw [nI_clamp (by omega), hR p (p + 1 + m) hpn (by omega) (by omega), hx (p + 1 + m) (by omega) (by omega), lI_mul, lI_sub, nI_inc]
          rw [show mn p R p n - sI (fun j => mn p R p (p + 1 + j) * x (p + 1 + j)) (m + 1) = mn p R p n - sI (fun j => mn p R p (p + 1 + j) * x (p + 1 + j)) m - mn p R p (p + 1 + m) * x (p + 1 + m) by
            show mn p R p n - (sI (fun j => mn p R p (p + 1 + j) * x (p + 1 + j)) m + mn p R p (p + 1 + m) * x (p + 1 + m)) = _
            omega] at nx
          exact nx
      repeat (first | refine hZ _ _ _ _ ⟨rfl, ?_⟩ | refine hZ _ _ _ _ ⟨_, _, (by repeat (first | exact up_s | assumption | refine up_n (by omega) ?_)), adl (by omega), (by rfl), ?_⟩ | refine hZ _ _ _ _ ⟨_, _, (by repeat (first | exact up_s | assumption | refine up_n (by omega) ?_)), adl (by omega), (by first | assumption | exact vp_in_nI (by omega) (by omega)), ?_⟩ | refine hZ _ _ _ _ ⟨_, (by repeat (first | exact up_s | assumption | refine up_n (by omega) ?_)), adl (by omega), (by rfl), trivial, ?_⟩ | refine hZ _ _ _ _ ⟨trivial, ?_⟩ | refine hZ _ _ _ _ ⟨_, _, _, _, (by repeat (first | exact up_s | assumption | refine up_n (by omega) ?_)), (by first | exact Or.inr (Or.inr rfl) | exact Or.inr (Or.inl rfl) | exact Or.inl rfl), adl (by omega), (by first | assumption | exact vp_in_nI (by omega) (by omega)), rowsF_at (by omega), ?_⟩ | refine hZ _ _ _ _ ?_)
      refine ⟨fun c => absurd c (nI_pos (by omega)), fun c => ?_⟩
      iterate 12 (first | refine hZ _ _ _ _ ⟨rfl, ?_⟩ | refine hZ _ _ _ _ ⟨_, _, (by repeat (first | exact up_s | assumption | refine up_n (by omega) ?_)), adl (by omega), (by rfl), ?_⟩ | refine hZ _ _ _ _ ⟨_, _, (by repeat (first | exact up_s | assumption | refine up_n (by omega) ?_)), adl (by omega), (by first | assumption | exact vp_in_nI (by omega) (by omega)), ?_⟩ | refine hZ _ _ _ _ ⟨_, (by repeat (first | exact up_s | assumption | refine up_n (by omega) ?_)), adl (by omega), (by rfl), trivial, ?_⟩ | refine hZ _ _ _ _ ⟨trivial, ?_⟩ | refine hZ _ _ _ _ ⟨_, _, _, _, (by repeat (first | exact up_s | assumption | refine up_n (by omega) ?_)), (by first | exact Or.inr (Or.inr rfl) | exact Or.inr (Or.inl rfl) | exact Or.inl rfl), adl (by omega), (by first | assumption | exact vp_in_nI (by omega) (by omega)), rowsF_at (by omega), ?_⟩ | refine hZ _ _ _ _ ?_)
      show Z _ 28 _ _
      rw [nI_clamp (by omega), hR p n hpn (by omega) (Nat.le_refl n), nI_inc]
      have := inner (n - (p + 1)) 0 o5 (by omega)
      rw [show mn p R p n - sI (fun j => mn p R p (p + 1 + j) * x (p + 1 + j)) 0 = mn p R p n from Int.sub_zero _] at this
      exact this
  have E10 := E
  obtain ⟨eN, e0, e1, e2, e3⟩ := E
  iterate 5 (first | refine hZ _ _ _ _ ⟨rfl, ?_⟩ | refine hZ _ _ _ _ ⟨_, _, (by repeat (first | exact up_s | assumption | refine up_n (by omega) ?_)), adl (by omega), (by rfl), ?_⟩ | refine hZ _ _ _ _ ⟨_, _, (by repeat (first | exact up_s | assumption | refine up_n (by omega) ?_)), adl (by omega), (by first | assumption | exact vp_in_nI (by omega) (by omega)), ?_⟩ | refine hZ _ _ _ _ ⟨_, (by repeat (first | exact up_s | assumption | refine up_n (by omega) ?_)), adl (by omega), (by rfl), trivial, ?_⟩ | refine hZ _ _ _ _ ⟨trivial, ?_⟩ | refine hZ _ _ _ _ ⟨_, _, _, _, (by repeat (first | exact up_s | assumption | refine up_n (by omega) ?_)), (by first | exact Or.inr (Or.inr rfl) | exact Or.inr (Or.inl rfl) | exact Or.inl rfl), adl (by omega), (by first | assumption | exact vp_in_nI (by omega) (by omega)), rowsF_at (by omega), ?_⟩ | refine hZ _ _ _ _ ?_)
  show Z _ 7 _ _
  exact outer n h an (fun _ => 0) _ _ _ _ _ (Nat.le_refl n) rfl E10 (fun q q1 q2 => absurd q2 (by omega)) (fun r q1 q2 => absurd q2 (by omega)) Fr.rf
