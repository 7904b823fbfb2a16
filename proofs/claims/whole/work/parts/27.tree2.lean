theorem tc5 {a b c d e : Nat} (ha : a < 6) (hb : b < 6) (hc : c < 6) (hd : d < 6) (he : e < 6) : dF 5 (Vf (fl [a, b, c, d, e])) = bI (ld 5 (fl [a, b, c, d, e])) := by
  have ha' : a = 0 ∨ a = 1 ∨ a = 2 ∨ a = 3 ∨ a = 4 ∨ a = 5 := by omega
  have hb' : b = 0 ∨ b = 1 ∨ b = 2 ∨ b = 3 ∨ b = 4 ∨ b = 5 := by omega
  rcases ha' with q | q | q | q | q | q <;> subst q <;> rcases hb' with q | q | q | q | q | q <;> subst q
  · exact tc5_00 c hc d hd e he
  · exact tc5_01 c hc d hd e he
  · exact tc5_02 c hc d hd e he
  · exact tc5_03 c hc d hd e he
  · exact tc5_04 c hc d hd e he
  · exact tc5_05 c hc d hd e he
  · exact tc5_10 c hc d hd e he
  · exact tc5_11 c hc d hd e he
  · exact tc5_12 c hc d hd e he
  · exact tc5_13 c hc d hd e he
  · exact tc5_14 c hc d hd e he
  · exact tc5_15 c hc d hd e he
  · exact tc5_20 c hc d hd e he
  · exact tc5_21 c hc d hd e he
  · exact tc5_22 c hc d hd e he
  · exact tc5_23 c hc d hd e he
  · exact tc5_24 c hc d hd e he
  · exact tc5_25 c hc d hd e he
  · exact tc5_30 c hc d hd e he
  · exact tc5_31 c hc d hd e he
  · exact tc5_32 c hc d hd e he
  · exact tc5_33 c hc d hd e he
  · exact tc5_34 c hc d hd e he
  · exact tc5_35 c hc d hd e he
  · exact tc5_40 c hc d hd e he
  · exact tc5_41 c hc d hd e he
  · exact tc5_42 c hc d hd e he
  · exact tc5_43 c hc d hd e he
  · exact tc5_44 c hc d hd e he
  · exact tc5_45 c hc d hd e he
  · exact tc5_50 c hc d hd e he
  · exact tc5_51 c hc d hd e he
  · exact tc5_52 c hc d hd e he
  · exact tc5_53 c hc d hd e he
  · exact tc5_54 c hc d hd e he
  · exact tc5_55 c hc d hd e he
theorem gs_congr {n : Nat} {f g : Nat → Nat} (h : ∀ i, i < n → f i = g i) : ∀ k i, gs n f k i = gs n g k i
  | 0, _ => rfl
  | k + 1, i => by
    show (if i < n then gs n f k (f i) else i) = (if i < n then gs n g k (g i) else i)
    by_cases e : i < n
    · rw [if_pos e, if_pos e, h i e, gs_congr h k]
    · rw [if_neg e, if_neg e]
theorem ldA_congr {n : Nat} {f g : Nat → Nat} (h : ∀ i, i < n → f i = g i) : ∀ k, ldA n f k = ldA n g k
  | 0 => rfl
  | k + 1 => by
    show (ldA n f k && Nat.ble n (gs n f n k)) = (ldA n g k && Nat.ble n (gs n g n k))
    rw [ldA_congr h k, gs_congr h]
theorem tc_all {n : Nat} (h1 : 2 ≤ n) (h2 : n ≤ 5) (f : Nat → Nat) (hf : ∀ i, i < n → f i < n + 1) : dF n (Vf f) = bI (ld n f) := by
  have go : ∀ l : List Nat, (∀ i, i < n → f i = fl l i) → dF n (Vf (fl l)) = bI (ld n (fl l)) → dF n (Vf f) = bI (ld n f) := by
    intro l hl h
    have e1 : dF n (Vf f) = dF n (Vf (fl l)) := dF_congr h2 (fun i j hi _ => by unfold Vf; rw [hl i hi])
    have e2 : ld n f = ld n (fl l) := ldA_congr hl n
    rw [e1, e2]; exact h
  have hn : n = 2 ∨ n = 3 ∨ n = 4 ∨ n = 5 := by omega
  rcases hn with e | e | e | e <;> subst e
  · refine go [f 0, f 1] (fun i hi => ?_) (tc2 _ (hf 0 (by decide)) _ (hf 1 (by decide)))
    rcases (by omega : i = 0 ∨ i = 1) with e | e <;> subst e <;> rfl
  · refine go [f 0, f 1, f 2] (fun i hi => ?_) (tc3 _ (hf 0 (by decide)) _ (hf 1 (by decide)) _ (hf 2 (by decide)))
    rcases (by omega : i = 0 ∨ i = 1 ∨ i = 2) with e | e | e <;> subst e <;> rfl
  · refine go [f 0, f 1, f 2, f 3] (fun i hi => ?_) (tc4 _ (hf 0 (by decide)) _ (hf 1 (by decide)) _ (hf 2 (by decide)) _ (hf 3 (by decide)))
    rcases (by omega : i = 0 ∨ i = 1 ∨ i = 2 ∨ i = 3) with e | e | e | e <;> subst e <;> rfl
  · refine go [f 0, f 1, f 2, f 3, f 4] (fun i hi => ?_) (tc5 (hf 0 (by decide)) (hf 1 (by decide)) (hf 2 (by decide)) (hf 3 (by decide)) (hf 4 (by decide)))
    rcases (by omega : i = 0 ∨ i = 1 ∨ i = 2 ∨ i = 3 ∨ i = 4) with e | e | e | e | e <;> subst e <;> rfl
/-- sums over all ways to choose a number below B for each place below k -/
def NS (B : Nat) : Nat → (Nat → Nat) → ((Nat → Nat) → Int) → Int
  | 0, f, g => g f
  | k + 1, f, g => sI (fun t => NS B k (updN f k t) g) B
theorem NS_congr {B : Nat} {g g' : (Nat → Nat) → Int} : ∀ (k : Nat) (f : Nat → Nat), (∀ f', (∀ i, k ≤ i → f' i = f i) → (∀ i, i < k → f' i < B) → g f' = g' f') → NS B k f g = NS B k f g'
  | 0, f, h => h f (fun _ _ => rfl) (fun i hi => absurd hi (Nat.not_lt_zero i))
  | k + 1, f, h => by
    refine sI_congr (fun t ht => NS_congr k (updN f k t) (fun f' h1 h2 => h f' (fun i hi => ?_) (fun i hi => ?_)))
    · rw [h1 i (by omega)]; exact if_neg (by omega)
    · by_cases e : i = k
      · rw [h1 i (by omega), show updN f k t i = t from if_pos e]; exact ht
      · exact h2 i (by omega)
theorem NS_mul {B : Nat} (c : Int) (g : (Nat → Nat) → Int) : ∀ (k : Nat) (f : Nat → Nat), NS B k f (fun f' => c * g f') = c * NS B k f g
  | 0, _ => rfl
  | k + 1, f => by
    show sI _ B = c * sI _ B
    rw [← sI_mul]
    exact sI_congr (fun t _ => NS_mul c g k _)
def pI (g : Nat → Int) : Nat → Int
  | 0 => 1
  | k + 1 => pI g k * g k
theorem pI_congr {f g : Nat → Int} : ∀ {n : Nat}, (∀ i, i < n → f i = g i) → pI f n = pI g n
  | 0, _ => rfl
  | n + 1, h => by
    show pI f n * f n = pI g n * g n
    rw [pI_congr (fun i hi => h i (by omega)), h n (by omega)]
def alp (n : Nat) (a : Nat → Nat → Nat) (w : Nat → Nat) (p t : Nat) : Int := if t = n then (w p : Int) else (a p t : Int)
theorem dlt_self (p : Nat) : dlt p p = 1 := if_pos rfl
theorem dlt_ne {p j : Nat} (h : j ≠ p) : dlt p j = 0 := if_neg h
theorem dlt_sum {c : Nat → Int} {j : Nat} : ∀ m, sI (fun t => c t * dlt t j) m = if j < m then c j else 0
  | 0 => rfl
  | m + 1 => by
    show sI _ m + c m * dlt m j = _
    rw [dlt_sum m]
    by_cases e : j = m
    · subst e
      rw [if_neg (Nat.lt_irrefl j), if_pos (by omega), dlt_self]; omega
    · rw [dlt_ne e, Int.mul_zero]
      by_cases e2 : j < m
      · rw [if_pos e2, if_pos (by omega)]; omega
      · rw [if_neg e2, if_neg (by omega)]; omega
/-- a row of the square, by its paths one by one -/
theorem sqr_paths {n : Nat} {a : Nat → Nat → Nat} {w : Nat → Nat} {p j : Nat} (hp : p < n) (hj : j < n) (h0 : a p p = 0) : sqr n a w p j = sI (fun t => alp n a w p t * (dlt p j - dlt t j)) (n + 1) := by
  have e1 : (fun t => alp n a w p t * (dlt p j - dlt t j)) = fun t => dlt p j * alp n a w p t - alp n a w p t * dlt t j := funext (fun t => by rw [Int.mul_sub, Int.mul_comm])
  rw [e1, sI_sub, sI_mul, dlt_sum, if_pos (by omega)]
  have e2 : sI (alp n a w p) (n + 1) = (dgr n a w p : Int) := by
    show sI (alp n a w p) n + alp n a w p n = _
    rw [show alp n a w p n = (w p : Int) from if_pos rfl, sI_congr (f := alp n a w p) (g := fun t => (a p t : Int)) (fun i hi => if_neg (by omega)), sI_sm]
    unfold dgr
    omega
  rw [e2, show alp n a w p j = (a p j : Int) from if_neg (by omega)]
  unfold sqr
  by_cases e : p = j
  · subst e
    rw [if_pos rfl, dlt_self, h0]; omega
  · rw [if_neg e, dlt_ne (Ne.symm e)]; omega
/-- the trees, as the reference counts them -/
def trs (n : Nat) (a : Nat → Nat → Nat) (w : Nat → Nat) : Int := NS (n + 1) n (fun _ => 0) (fun f => pI (fun p => alp n a w p (f p)) n * bI (ld n f))
theorem tree_thm {n : Nat} {a : Nat → Nat → Nat} {w : Nat → Nat} (h1 : 2 ≤ n) (h2 : n ≤ 5) (h0 : ∀ p, p < n → a p p = 0) : dF n (sqr n a w) = trs n a w := by
  let M : Nat → (Nat → Nat) → Nat → Nat → Int := fun k f p j => if p < k then sqr n a w p j else Vf f p j
  have key : ∀ k, k ≤ n → ∀ f : Nat → Nat, (∀ i, k ≤ i → i < n → f i < n + 1) → dF n (M k f) = NS (n + 1) k f (fun f' => pI (fun p => alp n a w p (f' p)) k * bI (ld n f')) := by
    intro k
    induction k with
    | zero =>
      intro _ f hf
      show dF n (M 0 f) = 1 * bI (ld n f)
      rw [Int.one_mul, ← tc_all h1 h2 f (fun i hi => hf i (Nat.zero_le _) hi)]
      exact dF_congr h2 (fun i j _ _ => if_neg (Nat.not_lt_zero i))
    | succ k ih =>
      intro hk f hf
      have e1 : dF n (M (k + 1) f) = dF n (upR (M k f) k (fun j => sI (fun t => alp n a w k t * (fun t j => dlt k j - dlt t j) t j) (n + 1))) := by
        refine dF_congr h2 (fun i j hi hj => ?_)
        unfold upR
        by_cases e : i = k
        · rw [if_pos e]
          show (if i < k + 1 then sqr n a w i j else _) = _
          rw [if_pos (by omega), e]
          exact sqr_paths (by omega) hj (h0 k (by omega))
        · rw [if_neg e]
          show (if i < k + 1 then sqr n a w i j else Vf f i j) = if i < k then sqr n a w i j else Vf f i j
          by_cases e2 : i < k
          · rw [if_pos e2, if_pos (by omega)]
          · rw [if_neg e2, if_neg (by omega)]
      rw [e1, dF_sum h1 h2 (by omega)]
      show _ = sI _ (n + 1)
      refine sI_congr (fun t ht => ?_)
      have e2 : dF n (upR (M k f) k (fun j => dlt k j - dlt t j)) = dF n (M k (updN f k t)) := by
        refine dF_congr h2 (fun i j hi hj => ?_)
        unfold upR
        by_cases e : i = k
        · rw [if_pos e]
          show _ = if i < k then _ else dlt i j - dlt (updN f k t i) j
          rw [if_neg (by omega), show updN f k t i = t from if_pos e, e]
        · rw [if_neg e]
          show (if i < k then sqr n a w i j else dlt i j - dlt (f i) j) = if i < k then sqr n a w i j else dlt i j - dlt (updN f k t i) j
          rw [show updN f k t i = f i from if_neg e]
      show alp n a w k t * dF n (upR (M k f) k (fun j => dlt k j - dlt t j)) = _
      rw [e2, ih (by omega) (updN f k t) (fun i h3 h4 => ?_), ← NS_mul]
      · refine NS_congr k _ (fun f' h3 h4 => ?_)
        show alp n a w k t * (pI (fun p => alp n a w p (f' p)) k * bI (ld n f')) = pI (fun p => alp n a w p (f' p)) k * alp n a w k (f' k) * bI (ld n f')
        rw [h3 k (Nat.le_refl k), show updN f k t k = t from if_pos rfl, ← Int.mul_assoc, Int.mul_comm (alp n a w k t)]
      · by_cases e : i = k
        · rw [show updN f k t i = t from if_pos e]; exact ht
        · rw [show updN f k t i = f i from if_neg e]; exact hf i (by omega) h4
  have := key n (Nat.le_refl n) (fun _ => 0) (fun i _ _ => Nat.succ_pos n)
  unfold trs
  rw [← this]
  exact dF_congr h2 (fun i j hi _ => (if_pos hi).symm)
/-- the digits of a number -/
def mix (B k : Nat) (f : Nat → Nat) (m : Nat) : Nat → Nat := fun p => if p < k then m / B ^ p % B else f p
theorem sI_append (F : Nat → Int) (a : Nat) : ∀ b, sI F (a + b) = sI F a + sI (fun j => F (a + j)) b
  | 0 => by show sI F a = sI F a + 0; omega
  | b + 1 => by
    show sI F (a + b) + F (a + b) = sI F a + (sI (fun j => F (a + j)) b + F (a + b))
    rw [sI_append F a b]; omega
theorem sI_prod (F : Nat → Int) (K : Nat) : ∀ B, sI F (B * K) = sI (fun t => sI (fun m => F (t * K + m)) K) B
  | 0 => by rw [Nat.zero_mul]; rfl
  | B + 1 => by
    rw [Nat.succ_mul, sI_append, sI_prod F K B]
    rfl
theorem NS_num {B : Nat} (hB : 0 < B) (g : (Nat → Nat) → Int) : ∀ (k : Nat) (f : Nat → Nat), NS B k f g = sI (fun m => g (mix B k f m)) (B ^ k)
  | 0, f => by
    show g f = 0 + g (mix B 0 f 0)
    rw [show mix B 0 f 0 = f from funext (fun p => if_neg (Nat.not_lt_zero p))]
    omega
  | k + 1, f => by
    rw [Nat.pow_succ, Nat.mul_comm, sI_prod]
    show sI _ B = _
    refine sI_congr (fun t ht => ?_)
    rw [NS_num hB g k]
    refine sI_congr (fun m hm => ?_)
    congr 1
    funext p
    unfold mix
    by_cases e : p < k
    · rw [if_pos e, if_pos (by omega)]
      have hpw : B ^ k = B ^ (k - p - 1) * B * B ^ p := by
        rw [← Nat.pow_succ, ← Nat.pow_add]
        congr 1
        omega
      have hpos : 0 < B ^ p := Nat.pow_pos hB
      rw [hpw, ← Nat.mul_assoc, Nat.add_comm, Nat.add_mul_div_right _ _ hpos, ← Nat.mul_assoc, Nat.add_mul_mod_self_right]
    · rw [if_neg e]
      by_cases e2 : p = k
      · subst e2
        have hpos : 0 < B ^ p := Nat.pow_pos hB
        rw [if_pos (by omega), Nat.add_comm, Nat.add_mul_div_right _ _ hpos, Nat.div_eq_of_lt hm, Nat.zero_add, Nat.mod_eq_of_lt ht]
        exact if_pos rfl
      · rw [if_neg (by omega)]
        exact if_neg e2
