/-! ===== heaps that topple: how often each topples is least among all that settle (whichever goes first), and bounded ===== -/
/-- y is x when each place p has toppled u p times -/
def cfg (n : Nat) (a : Nat → Nat → Nat) (d x u y : Nat → Nat) : Prop := ∀ q, q < n → y q + d q * u q = x q + sm (fun p => u p * a p q) n
def Sts (n : Nat) (a : Nat → Nat → Nat) (d b x v : Nat → Nat) : Prop := ∀ q, q < n → x q + sm (fun p => v p * a p q) n < b q + d q * v q
def LA (n : Nat) (a : Nat → Nat → Nat) (d b x u : Nat → Nat) : Prop := ∀ v, Sts n a d b x v → ∀ p, p < n → u p ≤ v p
/-- u settles x to y, and is the least -/
def Stl (n : Nat) (a : Nat → Nat → Nat) (d b x u y : Nat → Nat) : Prop := cfg n a d x u y ∧ (∀ q, q < n → y q < b q) ∧ LA n a d b x u
def updN (f : Nat → Nat) (k v : Nat) : Nat → Nat := fun j => if j = k then v else f j
/-- a place p topples t times -/
def tpl (a : Nat → Nat → Nat) (d y : Nat → Nat) (p t : Nat) : Nat → Nat := fun q => if q = p then y p - t * d p else y q + t * a p q
theorem sm_upd {n p t : Nat} {u c : Nat → Nat} (hp : p < n) : sm (fun r => updN u p (u p + t) r * c r) n = sm (fun r => u r * c r) n + t * c p := by
  induction n with
  | zero => omega
  | succ n ih =>
    show sm _ n + updN u p (u p + t) n * c n = sm _ n + u n * c n + t * c p
    by_cases e : n = p
    · subst e
      rw [sm_congr (f := fun r => updN u n (u n + t) r * c r) (g := fun r => u r * c r) (fun i hi => by show updN u n (u n + t) i * c i = u i * c i; rw [show updN u n (u n + t) i = u i from if_neg (by omega)])]
      rw [show updN u n (u n + t) n = u n + t from if_pos rfl, Nat.add_mul]
      omega
    · rw [ih (by omega), show updN u p (u p + t) n = u n from if_neg e]
      omega
theorem cfg_top {n p t : Nat} {a : Nat → Nat → Nat} {d x u y : Nat → Nat} (hp : p < n) (h0 : a p p = 0) (hy : t * d p ≤ y p) (h : cfg n a d x u y) : cfg n a d x (updN u p (u p + t)) (tpl a d y p t) := by
  intro q hq
  have h1 := h q hq
  rw [sm_upd hp]
  by_cases e : q = p
  · subst e
    rw [show tpl a d y q t q = y q - t * d q from if_pos rfl, show updN u q (u q + t) q = u q + t from if_pos rfl, h0, Nat.mul_add, Nat.mul_comm (d q) t]
    omega
  · rw [show tpl a d y p t q = y q + t * a p q from if_neg e, show updN u p (u p + t) q = u q from if_neg e]
    omega
theorem LA_top {n p t : Nat} {a : Nat → Nat → Nat} {d b x u y : Nat → Nat} (hp : p < n) (h0 : a p p = 0) (hy : b p + t * d p ≤ y p) (h : cfg n a d x u y) (hl : LA n a d b x u) : LA n a d b x (updN u p (u p + (t + 1))) := by
  intro v hv q hq
  have hle := hl v hv
  by_cases e : q = p
  · subst e
    rw [show updN u q (u q + (t + 1)) q = u q + (t + 1) from if_pos rfl]
    rcases Nat.lt_or_ge (v q) (u q + (t + 1)) with c | c
    · exfalso
      have h1 := hv q hq
      have h2 := h q hq
      have h3 : sm (fun r => u r * a r q) n ≤ sm (fun r => v r * a r q) n := sm_mono (fun i hi => Nat.mul_le_mul_right _ (hle i hi))
      have h4 : d q * v q ≤ d q * u q + t * d q := by
        have := Nat.mul_le_mul_left (d q) (show v q ≤ u q + t by omega)
        rw [Nat.mul_add, Nat.mul_comm (d q) t] at this
        exact this
      omega
    · exact c
  · rw [show updN u p (u p + (t + 1)) q = u q from if_neg e]
    exact hle q hq
theorem LA_0 {n : Nat} {a : Nat → Nat → Nat} {d b x : Nat → Nat} : LA n a d b x (fun _ => 0) := fun _ _ _ _ => Nat.zero_le _
theorem sm_zero (n : Nat) : sm (fun _ => 0) n = 0 := by
  induction n with
  | zero => rfl
  | succ n ih => show sm _ n + 0 = 0; rw [ih]
theorem cfg_0 {n : Nat} {a : Nat → Nat → Nat} {d x : Nat → Nat} : cfg n a d x (fun _ => 0) x := fun q _ => by
  rw [Nat.mul_zero, sm_congr (g := fun _ => 0) (fun i _ => Nat.zero_mul _), sm_zero]
theorem cfg_sts {n : Nat} {a : Nat → Nat → Nat} {d b x u y : Nat → Nat} (h : cfg n a d x u y) (hb : ∀ q, q < n → y q < b q) : Sts n a d b x u := fun q hq => by
  have := h q hq
  have := hb q hq
  omega
theorem Stl.uniq {n : Nat} {a : Nat → Nat → Nat} {d b x u y u' y' : Nat → Nat} (h : Stl n a d b x u y) (h' : Stl n a d b x u' y') : (∀ p, p < n → u p = u' p) ∧ ∀ p, p < n → y p = y' p := by
  have e : ∀ p, p < n → u p = u' p := fun p hp => Nat.le_antisymm (h.2.2 u' (cfg_sts h'.1 h'.2.1) p hp) (h'.2.2 u (cfg_sts h.1 h.2.1) p hp)
  refine ⟨e, fun p hp => ?_⟩
  have h1 := h.1 p hp
  have h2 := h'.1 p hp
  rw [sm_congr (g := fun r => u' r * a r p) (fun i hi => by show u i * a i p = _; rw [e i hi]), e p hp] at h1
  omega
/-- settling in two turns: first without some grains, then with them -/
theorem Stl.then {n : Nat} {a : Nat → Nat → Nat} {d b x u y g v z : Nat → Nat} (h : Stl n a d b x u y) (h' : Stl n a d b (fun q => y q + g q) v z) : Stl n a d b (fun q => x q + g q) (fun q => u q + v q) z := by
  refine ⟨fun q hq => ?_, h'.2.1, fun w hw p hp => ?_⟩
  · have h1 := h.1 q hq
    have h2 := h'.1 q hq
    rw [sm_congr (g := fun p => u p * a p q + v p * a p q) (fun i _ => Nat.add_mul _ _ _), sm_add, Nat.mul_add]
    dsimp only at h2 ⊢
    omega
  · have hle : ∀ r, r < n → u r ≤ w r := h.2.2 w (fun q hq => by have := hw q hq; dsimp only at this; omega)
    have h1 := h'.2.2 (fun r => w r - u r) (fun q hq => by
      have e1 := hw q hq
      have e2 := h.1 q hq
      have e3 : sm (fun p => w p * a p q) n = sm (fun p => u p * a p q) n + sm (fun p => (w p - u p) * a p q) n := by
        rw [← sm_add]
        refine sm_congr (fun i hi => ?_)
        rw [← Nat.add_mul, Nat.add_sub_cancel' (hle i hi)]
      have e4 : d q * w q = d q * u q + d q * (w q - u q) := by rw [← Nat.mul_add, Nat.add_sub_cancel' (hle q hq)]
      dsimp only at e1 ⊢
      omega) p hp
    have := hle p hp
    dsimp only at h1 ⊢
    omega
/-! ===== how many topplings ===== -/
def sI (f : Nat → Int) : Nat → Int
  | 0 => 0
  | k + 1 => sI f k + f k
theorem sI_congr {f g : Nat → Int} {n : Nat} (h : ∀ i, i < n → f i = g i) : sI f n = sI g n := by
  induction n with
  | zero => rfl
  | succ n ih => show sI f n + f n = sI g n + g n; rw [ih (fun i hi => h i (by omega)), h n (by omega)]
theorem sI_add (f g : Nat → Int) (n : Nat) : sI (fun i => f i + g i) n = sI f n + sI g n := by
  induction n with
  | zero => rfl
  | succ n ih => show sI (fun i => f i + g i) n + (f n + g n) = sI f n + f n + (sI g n + g n); rw [ih]; omega
theorem sI_neg (f : Nat → Int) (n : Nat) : sI (fun i => - f i) n = - sI f n := by
  induction n with
  | zero => rfl
  | succ n ih => show sI (fun i => - f i) n + - f n = - (sI f n + f n); rw [ih]; omega
theorem sI_mul (c : Int) (f : Nat → Int) (n : Nat) : sI (fun i => c * f i) n = c * sI f n := by
  induction n with
  | zero => exact (Int.mul_zero c).symm
  | succ n ih => show sI (fun i => c * f i) n + c * f n = c * (sI f n + f n); rw [ih, Int.mul_add]
theorem sI_zero (n : Nat) : sI (fun _ => 0) n = 0 := by
  induction n with
  | zero => rfl
  | succ n ih => show sI _ n + 0 = 0; rw [ih]; rfl
theorem sI_swap (F : Nat → Nat → Int) (n m : Nat) : sI (fun i => sI (fun j => F i j) m) n = sI (fun j => sI (fun i => F i j) n) m := by
  induction n with
  | zero => show (0 : Int) = sI (fun j => 0) m; rw [sI_zero]
  | succ n ih =>
    show sI (fun i => sI (fun j => F i j) m) n + sI (fun j => F n j) m = sI (fun j => sI (fun i => F i j) n + F n j) m
    rw [ih, sI_add]
theorem sI_mono {f g : Nat → Int} {n : Nat} (h : ∀ i, i < n → f i ≤ g i) : sI f n ≤ sI g n := by
  induction n with
  | zero => exact Int.le_refl _
  | succ n ih =>
    have h1 := ih (fun i hi => h i (by omega))
    have h2 := h n (by omega)
    show sI f n + f n ≤ sI g n + g n
    omega
theorem sI_one {f : Nat → Int} {n i : Nat} (hi : i < n) (h : ∀ j, j < n → 0 ≤ f j) : f i ≤ sI f n := by
  induction n with
  | zero => omega
  | succ n ih =>
    show f i ≤ sI f n + f n
    have h0 : 0 ≤ sI f n := by
      have := sI_mono (f := fun _ => 0) (g := f) (n := n) (fun j hj => h j (by omega))
      rw [sI_zero] at this
      exact this
    by_cases e : i = n
    · subst e; omega
    · have := ih (by omega) (fun j hj => h j (by omega))
      have := h n (by omega)
      omega
theorem sI_sm (f : Nat → Nat) (n : Nat) : sI (fun i => (f i : Int)) n = (sm f n : Int) := by
  induction n with
  | zero => rfl
  | succ n ih => show sI _ n + (f n : Int) = ((sm f n + f n : Nat) : Int); rw [ih]; omega
/-- from every set of places some path leads out of it -/
def Opn (n : Nat) (a : Nat → Nat → Nat) (w : Nat → Nat) : Prop := ∀ T : Nat → Bool, (∃ p, p < n ∧ T p = true) → ∃ q, q < n ∧ T q = true ∧ (0 < w q ∨ ∃ p, p < n ∧ T p = false ∧ 0 < a q p)
theorem cut {n : Nat} {a : Nat → Nat → Nat} {w x u y : Nat → Nat} (hs : ∀ p q, p < n → q < n → a p q = a q p) (h : cfg n a (dgr n a w) x u y) (t : Nat) (ho : Opn n a w) (hne : ∃ p, p < n ∧ t < u p) : ∃ q, q < n ∧ t < u q ∧ u q ≤ t + sm x n := by
  obtain ⟨q0, hq0, hT, hout⟩ := ho (fun p => decide (t < u p)) (by obtain ⟨p, h1, h2⟩ := hne; exact ⟨p, h1, decide_eq_true h2⟩)
  have hT : t < u q0 := of_decide_eq_true hT
  refine ⟨q0, hq0, hT, ?_⟩
  -- chi: the set's places
  let c : Nat → Int := fun p => if t < u p then 1 else 0
  have hc : ∀ p, c p = 0 ∨ c p = 1 := fun p => by show (if t < u p then (1 : Int) else 0) = 0 ∨ (if t < u p then (1 : Int) else 0) = 1; split <;> simp
  -- each place of the set: what it gave is at most what it had and got
  have hq : ∀ q, q < n → c q * ((w q : Int) * u q) + sI (fun p => c q * (a q p : Int) * ((u q : Int) - u p)) n ≤ c q * x q := by
    intro q hq
    have h1 := h q hq
    have h2 : ((dgr n a w q * u q : Nat) : Int) = (w q : Int) * u q + sI (fun p => (a q p : Int) * (u q : Int)) n := by
      have e : sI (fun p => (a q p : Int) * (u q : Int)) n = (u q : Int) * (sm (a q) n : Int) := by
        rw [← sI_sm, ← sI_mul]
        exact sI_congr (fun i _ => Int.mul_comm _ _)
      rw [e]
      show (((w q + sm (a q) n) * u q : Nat) : Int) = _
      rw [Nat.add_mul]
      push_cast
      rw [Int.mul_comm (sm (a q) n : Int)]
    have h3 : ((sm (fun p => u p * a p q) n : Nat) : Int) = sI (fun p => (a q p : Int) * (u p : Int)) n := by
      rw [← sI_sm]
      refine sI_congr (fun i hi => ?_)
      rw [hs i q hi hq]
      push_cast
      exact Int.mul_comm _ _
    have h4 : sI (fun p => (a q p : Int) * ((u q : Int) - u p)) n = sI (fun p => (a q p : Int) * (u q : Int)) n - sI (fun p => (a q p : Int) * (u p : Int)) n := by
      rw [Int.sub_eq_add_neg, ← sI_neg, ← sI_add]
      refine sI_congr (fun i _ => ?_)
      rw [Int.mul_sub, Int.sub_eq_add_neg]
    have h5 : sI (fun p => c q * (a q p : Int) * ((u q : Int) - u p)) n = c q * sI (fun p => (a q p : Int) * ((u q : Int) - u p)) n := by
      rw [← sI_mul]
      exact sI_congr (fun i _ => Int.mul_assoc _ _ _)
    rw [h5]
    rcases hc q with e | e <;> rw [e]
    · simp
    · have h6 : ((y q + dgr n a w q * u q : Nat) : Int) = ((x q + sm (fun p => u p * a p q) n : Nat) : Int) := by rw [h1]
      push_cast at h6 h2 h3
      rw [h4]
      omega
  let F : Nat → Nat → Int := fun q p => c q * c p * ((a q p : Int) * ((u q : Int) - u p))
  let E : Nat → Nat → Int := fun q p => c q * (1 - c p) * ((a q p : Int) * ((u q : Int) - u p))
  have hF : sI (fun q => sI (fun p => F q p) n) n = 0 := by
    have h1 := sI_swap F n n
    have h2 : sI (fun j => sI (fun i => F i j) n) n = - sI (fun q => sI (fun p => F q p) n) n := by
      rw [← sI_neg]
      refine sI_congr (fun j hj => ?_)
      rw [← sI_neg]
      refine sI_congr (fun i hi => ?_)
      show c i * c j * ((a i j : Int) * ((u i : Int) - u j)) = -(c j * c i * ((a j i : Int) * ((u j : Int) - u i)))
      rw [hs i j hi hj, Int.mul_comm (c i) (c j), ← Int.mul_neg, ← Int.mul_neg, Int.neg_sub]
    omega
  have hE0 : ∀ q p, q < n → p < n → 0 ≤ E q p := by
    intro q p _ _
    show 0 ≤ c q * (1 - c p) * ((a q p : Int) * ((u q : Int) - u p))
    by_cases e1 : t < u q
    · by_cases e2 : t < u p
      · rw [show c p = 1 from if_pos e2]; simp
      · rw [show c p = 0 from if_neg e2, show c q = 1 from if_pos e1]
        have : 0 ≤ (u q : Int) - u p := by omega
        have := Int.mul_nonneg (Int.natCast_nonneg (a q p)) this
        omega
    · rw [show c q = 0 from if_neg e1]; simp
  let X : Nat → Int := fun q => c q * ((w q : Int) * u q) + sI (fun p => E q p) n
  have hX0 : ∀ q, q < n → 0 ≤ X q := by
    intro q hq
    have h1 : 0 ≤ sI (fun p => E q p) n := by
      have := sI_mono (f := fun _ => 0) (g := fun p => E q p) (n := n) (fun j hj => hE0 q j hq hj)
      rw [sI_zero] at this
      exact this
    have h2 : 0 ≤ c q * ((w q : Int) * u q) := by
      have h3 : 0 ≤ (w q : Int) * u q := Int.mul_nonneg (Int.natCast_nonneg _) (Int.natCast_nonneg _)
      rcases hc q with e | e <;> rw [e] <;> omega
    show 0 ≤ c q * ((w q : Int) * u q) + sI (fun p => E q p) n
    omega
  have hsum : sI X n ≤ (sm x n : Int) := by
    have h1 := sI_mono hq
    have h2 : sI (fun q => c q * ((w q : Int) * u q) + sI (fun p => c q * (a q p : Int) * ((u q : Int) - u p)) n) n = sI X n + sI (fun q => sI (fun p => F q p) n) n := by
      rw [← sI_add]
      refine sI_congr (fun q _ => ?_)
      show _ = c q * ((w q : Int) * u q) + sI (fun p => E q p) n + sI (fun p => F q p) n
      rw [Int.add_assoc, ← sI_add]
      congr 1
      refine sI_congr (fun p _ => ?_)
      show _ = c q * (1 - c p) * ((a q p : Int) * ((u q : Int) - u p)) + c q * c p * ((a q p : Int) * ((u q : Int) - u p))
      rw [← Int.add_mul, ← Int.mul_add, show (1 - c p + c p) = 1 by omega, Int.mul_one, Int.mul_assoc]
    have h3 : sI (fun q => c q * (x q : Int)) n ≤ (sm x n : Int) := by
      rw [← sI_sm]
      refine sI_mono (fun i _ => ?_)
      rcases hc i with e | e <;> rw [e] <;> omega
    rw [h2, hF] at h1
    omega
  have hq1 : X q0 ≤ (sm x n : Int) := Int.le_trans (sI_one hq0 hX0) hsum
  have hc0 : c q0 = 1 := if_pos hT
  have hE1 : 0 ≤ sI (fun p => E q0 p) n := by
    have := sI_mono (f := fun _ => 0) (g := fun p => E q0 p) (n := n) (fun j hj => hE0 q0 j hq0 hj)
    rw [sI_zero] at this
    exact this
  have hw1 : 0 ≤ (w q0 : Int) * u q0 := Int.mul_nonneg (Int.natCast_nonneg _) (Int.natCast_nonneg _)
  have hq2 : (w q0 : Int) * u q0 + sI (fun p => E q0 p) n ≤ (sm x n : Int) := by
    have : X q0 = (w q0 : Int) * u q0 + sI (fun p => E q0 p) n := by show c q0 * _ + _ = _; rw [hc0, Int.one_mul]
    omega
  rcases hout with hw | ⟨p0, hp0, hp1, ha⟩
  · have : (u q0 : Int) ≤ (w q0 : Int) * u q0 := by
      have := Int.mul_le_mul_of_nonneg_right (show (1 : Int) ≤ w q0 by omega) (Int.natCast_nonneg (u q0))
      omega
    omega
  · have hp1 : ¬ t < u p0 := of_decide_eq_false hp1
    have h1 : E q0 p0 ≤ sI (fun p => E q0 p) n := sI_one hp0 (fun j hj => hE0 q0 j hq0 hj)
    have h2 : E q0 p0 = (a q0 p0 : Int) * ((u q0 : Int) - u p0) := by
      show c q0 * (1 - c p0) * _ = _
      rw [hc0, show c p0 = 0 from if_neg hp1]
      omega
    have h3 : (u q0 : Int) - u p0 ≤ (a q0 p0 : Int) * ((u q0 : Int) - u p0) := by
      have := Int.mul_le_mul_of_nonneg_right (show (1 : Int) ≤ a q0 p0 by omega) (show 0 ≤ (u q0 : Int) - u p0 by omega)
      omega
    omega
/-- the number of topplings: at most fifteen times the grains -/
theorem bound {n : Nat} {a : Nat → Nat → Nat} {w x u y : Nat → Nat} (hn : n ≤ 5) (hs : ∀ p q, p < n → q < n → a p q = a q p) (h : cfg n a (dgr n a w) x u y) (ho : Opn n a w) : sm u n ≤ 15 * sm x n := by
  let G := sm x n
  let cn : Nat → Nat := fun k => sm (fun p => if k * G < u p then 1 else 0) n
  have h0 : cn 0 ≤ 5 := by
    have : cn 0 ≤ n * 1 := sm_le (fun i _ => by show (if _ then 1 else 0) ≤ 1; split <;> omega)
    omega
  have dec : ∀ k, cn k = 0 ∨ cn (k + 1) + 1 ≤ cn k := by
    intro k
    by_cases hne : ∃ p, p < n ∧ k * G < u p
    · right
      obtain ⟨q, hq, h1, h2⟩ := cut hs h (k * G) ho hne
      have h3 : ¬ (k + 1) * G < u q := by rw [Nat.add_mul, Nat.one_mul]; exact Nat.not_lt.mpr h2
      have hpt : ∀ i, i < n → (fun p => (if (k + 1) * G < u p then 1 else 0) + (if p = q then 1 else 0)) i ≤ (fun p => if k * G < u p then 1 else 0) i := by
        intro i hi
        dsimp only
        have hk : k * G ≤ (k + 1) * G := Nat.mul_le_mul_right _ (by omega)
        by_cases e : i = q
        · subst e
          rw [if_neg h3, if_pos h1, if_pos rfl]
          omega
        · rw [if_neg e]
          split
          · next g => rw [if_pos (Nat.lt_of_le_of_lt hk g)]; omega
          · split <;> omega
      have h4 := sm_mono hpt
      rw [sm_add] at h4
      have h5 : 1 ≤ sm (fun p => if p = q then 1 else 0) n := by
        have : (if q = q then 1 else 0) ≤ sm (fun p => if p = q then 1 else 0) n := sm_ge (f := fun p => if p = q then 1 else 0) hq
        rw [if_pos rfl] at this
        exact this
      show sm _ n + 1 ≤ sm _ n
      omega
    · left
      show sm _ n = 0
      rw [sm_congr (g := fun _ => 0) (fun i hi => if_neg (fun q => hne ⟨i, hi, q⟩)), sm_zero]
  have z : ∀ k, cn k = 0 → cn (k + 1) = 0 := by
    intro k hk
    have hpt : ∀ i, i < n → (fun p => if (k + 1) * G < u p then 1 else 0) i ≤ (fun p => if k * G < u p then 1 else 0) i := by
      intro i _
      dsimp only
      have hk : k * G ≤ (k + 1) * G := Nat.mul_le_mul_right _ (by omega)
      split
      · next g => rw [if_pos (Nat.lt_of_le_of_lt hk g)]; omega
      · split <;> omega
    have := sm_mono hpt
    show sm _ n = 0
    have e : sm (fun p => if k * G < u p then 1 else 0) n = 0 := hk
    omega
  have d0 : cn 0 = 0 ∨ cn 1 + 1 ≤ cn 0 := dec 0
  have d1 : cn 1 = 0 ∨ cn 2 + 1 ≤ cn 1 := dec 1
  have d2 : cn 2 = 0 ∨ cn 3 + 1 ≤ cn 2 := dec 2
  have d3 : cn 3 = 0 ∨ cn 4 + 1 ≤ cn 3 := dec 3
  have d4 : cn 4 = 0 ∨ cn 5 + 1 ≤ cn 4 := dec 4
  have z0 : cn 0 = 0 → cn 1 = 0 := z 0
  have z1 : cn 1 = 0 → cn 2 = 0 := z 1
  have z2 : cn 2 = 0 → cn 3 = 0 := z 2
  have z3 : cn 3 = 0 → cn 4 = 0 := z 3
  have z4 : cn 4 = 0 → cn 5 = 0 := z 4
  have c1 : cn 1 ≤ 4 := by omega
  have c2 : cn 2 ≤ 3 := by omega
  have c3 : cn 3 ≤ 2 := by omega
  have c4 : cn 4 ≤ 1 := by omega
  have c5 : cn 5 = 0 := by omega
  have h5 : ∀ p, p < n → u p ≤ 5 * G := by
    intro p hp
    rcases Nat.lt_or_ge (5 * G) (u p) with g | g
    · exfalso
      have : (if 5 * G < u p then 1 else 0) ≤ sm (fun p => if 5 * G < u p then 1 else 0) n := sm_ge (f := fun p => if 5 * G < u p then 1 else 0) hp
      rw [if_pos g] at this
      have e : sm (fun p => if 5 * G < u p then 1 else 0) n = 0 := c5
      omega
    · exact g
  have hu : ∀ p, p < n → u p ≤ (fun p => G * (if 0 * G < u p then 1 else 0) + (G * (if 1 * G < u p then 1 else 0) + (G * (if 2 * G < u p then 1 else 0) + (G * (if 3 * G < u p then 1 else 0) + G * (if 4 * G < u p then 1 else 0))))) p := by
    intro p hp
    have := h5 p hp
    dsimp only
    by_cases e0 : 0 * G < u p <;> by_cases e1 : 1 * G < u p <;> by_cases e2 : 2 * G < u p <;> by_cases e3 : 3 * G < u p <;> by_cases e4 : 4 * G < u p <;> simp only [e0, e1, e2, e3, e4, if_true, if_false] <;> omega
  have smul : ∀ (f : Nat → Nat) (m : Nat), sm (fun p => G * f p) m = G * sm f m := by
    intro f m
    induction m with
    | zero => rfl
    | succ m ih => show sm _ m + G * f m = G * (sm f m + f m); rw [ih, Nat.mul_add]
  have hf := sm_mono hu
  rw [sm_add, sm_add, sm_add, sm_add, smul, smul, smul, smul, smul] at hf
  have e0 : sm (fun p => if 0 * G < u p then 1 else 0) n = cn 0 := rfl
  have e1 : sm (fun p => if 1 * G < u p then 1 else 0) n = cn 1 := rfl
  have e2 : sm (fun p => if 2 * G < u p then 1 else 0) n = cn 2 := rfl
  have e3 : sm (fun p => if 3 * G < u p then 1 else 0) n = cn 3 := rfl
  have e4 : sm (fun p => if 4 * G < u p then 1 else 0) n = cn 4 := rfl
  rw [e0, e1, e2, e3, e4] at hf
  have m0 := Nat.mul_le_mul_left G h0
  have m1 := Nat.mul_le_mul_left G c1
  have m2 := Nat.mul_le_mul_left G c2
  have m3 := Nat.mul_le_mul_left G c3
  have m4 := Nat.mul_le_mul_left G c4
  show sm u n ≤ 15 * G
  omega
