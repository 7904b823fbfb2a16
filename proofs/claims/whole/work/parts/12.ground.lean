/-! ===== words for the parts of the class ===== -/
def rowsF (g : Nat) : Nat → Option Nat := fun i => if i < 5 then some (g + i) else none
theorem rowsF_at {g p : Nat} (h : p < 5) : rowsF g (nI p).toNatClampNeg = some (g + p) := by
  rw [nI_clamp (by omega)]
  exact if_pos h
/-- a Ground at g -/
def Gd (N : Nat) (h : AH) (g : Nat) (pl : Int32) (B : Nat → Nat → Int32) (pit kind deg brs : Nat → Int32) : Prop :=
  g + 10 < N ∧ h g = .inr (1, [.ref (g + 1), .ref (g + 7), .ref (g + 8), .ref (g + 9), .ref (g + 10), .int pl]) ∧ h (g + 1) = .inl (3, 5, .inr (.inr (.inr (.inr (rowsF (g + 2)))))) ∧ (∀ i, i < 5 → h (g + 2 + i) = .inl (0, 5, .inl (B i))) ∧ h (g + 7) = .inl (0, 5, .inl pit) ∧ h (g + 8) = .inl (0, 5, .inl kind) ∧ h (g + 9) = .inl (0, 5, .inl deg) ∧ h (g + 10) = .inl (0, 5, .inl brs)
/-- Heaps at k -/
def Hp (N : Nat) (h : AH) (k : Nat) (f t : Nat → Int32) (fa to : Int32) : Prop :=
  k + 2 < N ∧ h k = .inr (2, [.ref (k + 1), .ref (k + 2), .int fa, .int to]) ∧ h (k + 1) = .inl (0, 5, .inl f) ∧ h (k + 2) = .inl (0, 5, .inl t)
/-- nothing but the cells lo .. hi - 1 has changed -/
def Fr (lo hi : Nat) (h h' : AH) : Prop := ∀ j, (j < lo ∨ hi ≤ j) → h' j = h j
theorem Fr.rf {lo hi : Nat} {h : AH} : Fr lo hi h h := fun _ _ => rfl
theorem Fr.tr {lo hi : Nat} {h h1 h2 : AH} (a : Fr lo hi h h1) (b : Fr lo hi h1 h2) : Fr lo hi h h2 := fun j hj => (b j hj).trans (a j hj)
theorem Fr.up {lo hi a : Nat} {h h' : AH} {e : va_E} (f : Fr lo hi h h') (h1 : lo ≤ a) (h2 : a < hi) : Fr lo hi h (va_up h' a e) := fun j hj => by
  rw [show va_up h' a e j = h' j from if_neg (by omega)]
  exact f j hj
theorem Fr.wide {lo hi lo' hi' : Nat} {h h' : AH} (f : Fr lo hi h h') (h1 : lo' ≤ lo) (h2 : hi ≤ hi') : Fr lo' hi' h h' := fun j hj => f j (by omega)
theorem Gd.fr {N : Nat} {h h' : AH} {g lo hi : Nat} {pl : Int32} {B : Nat → Nat → Int32} {pit kind deg brs : Nat → Int32} (G : Gd N h g pl B pit kind deg brs) (f : Fr lo hi h h') (hd : g + 11 ≤ lo ∨ hi ≤ g) : Gd N h' g pl B pit kind deg brs := by
  obtain ⟨a0, a1, a2, a3, a4, a5, a6, a7⟩ := G
  exact ⟨a0, (f _ (by omega)).trans a1, (f _ (by omega)).trans a2, fun i hi => (f _ (by omega)).trans (a3 i hi), (f _ (by omega)).trans a4, (f _ (by omega)).trans a5, (f _ (by omega)).trans a6, (f _ (by omega)).trans a7⟩
theorem Hp.fr {N : Nat} {h h' : AH} {k lo hi : Nat} {f t : Nat → Int32} {fa to : Int32} (G : Hp N h k f t fa to) (fr : Fr lo hi h h') (hd : k + 3 ≤ lo ∨ hi ≤ k) : Hp N h' k f t fa to := by
  obtain ⟨a0, a1, a2, a3⟩ := G
  exact ⟨a0, (fr _ (by omega)).trans a1, (fr _ (by omega)).trans a2, (fr _ (by omega)).trans a3⟩
/-! ===== Ground ===== -/
theorem c_Ground_isPlace {l : Launch} {N : Nat} {h : AH} {g : Nat} {pl : Int32} {B : Nat → Nat → Int32} {pit kind deg brs : Nat → Int32} {p : Int32} {P : Option Value → AH → Prop} (G : Gd N h g pl B pit kind deg brs)
    (hp : P (some (.int (b2i (decide (¬ p < 0) && decide (¬ pl ≤ p))))) h) : Sem l QX1_isPlace N h [.ref g, .int p] P := by
  obtain ⟨hN, h0, -⟩ := G
  refine iX1_isPlace rfl ?_
  intro Z hZ
  repeat (first | refine hZ _ _ _ _ ⟨rfl, ?_⟩ | refine hZ _ _ _ _ ⟨_, _, (by repeat (first | exact up_s | assumption | refine up_n (by omega) ?_)), adl (by omega), (by rfl), ?_⟩ | refine hZ _ _ _ _ ⟨_, _, (by repeat (first | exact up_s | assumption | refine up_n (by omega) ?_)), adl (by omega), (by first | assumption | exact vp_in_nI (by omega) (by omega)), ?_⟩ | refine hZ _ _ _ _ ⟨_, (by repeat (first | exact up_s | assumption | refine up_n (by omega) ?_)), adl (by omega), (by rfl), trivial, ?_⟩ | refine hZ _ _ _ _ ⟨trivial, ?_⟩ | refine hZ _ _ _ _ ?_)
  refine ⟨fun c => ?_, fun c => ?_⟩
  · repeat (first | refine hZ _ _ _ _ ⟨rfl, ?_⟩ | refine hZ _ _ _ _ ⟨_, _, (by repeat (first | exact up_s | assumption | refine up_n (by omega) ?_)), adl (by omega), (by rfl), ?_⟩ | refine hZ _ _ _ _ ⟨_, _, (by repeat (first | exact up_s | assumption | refine up_n (by omega) ?_)), adl (by omega), (by first | assumption | exact vp_in_nI (by omega) (by omega)), ?_⟩ | refine hZ _ _ _ _ ⟨_, (by repeat (first | exact up_s | assumption | refine up_n (by omega) ?_)), adl (by omega), (by rfl), trivial, ?_⟩ | refine hZ _ _ _ _ ⟨trivial, ?_⟩ | refine hZ _ _ _ _ ?_)
    simpa [c, b2i] using hp
  · repeat (first | refine hZ _ _ _ _ ⟨rfl, ?_⟩ | refine hZ _ _ _ _ ⟨_, _, (by repeat (first | exact up_s | assumption | refine up_n (by omega) ?_)), adl (by omega), (by rfl), ?_⟩ | refine hZ _ _ _ _ ⟨_, _, (by repeat (first | exact up_s | assumption | refine up_n (by omega) ?_)), adl (by omega), (by first | assumption | exact vp_in_nI (by omega) (by omega)), ?_⟩ | refine hZ _ _ _ _ ⟨_, (by repeat (first | exact up_s | assumption | refine up_n (by omega) ?_)), adl (by omega), (by rfl), trivial, ?_⟩ | refine hZ _ _ _ _ ⟨trivial, ?_⟩ | refine hZ _ _ _ _ ?_)
    refine ⟨fun c1 => ?_, fun c1 => ?_⟩
    · repeat (first | refine hZ _ _ _ _ ⟨rfl, ?_⟩ | refine hZ _ _ _ _ ⟨_, _, (by repeat (first | exact up_s | assumption | refine up_n (by omega) ?_)), adl (by omega), (by rfl), ?_⟩ | refine hZ _ _ _ _ ⟨_, _, (by repeat (first | exact up_s | assumption | refine up_n (by omega) ?_)), adl (by omega), (by first | assumption | exact vp_in_nI (by omega) (by omega)), ?_⟩ | refine hZ _ _ _ _ ⟨_, (by repeat (first | exact up_s | assumption | refine up_n (by omega) ?_)), adl (by omega), (by rfl), trivial, ?_⟩ | refine hZ _ _ _ _ ⟨trivial, ?_⟩ | refine hZ _ _ _ _ ?_)
      simpa [c, c1, b2i] using hp
    · repeat (first | refine hZ _ _ _ _ ⟨rfl, ?_⟩ | refine hZ _ _ _ _ ⟨_, _, (by repeat (first | exact up_s | assumption | refine up_n (by omega) ?_)), adl (by omega), (by rfl), ?_⟩ | refine hZ _ _ _ _ ⟨_, _, (by repeat (first | exact up_s | assumption | refine up_n (by omega) ?_)), adl (by omega), (by first | assumption | exact vp_in_nI (by omega) (by omega)), ?_⟩ | refine hZ _ _ _ _ ⟨_, (by repeat (first | exact up_s | assumption | refine up_n (by omega) ?_)), adl (by omega), (by rfl), trivial, ?_⟩ | refine hZ _ _ _ _ ⟨trivial, ?_⟩ | refine hZ _ _ _ _ ?_)
      simpa [c, c1, b2i] using hp
theorem c_Ground_isPlace_in {l : Launch} {N : Nat} {h : AH} {g n p : Nat} {B : Nat → Nat → Int32} {pit kind deg brs : Nat → Int32} {P : Option Value → AH → Prop} (G : Gd N h g (nI n) B pit kind deg brs) (hpn : p < n) (hn : n ≤ 5)
    (hp : P (some (.int 1)) h) : Sem l QX1_isPlace N h [.ref g, .int (nI p)] P := by
  refine c_Ground_isPlace G ?_
  have e : b2i (decide (¬ nI p < 0) && decide (¬ nI n ≤ nI p)) = 1 := by
    have h1 : ¬ nI p < 0 := nI_pos (by omega)
    have h2 : ¬ nI n ≤ nI p := nI_ge hpn (by omega)
    simp [h1, h2, b2i]
  rw [e]; exact hp
theorem c_Ground_pathsInto {l : Launch} {N : Nat} {h : AH} {g n p S : Nat} {B : Nat → Nat → Int32} {pit kind deg brs : Nat → Int32} {a : Nat → Nat} {P : Option Value → AH → Prop} (G : Gd N h g (nI n) B pit kind deg brs) (hn : n ≤ 5) (hpn : p < 5) (hS : S < 2 ^ 31) (hB : ∀ q, q < n → B p q = nI (a q))
    (hp : P (some (.int (nI (pin a S n)))) h) : Sem l QX1_pathsInto N h [.ref g, .int (nI p), .int (nI S)] P := by
  obtain ⟨hN, h0, h1, h2, -⟩ := G
  have h3 := h2 p hpn
  refine iX1_pathsInto rfl ?_
  intro Z hZ
  have loop : ∀ d q, q + d = n → Z h 5 [some (.ref g), some (.int (nI p)), some (.int (nI S)), some (.int (nI (pin a S q))), some (.int (nI q))] [] := by
    intro d
    induction d with
    | zero =>
      intro q hq
      repeat (first | refine hZ _ _ _ _ ⟨rfl, ?_⟩ | refine hZ _ _ _ _ ⟨_, _, (by repeat (first | exact up_s | assumption | refine up_n (by omega) ?_)), adl (by omega), (by rfl), ?_⟩ | refine hZ _ _ _ _ ⟨_, _, (by repeat (first | exact up_s | assumption | refine up_n (by omega) ?_)), adl (by omega), (by first | assumption | exact vp_in_nI (by omega) (by omega)), ?_⟩ | refine hZ _ _ _ _ ⟨_, (by repeat (first | exact up_s | assumption | refine up_n (by omega) ?_)), adl (by omega), (by rfl), trivial, ?_⟩ | refine hZ _ _ _ _ ⟨trivial, ?_⟩ | refine hZ _ _ _ _ ?_)
      refine ⟨fun c => ?_, fun c => absurd (nI_le (by omega) (by omega)) c⟩
      repeat (first | refine hZ _ _ _ _ ⟨rfl, ?_⟩ | refine hZ _ _ _ _ ⟨_, _, (by repeat (first | exact up_s | assumption | refine up_n (by omega) ?_)), adl (by omega), (by rfl), ?_⟩ | refine hZ _ _ _ _ ⟨_, _, (by repeat (first | exact up_s | assumption | refine up_n (by omega) ?_)), adl (by omega), (by first | assumption | exact vp_in_nI (by omega) (by omega)), ?_⟩ | refine hZ _ _ _ _ ⟨_, (by repeat (first | exact up_s | assumption | refine up_n (by omega) ?_)), adl (by omega), (by rfl), trivial, ?_⟩ | refine hZ _ _ _ _ ⟨trivial, ?_⟩ | refine hZ _ _ _ _ ?_)
      have e : q = n := by omega
      rw [e]; exact hp
    | succ d ih =>
      intro q hq
      have nx := ih (q + 1) (by omega)
      repeat (first | refine hZ _ _ _ _ ⟨rfl, ?_⟩ | refine hZ _ _ _ _ ⟨_, _, (by repeat (first | exact up_s | assumption | refine up_n (by omega) ?_)), adl (by omega), (by rfl), ?_⟩ | refine hZ _ _ _ _ ⟨_, _, (by repeat (first | exact up_s | assumption | refine up_n (by omega) ?_)), adl (by omega), (by first | assumption | exact vp_in_nI (by omega) (by omega)), ?_⟩ | refine hZ _ _ _ _ ⟨_, (by repeat (first | exact up_s | assumption | refine up_n (by omega) ?_)), adl (by omega), (by rfl), trivial, ?_⟩ | refine hZ _ _ _ _ ⟨trivial, ?_⟩ | refine hZ _ _ _ _ ?_)
      refine ⟨fun c => absurd c (nI_ge (by omega) (by omega)), fun c => ?_⟩
      repeat (first | refine hZ _ _ _ _ ⟨rfl, ?_⟩ | refine hZ _ _ _ _ ⟨_, _, (by repeat (first | exact up_s | assumption | refine up_n (by omega) ?_)), adl (by omega), (by rfl), ?_⟩ | refine hZ _ _ _ _ ⟨_, _, (by repeat (first | exact up_s | assumption | refine up_n (by omega) ?_)), adl (by omega), (by first | assumption | exact vp_in_nI (by omega) (by omega)), ?_⟩ | refine hZ _ _ _ _ ⟨_, (by repeat (first | exact up_s | assumption | refine up_n (by omega) ?_)), adl (by omega), (by rfl), trivial, ?_⟩ | refine hZ _ _ _ _ ⟨trivial, ?_⟩ | refine hZ _ _ _ _ ?_)
      rw [lit_1, shr_bit hS (by omega)]
      have hbit : S / 2 ^ q % 2 < 2 := Nat.mod_lt _ (by decide)
      refine ⟨fun c => ?_, fun c => ?_⟩
      · iterate 1 (first | refine hZ _ _ _ _ ⟨rfl, ?_⟩ | refine hZ _ _ _ _ ⟨_, _, (by repeat (first | exact up_s | assumption | refine up_n (by omega) ?_)), adl (by omega), (by rfl), ?_⟩ | refine hZ _ _ _ _ ⟨_, _, (by repeat (first | exact up_s | assumption | refine up_n (by omega) ?_)), adl (by omega), (by first | assumption | exact vp_in_nI (by omega) (by omega)), ?_⟩ | refine hZ _ _ _ _ ⟨_, (by repeat (first | exact up_s | assumption | refine up_n (by omega) ?_)), adl (by omega), (by rfl), trivial, ?_⟩ | refine hZ _ _ _ _ ⟨trivial, ?_⟩ | refine hZ _ _ _ _ ?_)
        show Z _ 39 _ _
        rw [nI_inc, ← pin_n (fun e => c (by rw [e]))]
        exact hZ _ _ _ _ nx
      · iterate 4 (first | refine hZ _ _ _ _ ⟨rfl, ?_⟩ | refine hZ _ _ _ _ ⟨_, _, (by repeat (first | exact up_s | assumption | refine up_n (by omega) ?_)), adl (by omega), (by rfl), ?_⟩ | refine hZ _ _ _ _ ⟨_, _, (by repeat (first | exact up_s | assumption | refine up_n (by omega) ?_)), adl (by omega), (by first | assumption | exact vp_in_nI (by omega) (by omega)), ?_⟩ | refine hZ _ _ _ _ ⟨_, (by repeat (first | exact up_s | assumption | refine up_n (by omega) ?_)), adl (by omega), (by rfl), trivial, ?_⟩ | refine hZ _ _ _ _ ⟨trivial, ?_⟩ | refine hZ _ _ _ _ ?_)
        show Z _ 30 _ _
        refine hZ _ _ _ _ ⟨_, _, _, _, h1, Or.inr (Or.inl rfl), adl (by omega), (by first | assumption | exact vp_in_nI (by omega) (by omega)), rowsF_at hpn, ?_⟩
        iterate 5 (first | refine hZ _ _ _ _ ⟨rfl, ?_⟩ | refine hZ _ _ _ _ ⟨_, _, (by repeat (first | exact up_s | assumption | refine up_n (by omega) ?_)), adl (by omega), (by rfl), ?_⟩ | refine hZ _ _ _ _ ⟨_, _, (by repeat (first | exact up_s | assumption | refine up_n (by omega) ?_)), adl (by omega), (by first | assumption | exact vp_in_nI (by omega) (by omega)), ?_⟩ | refine hZ _ _ _ _ ⟨_, (by repeat (first | exact up_s | assumption | refine up_n (by omega) ?_)), adl (by omega), (by rfl), trivial, ?_⟩ | refine hZ _ _ _ _ ⟨trivial, ?_⟩ | refine hZ _ _ _ _ ?_)
        show Z _ 39 _ _
        rw [nI_clamp (by omega), hB q (by omega), nI_inc, nI_add, ← pin_s ((nI_eq (by omega) (by omega)).mp c)]
        exact hZ _ _ _ _ nx
  have st := loop n 0 (by omega)
  iterate 4 (first | refine hZ _ _ _ _ ⟨rfl, ?_⟩ | refine hZ _ _ _ _ ⟨_, _, (by repeat (first | exact up_s | assumption | refine up_n (by omega) ?_)), adl (by omega), (by rfl), ?_⟩ | refine hZ _ _ _ _ ⟨_, _, (by repeat (first | exact up_s | assumption | refine up_n (by omega) ?_)), adl (by omega), (by first | assumption | exact vp_in_nI (by omega) (by omega)), ?_⟩ | refine hZ _ _ _ _ ⟨_, (by repeat (first | exact up_s | assumption | refine up_n (by omega) ?_)), adl (by omega), (by rfl), trivial, ?_⟩ | refine hZ _ _ _ _ ⟨trivial, ?_⟩ | refine hZ _ _ _ _ ?_)
  show Z _ 5 _ _
  exact st
theorem c_Ground_becomeKind {l : Launch} {N : Nat} {h : AH} {g p k d : Nat} {pl : Int32} {B : Nat → Nat → Int32} {pit kind deg brs : Nat → Int32} {P : Option Value → AH → Prop} (G : Gd N h g pl B pit kind deg brs) (hpn : p < 5) (hk : k ≤ 2) (hd : deg p = nI d)
    (hp : ∀ h', Gd N h' g pl B pit (upd kind p (nI k)) deg (upd brs p (nI (bea k d))) → Fr g (g + 11) h h' → P none h') : Sem l QX1_becomeKind N h [.ref g, .int (nI p), .int (nI k)] P := by
  obtain ⟨hN, h0, h1, h2, h3, h4, h5, h6⟩ := G
  refine iX1_becomeKind rfl ?_
  intro Z hZ
  have fin : ∀ x : Int32, x = nI (bea k d) → P none (va_up (va_up h (g + 8) (.inl (0, 5, .inl (upd kind p (nI k))))) (g + 10) (.inl (0, 5, .inl (upd brs p x)))) := by
    intro x hx
    subst hx
    refine hp _ ⟨hN, (by repeat (first | exact up_s | assumption | refine up_n (by omega) ?_)), (by repeat (first | exact up_s | assumption | refine up_n (by omega) ?_)), fun i hi => ?_, (by repeat (first | exact up_s | assumption | refine up_n (by omega) ?_)), (by repeat (first | exact up_s | assumption | refine up_n (by omega) ?_)), (by repeat (first | exact up_s | assumption | refine up_n (by omega) ?_)), (by repeat (first | exact up_s | assumption | refine up_n (by omega) ?_))⟩ ((Fr.rf.up (by omega) (by omega)).up (by omega) (by omega))
    exact up_n (by omega) (up_n (by omega) (h2 i hi))
  repeat (first | refine hZ _ _ _ _ ⟨rfl, ?_⟩ | refine hZ _ _ _ _ ⟨_, _, (by repeat (first | exact up_s | assumption | refine up_n (by omega) ?_)), adl (by omega), (by rfl), ?_⟩ | refine hZ _ _ _ _ ⟨_, _, (by repeat (first | exact up_s | assumption | refine up_n (by omega) ?_)), adl (by omega), (by first | assumption | exact vp_in_nI (by omega) (by omega)), ?_⟩ | refine hZ _ _ _ _ ⟨_, (by repeat (first | exact up_s | assumption | refine up_n (by omega) ?_)), adl (by omega), (by rfl), trivial, ?_⟩ | refine hZ _ _ _ _ ⟨trivial, ?_⟩ | refine hZ _ _ _ _ ?_)
  refine ⟨fun c => ?_, fun c => ⟨fun c1 => ?_, fun c1 => ?_⟩⟩
  · repeat (first | refine hZ _ _ _ _ ⟨rfl, ?_⟩ | refine hZ _ _ _ _ ⟨_, _, (by repeat (first | exact up_s | assumption | refine up_n (by omega) ?_)), adl (by omega), (by rfl), ?_⟩ | refine hZ _ _ _ _ ⟨_, _, (by repeat (first | exact up_s | assumption | refine up_n (by omega) ?_)), adl (by omega), (by first | assumption | exact vp_in_nI (by omega) (by omega)), ?_⟩ | refine hZ _ _ _ _ ⟨_, (by repeat (first | exact up_s | assumption | refine up_n (by omega) ?_)), adl (by omega), (by rfl), trivial, ?_⟩ | refine hZ _ _ _ _ ⟨trivial, ?_⟩ | refine hZ _ _ _ _ ?_)
    have e : k = 1 := by
      have : (nI k).toInt = 1 := c
      rw [nI_toInt (by omega)] at this
      omega
    have := fin _ (show nI d + nI 1 = nI (bea k d) by rw [e, nI_add]; rfl)
    simp only [nI_clamp (show p < 2 ^ 31 by omega), hd, lit_1] at this ⊢
    exact this
  · repeat (first | refine hZ _ _ _ _ ⟨rfl, ?_⟩ | refine hZ _ _ _ _ ⟨_, _, (by repeat (first | exact up_s | assumption | refine up_n (by omega) ?_)), adl (by omega), (by rfl), ?_⟩ | refine hZ _ _ _ _ ⟨_, _, (by repeat (first | exact up_s | assumption | refine up_n (by omega) ?_)), adl (by omega), (by first | assumption | exact vp_in_nI (by omega) (by omega)), ?_⟩ | refine hZ _ _ _ _ ⟨_, (by repeat (first | exact up_s | assumption | refine up_n (by omega) ?_)), adl (by omega), (by rfl), trivial, ?_⟩ | refine hZ _ _ _ _ ⟨trivial, ?_⟩ | refine hZ _ _ _ _ ?_)
    have e : k = 2 := by
      have : (nI k).toInt = 2 := c1
      rw [nI_toInt (by omega)] at this
      omega
    have := fin _ (show nI 2 * nI d = nI (bea k d) by rw [e, pk_mul]; rfl)
    simp only [nI_clamp (show p < 2 ^ 31 by omega), hd, lit_2] at this ⊢
    exact this
  · repeat (first | refine hZ _ _ _ _ ⟨rfl, ?_⟩ | refine hZ _ _ _ _ ⟨_, _, (by repeat (first | exact up_s | assumption | refine up_n (by omega) ?_)), adl (by omega), (by rfl), ?_⟩ | refine hZ _ _ _ _ ⟨_, _, (by repeat (first | exact up_s | assumption | refine up_n (by omega) ?_)), adl (by omega), (by first | assumption | exact vp_in_nI (by omega) (by omega)), ?_⟩ | refine hZ _ _ _ _ ⟨_, (by repeat (first | exact up_s | assumption | refine up_n (by omega) ?_)), adl (by omega), (by rfl), trivial, ?_⟩ | refine hZ _ _ _ _ ⟨trivial, ?_⟩ | refine hZ _ _ _ _ ?_)
    have e : k = 0 := by
      have c2 : ¬ (nI k).toInt = 1 := c
      have c3 : ¬ (nI k).toInt = 2 := c1
      rw [nI_toInt (by omega)] at c2 c3
      omega
    have := fin _ (show nI d = nI (bea k d) by rw [e]; rfl)
    simp only [nI_clamp (show p < 2 ^ 31 by omega), hd] at this ⊢
    exact this
