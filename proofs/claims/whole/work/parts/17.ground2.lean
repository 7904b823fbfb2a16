/-! ===== Ground: degrees, shut places; Heaps: sums and sets ===== -/
theorem lit_m9 : (Int8.ofInt (-9)).toInt32 = -9 := by decide
theorem nI_gt0 {x : Nat} (h : x < 2 ^ 31) : 0 < nI x ↔ 0 < x := by
  have := nI_ltI (a := 0) (b := x) (by omega) h
  rw [nI_0] at this
  exact this
theorem nI_le0 {x : Nat} (h : x < 2 ^ 31) : nI x ≤ 0 ↔ x = 0 := by
  have := nI_leI (a := x) (b := 0) h (by omega)
  rw [nI_0] at this
  rw [this]
  omega
theorem pin_le {a : Nat → Nat} {S n c : Nat} (h : ∀ q, q < n → a q ≤ c) : pin a S n ≤ n * c := by
  refine sm_le (fun i hi => ?_)
  split
  · exact h i hi
  · exact Nat.zero_le _
set_option maxHeartbeats 1000000 in
theorem c_Ground_count {l : Launch} {N : Nat} {h : AH} {g n : Nat} {B : Nat → Nat → Int32} {pit kind deg brs : Nat → Int32} {a : Nat → Nat → Nat} {w κ : Nat → Nat} {P : Option Value → AH → Prop} (G : Gd N h g (nI n) B pit kind deg brs) (hn : n ≤ 5) (hB : ∀ p q, p < n → q < n → B p q = nI (a p q)) (hw : ∀ p, p < n → pit p = nI (w p)) (hk : ∀ p, p < n → kind p = nI (κ p)) (hk2 : ∀ p, p < n → κ p ≤ 2)
    (hp : ∀ h' kind' deg' brs', Gd N h' g (nI n) B pit kind' deg' brs' → Gv n a w κ B pit kind' deg' brs' → Fr g (g + 11) h h' → P none h') : Sem l QX1_countDegrees N h [.ref g] P := by
  refine iX1_countDegrees rfl ?_
  intro Z hZ
  have loop : ∀ e p h1 kind1 deg1 brs1, p + e = n → Gd N h1 g (nI n) B pit kind1 deg1 brs1 → (∀ j, j < n → kind1 j = nI (κ j)) → (∀ j, j < p → deg1 j = nI (dgr n a w j) ∧ brs1 j = nI (bea (κ j) (dgr n a w j))) → Fr g (g + 11) h h1 → Z h1 2 [some (.ref g), some (.int (nI p))] [] := by
    intro e
    induction e with
    | zero =>
      intro p h1 kind1 deg1 brs1 hpe G1 hk1 hd1 F
      have G2 := G1
      obtain ⟨gN, r0, r1, r2, r3, r4, r5, r6⟩ := G1
      repeat (first | refine hZ _ _ _ _ ⟨rfl, ?_⟩ | refine hZ _ _ _ _ ⟨_, _, (by repeat (first | exact up_s | assumption | refine up_n (by omega) ?_)), adl (by omega), (by rfl), ?_⟩ | refine hZ _ _ _ _ ⟨_, _, (by repeat (first | exact up_s | assumption | refine up_n (by omega) ?_)), adl (by omega), (by first | assumption | exact vp_in_nI (by omega) (by omega)), ?_⟩ | refine hZ _ _ _ _ ⟨_, (by repeat (first | exact up_s | assumption | refine up_n (by omega) ?_)), adl (by omega), (by rfl), trivial, ?_⟩ | refine hZ _ _ _ _ ⟨trivial, ?_⟩ | refine hZ _ _ _ _ ?_)
      refine ⟨fun c => ?_, fun c => absurd (nI_le (by omega) (by omega)) c⟩
      repeat (first | refine hZ _ _ _ _ ⟨rfl, ?_⟩ | refine hZ _ _ _ _ ⟨_, _, (by repeat (first | exact up_s | assumption | refine up_n (by omega) ?_)), adl (by omega), (by rfl), ?_⟩ | refine hZ _ _ _ _ ⟨_, _, (by repeat (first | exact up_s | assumption | refine up_n (by omega) ?_)), adl (by omega), (by first | assumption | exact vp_in_nI (by omega) (by omega)), ?_⟩ | refine hZ _ _ _ _ ⟨_, (by repeat (first | exact up_s | assumption | refine up_n (by omega) ?_)), adl (by omega), (by rfl), trivial, ?_⟩ | refine hZ _ _ _ _ ⟨trivial, ?_⟩ | refine hZ _ _ _ _ ?_)
      exact hp h1 kind1 deg1 brs1 G2 ⟨hB, hw, hk1, fun j hj => (hd1 j (by omega)).1, fun j hj => (hd1 j (by omega)).2⟩ F
    | succ e ih =>
      intro p h1 kind1 deg1 brs1 hpe G1 hk1 hd1 F
      have G2 := G1
      obtain ⟨gN, r0, r1, r2, r3, r4, r5, r6⟩ := G1
      have hpow : 1 ≤ 2 ^ n := Nat.one_le_two_pow
      have hpow2 : 2 ^ n ≤ 2 ^ 5 := Nat.pow_le_pow_right (by decide) hn
      repeat (first | refine hZ _ _ _ _ ⟨rfl, ?_⟩ | refine hZ _ _ _ _ ⟨_, _, (by repeat (first | exact up_s | assumption | refine up_n (by omega) ?_)), adl (by omega), (by rfl), ?_⟩ | refine hZ _ _ _ _ ⟨_, _, (by repeat (first | exact up_s | assumption | refine up_n (by omega) ?_)), adl (by omega), (by first | assumption | exact vp_in_nI (by omega) (by omega)), ?_⟩ | refine hZ _ _ _ _ ⟨_, (by repeat (first | exact up_s | assumption | refine up_n (by omega) ?_)), adl (by omega), (by rfl), trivial, ?_⟩ | refine hZ _ _ _ _ ⟨trivial, ?_⟩ | refine hZ _ _ _ _ ?_)
      refine ⟨fun c => absurd c (nI_ge (by omega) (by omega)), fun c => ?_⟩
      iterate 15 (first | refine hZ _ _ _ _ ⟨rfl, ?_⟩ | refine hZ _ _ _ _ ⟨_, _, (by repeat (first | exact up_s | assumption | refine up_n (by omega) ?_)), adl (by omega), (by rfl), ?_⟩ | refine hZ _ _ _ _ ⟨_, _, (by repeat (first | exact up_s | assumption | refine up_n (by omega) ?_)), adl (by omega), (by first | assumption | exact vp_in_nI (by omega) (by omega)), ?_⟩ | refine hZ _ _ _ _ ⟨_, (by repeat (first | exact up_s | assumption | refine up_n (by omega) ?_)), adl (by omega), (by rfl), trivial, ?_⟩ | refine hZ _ _ _ _ ⟨trivial, ?_⟩ | refine hZ _ _ _ _ ?_)
      show Z _ 31 _ _
      rw [lit_1, shl_bit (by omega), pk_sub hpow, nI_clamp (by omega), hw p (by omega)]
      refine hZ _ _ _ _ ⟨⟨_, (by repeat (first | exact up_s | assumption | refine up_n (by omega) ?_))⟩, adl (by omega), rfl, ?_⟩
      refine c_Ground_pathsInto (a := a p) G2 hn (by omega) (by omega) (fun q hq => hB p q (by omega) hq) ?_
      show Z _ 34 _ _
      rw [pin_all (Nat.le_refl n)]
      iterate 8 (first | refine hZ _ _ _ _ ⟨rfl, ?_⟩ | refine hZ _ _ _ _ ⟨_, _, (by repeat (first | exact up_s | assumption | refine up_n (by omega) ?_)), adl (by omega), (by rfl), ?_⟩ | refine hZ _ _ _ _ ⟨_, _, (by repeat (first | exact up_s | assumption | refine up_n (by omega) ?_)), adl (by omega), (by first | assumption | exact vp_in_nI (by omega) (by omega)), ?_⟩ | refine hZ _ _ _ _ ⟨_, (by repeat (first | exact up_s | assumption | refine up_n (by omega) ?_)), adl (by omega), (by rfl), trivial, ?_⟩ | refine hZ _ _ _ _ ⟨trivial, ?_⟩ | refine hZ _ _ _ _ ?_)
      show Z _ 44 _ _
      rw [nI_add, nI_clamp (by omega), hk1 p (by omega)]
      refine hZ _ _ _ _ ⟨⟨_, (by repeat (first | exact up_s | assumption | refine up_n (by omega) ?_))⟩, adl (by omega), rfl, ?_⟩
      have G3 : Gd N (va_up h1 (g + 9) (.inl (0, 5, .inl (upd deg1 p (nI (w p + sm (a p) n)))))) g (nI n) B pit kind1 (upd deg1 p (nI (w p + sm (a p) n))) brs1 := ⟨gN, (by repeat (first | exact up_s | assumption | refine up_n (by omega) ?_)), (by repeat (first | exact up_s | assumption | refine up_n (by omega) ?_)), fun i hi => up_n (by omega) (r2 i hi), (by repeat (first | exact up_s | assumption | refine up_n (by omega) ?_)), (by repeat (first | exact up_s | assumption | refine up_n (by omega) ?_)), (by repeat (first | exact up_s | assumption | refine up_n (by omega) ?_)), (by repeat (first | exact up_s | assumption | refine up_n (by omega) ?_))⟩
      refine c_Ground_becomeKind (d := dgr n a w p) G3 (by omega) (hk2 p (by omega)) (upd_s rfl) (fun h4 G4 F4 => ?_)
      show Z _ 47 _ _
      iterate 2 (first | refine hZ _ _ _ _ ⟨rfl, ?_⟩ | refine hZ _ _ _ _ ⟨_, _, (by repeat (first | exact up_s | assumption | refine up_n (by omega) ?_)), adl (by omega), (by rfl), ?_⟩ | refine hZ _ _ _ _ ⟨_, _, (by repeat (first | exact up_s | assumption | refine up_n (by omega) ?_)), adl (by omega), (by first | assumption | exact vp_in_nI (by omega) (by omega)), ?_⟩ | refine hZ _ _ _ _ ⟨_, (by repeat (first | exact up_s | assumption | refine up_n (by omega) ?_)), adl (by omega), (by rfl), trivial, ?_⟩ | refine hZ _ _ _ _ ⟨trivial, ?_⟩ | refine hZ _ _ _ _ ?_)
      show Z _ 2 _ _
      rw [nI_inc]
      refine ih (p + 1) h4 _ _ _ (by omega) G4 (fun j hj => ?_) (fun j hj => ?_) ((F.up (by omega) (by omega)).tr F4)
      · by_cases e1 : j = p
        · rw [upd_s e1, e1]
        · rw [pk_un e1]; exact hk1 j hj
      · by_cases e1 : j = p
        · rw [upd_s e1, upd_s e1, e1]
          exact ⟨rfl, rfl⟩
        · rw [pk_un e1, pk_un e1]; exact hd1 j (by omega)
  iterate 2 (first | refine hZ _ _ _ _ ⟨rfl, ?_⟩ | refine hZ _ _ _ _ ⟨_, _, (by repeat (first | exact up_s | assumption | refine up_n (by omega) ?_)), adl (by omega), (by rfl), ?_⟩ | refine hZ _ _ _ _ ⟨_, _, (by repeat (first | exact up_s | assumption | refine up_n (by omega) ?_)), adl (by omega), (by first | assumption | exact vp_in_nI (by omega) (by omega)), ?_⟩ | refine hZ _ _ _ _ ⟨_, (by repeat (first | exact up_s | assumption | refine up_n (by omega) ?_)), adl (by omega), (by rfl), trivial, ?_⟩ | refine hZ _ _ _ _ ⟨trivial, ?_⟩ | refine hZ _ _ _ _ ?_)
  show Z _ 2 _ _
  exact loop n 0 h kind deg brs (by omega) G hk (fun j hj => absurd hj (Nat.not_lt_zero j)) Fr.rf
/-- the least place that isn't in a set, n if there is none -/
def lso (S : Nat) : Nat → Nat → Nat
  | 0, k => k
  | e + 1, k => if bt1 S k = 1 then lso S e (k + 1) else k
set_option maxHeartbeats 1000000 in
theorem c_Ground_leastShut {l : Launch} {N : Nat} {h : AH} {g n : Nat} {B : Nat → Nat → Int32} {pit kind deg brs : Nat → Int32} {a : Nat → Nat → Nat} {w : Nat → Nat} {P : Option Value → AH → Prop} (G : Gd N h g (nI n) B pit kind deg brs) (hn : n ≤ 5) (hB : ∀ p q, p < n → q < n → B p q = nI (a p q)) (ha : ∀ p q, p < n → q < n → a p q ≤ 3) (hw : ∀ p, p < n → pit p = nI (w p)) (hw3 : ∀ p, p < n → w p ≤ 3)
    (hp : ∀ s, s = lso (itr (opc n a w) n n) n 0 → (s = n → P (some (.int (-9))) h) ∧ (s < n → P (some (.int (nI s))) h)) : Sem l QX1_leastShut N h [.ref g] P := by
  have G0 := G
  obtain ⟨gN, r0, r1, r2, r3, r4, r5, r6⟩ := G
  refine iX1_leastShut rfl ?_
  intro Z hZ
  have hS : ∀ S, S < 2 ^ n → S < 2 ^ 31 := fun S hS => Nat.lt_of_lt_of_le hS (Nat.pow_le_pow_right (by decide) (by omega))
  -- the last loop
  have last : ∀ e k S, k + e = n → S < 2 ^ n → (∀ s, s = lso S e k → (s = n → P (some (.int (-9))) h) ∧ (s < n → P (some (.int (nI s))) h)) → ∀ o3, Z h 60 [some (.ref g), some (.int (nI S)), some (.int (nI k)), o3] [] := by
    intro e
    induction e with
    | zero =>
      intro k S hk hSn hq o3
      repeat (first | refine hZ _ _ _ _ ⟨rfl, ?_⟩ | refine hZ _ _ _ _ ⟨_, _, (by repeat (first | exact up_s | assumption | refine up_n (by omega) ?_)), adl (by omega), (by rfl), ?_⟩ | refine hZ _ _ _ _ ⟨_, _, (by repeat (first | exact up_s | assumption | refine up_n (by omega) ?_)), adl (by omega), (by first | assumption | exact vp_in_nI (by omega) (by omega)), ?_⟩ | refine hZ _ _ _ _ ⟨_, (by repeat (first | exact up_s | assumption | refine up_n (by omega) ?_)), adl (by omega), (by rfl), trivial, ?_⟩ | refine hZ _ _ _ _ ⟨trivial, ?_⟩ | refine hZ _ _ _ _ ?_)
      refine ⟨fun c => ?_, fun c => absurd (nI_le (by omega) (by omega)) c⟩
      repeat (first | refine hZ _ _ _ _ ⟨rfl, ?_⟩ | refine hZ _ _ _ _ ⟨_, _, (by repeat (first | exact up_s | assumption | refine up_n (by omega) ?_)), adl (by omega), (by rfl), ?_⟩ | refine hZ _ _ _ _ ⟨_, _, (by repeat (first | exact up_s | assumption | refine up_n (by omega) ?_)), adl (by omega), (by first | assumption | exact vp_in_nI (by omega) (by omega)), ?_⟩ | refine hZ _ _ _ _ ⟨_, (by repeat (first | exact up_s | assumption | refine up_n (by omega) ?_)), adl (by omega), (by rfl), trivial, ?_⟩ | refine hZ _ _ _ _ ⟨trivial, ?_⟩ | refine hZ _ _ _ _ ?_)
      rw [lit_m9]
      exact (hq k rfl).1 (by omega)
    | succ e ih =>
      intro k S hk hSn hq o3
      repeat (first | refine hZ _ _ _ _ ⟨rfl, ?_⟩ | refine hZ _ _ _ _ ⟨_, _, (by repeat (first | exact up_s | assumption | refine up_n (by omega) ?_)), adl (by omega), (by rfl), ?_⟩ | refine hZ _ _ _ _ ⟨_, _, (by repeat (first | exact up_s | assumption | refine up_n (by omega) ?_)), adl (by omega), (by first | assumption | exact vp_in_nI (by omega) (by omega)), ?_⟩ | refine hZ _ _ _ _ ⟨_, (by repeat (first | exact up_s | assumption | refine up_n (by omega) ?_)), adl (by omega), (by rfl), trivial, ?_⟩ | refine hZ _ _ _ _ ⟨trivial, ?_⟩ | refine hZ _ _ _ _ ?_)
      refine ⟨fun c => absurd c (nI_ge (by omega) (by omega)), fun c => ?_⟩
      repeat (first | refine hZ _ _ _ _ ⟨rfl, ?_⟩ | refine hZ _ _ _ _ ⟨_, _, (by repeat (first | exact up_s | assumption | refine up_n (by omega) ?_)), adl (by omega), (by rfl), ?_⟩ | refine hZ _ _ _ _ ⟨_, _, (by repeat (first | exact up_s | assumption | refine up_n (by omega) ?_)), adl (by omega), (by first | assumption | exact vp_in_nI (by omega) (by omega)), ?_⟩ | refine hZ _ _ _ _ ⟨_, (by repeat (first | exact up_s | assumption | refine up_n (by omega) ?_)), adl (by omega), (by rfl), trivial, ?_⟩ | refine hZ _ _ _ _ ⟨trivial, ?_⟩ | refine hZ _ _ _ _ ?_)
      rw [lit_1, shr_bit (hS S hSn) (by omega)]
      have hb := bt1_lt S k
      refine ⟨fun c => ?_, fun c => ?_⟩
      · have e1 : bt1 S k = 1 := by
          rcases Nat.lt_or_ge (bt1 S k) 1 with z | z
          · exact absurd (show nI (bt1 S k) = 0 by rw [show bt1 S k = 0 by omega]; rfl) c
          · omega
        iterate 2 (first | refine hZ _ _ _ _ ⟨rfl, ?_⟩ | refine hZ _ _ _ _ ⟨_, _, (by repeat (first | exact up_s | assumption | refine up_n (by omega) ?_)), adl (by omega), (by rfl), ?_⟩ | refine hZ _ _ _ _ ⟨_, _, (by repeat (first | exact up_s | assumption | refine up_n (by omega) ?_)), adl (by omega), (by first | assumption | exact vp_in_nI (by omega) (by omega)), ?_⟩ | refine hZ _ _ _ _ ⟨_, (by repeat (first | exact up_s | assumption | refine up_n (by omega) ?_)), adl (by omega), (by rfl), trivial, ?_⟩ | refine hZ _ _ _ _ ⟨trivial, ?_⟩ | refine hZ _ _ _ _ ?_)
        show Z _ 60 _ _
        rw [nI_inc]
        refine ih (k + 1) S (by omega) hSn (fun s hs => hq s ?_) _
        rw [hs]
        exact (if_pos e1).symm
      · have e1 : ¬ bt1 S k = 1 := by
          intro z
          have c : nI (bt1 S k) = 0 := c
          rw [z] at c
          exact absurd c (by decide)
        repeat (first | refine hZ _ _ _ _ ⟨rfl, ?_⟩ | refine hZ _ _ _ _ ⟨_, _, (by repeat (first | exact up_s | assumption | refine up_n (by omega) ?_)), adl (by omega), (by rfl), ?_⟩ | refine hZ _ _ _ _ ⟨_, _, (by repeat (first | exact up_s | assumption | refine up_n (by omega) ?_)), adl (by omega), (by first | assumption | exact vp_in_nI (by omega) (by omega)), ?_⟩ | refine hZ _ _ _ _ ⟨_, (by repeat (first | exact up_s | assumption | refine up_n (by omega) ?_)), adl (by omega), (by rfl), trivial, ?_⟩ | refine hZ _ _ _ _ ⟨trivial, ?_⟩ | refine hZ _ _ _ _ ?_)
        exact (hq k (if_neg e1).symm).2 (by omega)
  have outer : ∀ e r, r + e = n → ∀ o3, Z h 4 [some (.ref g), some (.int (nI (itr (opc n a w) n r))), some (.int (nI r)), o3] [] := by
    intro e
    induction e with
    | zero =>
      intro r hr o3
      repeat (first | refine hZ _ _ _ _ ⟨rfl, ?_⟩ | refine hZ _ _ _ _ ⟨_, _, (by repeat (first | exact up_s | assumption | refine up_n (by omega) ?_)), adl (by omega), (by rfl), ?_⟩ | refine hZ _ _ _ _ ⟨_, _, (by repeat (first | exact up_s | assumption | refine up_n (by omega) ?_)), adl (by omega), (by first | assumption | exact vp_in_nI (by omega) (by omega)), ?_⟩ | refine hZ _ _ _ _ ⟨_, (by repeat (first | exact up_s | assumption | refine up_n (by omega) ?_)), adl (by omega), (by rfl), trivial, ?_⟩ | refine hZ _ _ _ _ ⟨trivial, ?_⟩ | refine hZ _ _ _ _ ?_)
      refine ⟨fun c => ?_, fun c => absurd (nI_le (by omega) (by omega)) c⟩
      iterate 2 (first | refine hZ _ _ _ _ ⟨rfl, ?_⟩ | refine hZ _ _ _ _ ⟨_, _, (by repeat (first | exact up_s | assumption | refine up_n (by omega) ?_)), adl (by omega), (by rfl), ?_⟩ | refine hZ _ _ _ _ ⟨_, _, (by repeat (first | exact up_s | assumption | refine up_n (by omega) ?_)), adl (by omega), (by first | assumption | exact vp_in_nI (by omega) (by omega)), ?_⟩ | refine hZ _ _ _ _ ⟨_, (by repeat (first | exact up_s | assumption | refine up_n (by omega) ?_)), adl (by omega), (by rfl), trivial, ?_⟩ | refine hZ _ _ _ _ ⟨trivial, ?_⟩ | refine hZ _ _ _ _ ?_)
      show Z _ 60 _ _
      rw [show r = n by omega]
      exact last n 0 _ (by omega) (itr_lt _ _ _) hp _
    | succ e ih =>
      intro r hr o3
      have inner : ∀ i p, p + i = n → Z h 14 [some (.ref g), some (.int (nI (swp (opc n a w) (itr (opc n a w) n r) p))), some (.int (nI r)), some (.int (nI p))] [] := by
        intro i
        induction i with
        | zero =>
          intro p hpi
          repeat (first | refine hZ _ _ _ _ ⟨rfl, ?_⟩ | refine hZ _ _ _ _ ⟨_, _, (by repeat (first | exact up_s | assumption | refine up_n (by omega) ?_)), adl (by omega), (by rfl), ?_⟩ | refine hZ _ _ _ _ ⟨_, _, (by repeat (first | exact up_s | assumption | refine up_n (by omega) ?_)), adl (by omega), (by first | assumption | exact vp_in_nI (by omega) (by omega)), ?_⟩ | refine hZ _ _ _ _ ⟨_, (by repeat (first | exact up_s | assumption | refine up_n (by omega) ?_)), adl (by omega), (by rfl), trivial, ?_⟩ | refine hZ _ _ _ _ ⟨trivial, ?_⟩ | refine hZ _ _ _ _ ?_)
          refine ⟨fun c => ?_, fun c => absurd (nI_le (by omega) (by omega)) c⟩
          iterate 2 (first | refine hZ _ _ _ _ ⟨rfl, ?_⟩ | refine hZ _ _ _ _ ⟨_, _, (by repeat (first | exact up_s | assumption | refine up_n (by omega) ?_)), adl (by omega), (by rfl), ?_⟩ | refine hZ _ _ _ _ ⟨_, _, (by repeat (first | exact up_s | assumption | refine up_n (by omega) ?_)), adl (by omega), (by first | assumption | exact vp_in_nI (by omega) (by omega)), ?_⟩ | refine hZ _ _ _ _ ⟨_, (by repeat (first | exact up_s | assumption | refine up_n (by omega) ?_)), adl (by omega), (by rfl), trivial, ?_⟩ | refine hZ _ _ _ _ ⟨trivial, ?_⟩ | refine hZ _ _ _ _ ?_)
          show Z _ 4 _ _
          rw [nI_inc, show p = n by omega]
          exact ih (r + 1) (by omega) _
        | succ i ihi =>
          intro p hpi
          have hpn : p < n := by omega
          have hSl := swp_lt (c := opc n a w) (itr_lt (opc n a w) n r) (k := p) (by omega)
          have hS1 := hS _ hSl
          have hpl := pin_le (a := a p) (S := swp (opc n a w) (itr (opc n a w) n r) p) (n := n) (c := 3) (fun q hq => ha p q hpn hq)
          have hw1 := hw3 p hpn
          have nx := ihi (p + 1) (by omega)
          generalize hSe : swp (opc n a w) (itr (opc n a w) n r) p = S at *
          have hnx : swp (opc n a w) (itr (opc n a w) n r) (p + 1) = if opc n a w S p = true then S ||| 2 ^ p else S := by
            show (if opc n a w (swp (opc n a w) (itr (opc n a w) n r) p) p = true then _ else _) = _
            rw [hSe]
          rw [hnx] at nx
          have yes : opc n a w S p = true → Z h 40 [some (.ref g), some (.int (nI S)), some (.int (nI r)), some (.int (nI p))] [] := by
            intro hy
            rw [if_pos hy] at nx
            iterate 8 (first | refine hZ _ _ _ _ ⟨rfl, ?_⟩ | refine hZ _ _ _ _ ⟨_, _, (by repeat (first | exact up_s | assumption | refine up_n (by omega) ?_)), adl (by omega), (by rfl), ?_⟩ | refine hZ _ _ _ _ ⟨_, _, (by repeat (first | exact up_s | assumption | refine up_n (by omega) ?_)), adl (by omega), (by first | assumption | exact vp_in_nI (by omega) (by omega)), ?_⟩ | refine hZ _ _ _ _ ⟨_, (by repeat (first | exact up_s | assumption | refine up_n (by omega) ?_)), adl (by omega), (by rfl), trivial, ?_⟩ | refine hZ _ _ _ _ ⟨trivial, ?_⟩ | refine hZ _ _ _ _ ?_)
            show Z _ 14 _ _
            rw [nI_inc, lit_1, shl_bit (by omega), nI_or]
            exact nx
          repeat (first | refine hZ _ _ _ _ ⟨rfl, ?_⟩ | refine hZ _ _ _ _ ⟨_, _, (by repeat (first | exact up_s | assumption | refine up_n (by omega) ?_)), adl (by omega), (by rfl), ?_⟩ | refine hZ _ _ _ _ ⟨_, _, (by repeat (first | exact up_s | assumption | refine up_n (by omega) ?_)), adl (by omega), (by first | assumption | exact vp_in_nI (by omega) (by omega)), ?_⟩ | refine hZ _ _ _ _ ⟨_, (by repeat (first | exact up_s | assumption | refine up_n (by omega) ?_)), adl (by omega), (by rfl), trivial, ?_⟩ | refine hZ _ _ _ _ ⟨trivial, ?_⟩ | refine hZ _ _ _ _ ?_)
          refine ⟨fun c => absurd c (nI_ge (by omega) (by omega)), fun c => ?_⟩
          repeat (first | refine hZ _ _ _ _ ⟨rfl, ?_⟩ | refine hZ _ _ _ _ ⟨_, _, (by repeat (first | exact up_s | assumption | refine up_n (by omega) ?_)), adl (by omega), (by rfl), ?_⟩ | refine hZ _ _ _ _ ⟨_, _, (by repeat (first | exact up_s | assumption | refine up_n (by omega) ?_)), adl (by omega), (by first | assumption | exact vp_in_nI (by omega) (by omega)), ?_⟩ | refine hZ _ _ _ _ ⟨_, (by repeat (first | exact up_s | assumption | refine up_n (by omega) ?_)), adl (by omega), (by rfl), trivial, ?_⟩ | refine hZ _ _ _ _ ⟨trivial, ?_⟩ | refine hZ _ _ _ _ ?_)
          rw [nI_clamp (by omega), hw p hpn]
          refine ⟨fun c => ?_, fun c => ?_⟩
          · exact yes (by simp [opc, (nI_gt0 (by omega)).mp c])
          · have w0 : ¬ 0 < w p := fun q => c ((nI_gt0 (by omega)).mpr q)
            iterate 3 (first | refine hZ _ _ _ _ ⟨rfl, ?_⟩ | refine hZ _ _ _ _ ⟨_, _, (by repeat (first | exact up_s | assumption | refine up_n (by omega) ?_)), adl (by omega), (by rfl), ?_⟩ | refine hZ _ _ _ _ ⟨_, _, (by repeat (first | exact up_s | assumption | refine up_n (by omega) ?_)), adl (by omega), (by first | assumption | exact vp_in_nI (by omega) (by omega)), ?_⟩ | refine hZ _ _ _ _ ⟨_, (by repeat (first | exact up_s | assumption | refine up_n (by omega) ?_)), adl (by omega), (by rfl), trivial, ?_⟩ | refine hZ _ _ _ _ ⟨trivial, ?_⟩ | refine hZ _ _ _ _ ?_)
            show Z _ 34 _ _
            refine hZ _ _ _ _ ⟨⟨_, (by repeat (first | exact up_s | assumption | refine up_n (by omega) ?_))⟩, adl (by omega), rfl, ?_⟩
            refine c_Ground_pathsInto (a := a p) G0 hn (by omega) hS1 (fun q hq => hB p q hpn hq) ?_
            show Z _ 37 _ _
            repeat (first | refine hZ _ _ _ _ ⟨rfl, ?_⟩ | refine hZ _ _ _ _ ⟨_, _, (by repeat (first | exact up_s | assumption | refine up_n (by omega) ?_)), adl (by omega), (by rfl), ?_⟩ | refine hZ _ _ _ _ ⟨_, _, (by repeat (first | exact up_s | assumption | refine up_n (by omega) ?_)), adl (by omega), (by first | assumption | exact vp_in_nI (by omega) (by omega)), ?_⟩ | refine hZ _ _ _ _ ⟨_, (by repeat (first | exact up_s | assumption | refine up_n (by omega) ?_)), adl (by omega), (by rfl), trivial, ?_⟩ | refine hZ _ _ _ _ ⟨trivial, ?_⟩ | refine hZ _ _ _ _ ?_)
            refine ⟨fun c => ?_, fun c => ?_⟩
            · have p0 := (nI_le0 (by omega)).mp c
              rw [if_neg (by simp [opc, w0, p0])] at nx
              iterate 2 (first | refine hZ _ _ _ _ ⟨rfl, ?_⟩ | refine hZ _ _ _ _ ⟨_, _, (by repeat (first | exact up_s | assumption | refine up_n (by omega) ?_)), adl (by omega), (by rfl), ?_⟩ | refine hZ _ _ _ _ ⟨_, _, (by repeat (first | exact up_s | assumption | refine up_n (by omega) ?_)), adl (by omega), (by first | assumption | exact vp_in_nI (by omega) (by omega)), ?_⟩ | refine hZ _ _ _ _ ⟨_, (by repeat (first | exact up_s | assumption | refine up_n (by omega) ?_)), adl (by omega), (by rfl), trivial, ?_⟩ | refine hZ _ _ _ _ ⟨trivial, ?_⟩ | refine hZ _ _ _ _ ?_)
              show Z _ 14 _ _
              rw [nI_inc]
              exact nx
            · have p0 : 0 < pin (a p) S n := by
                rcases Nat.eq_zero_or_pos (pin (a p) S n) with z | z
                · exact absurd ((nI_le0 (by omega)).mpr z) c
                · exact z
              exact yes (by simp [opc, p0])
      repeat (first | refine hZ _ _ _ _ ⟨rfl, ?_⟩ | refine hZ _ _ _ _ ⟨_, _, (by repeat (first | exact up_s | assumption | refine up_n (by omega) ?_)), adl (by omega), (by rfl), ?_⟩ | refine hZ _ _ _ _ ⟨_, _, (by repeat (first | exact up_s | assumption | refine up_n (by omega) ?_)), adl (by omega), (by first | assumption | exact vp_in_nI (by omega) (by omega)), ?_⟩ | refine hZ _ _ _ _ ⟨_, (by repeat (first | exact up_s | assumption | refine up_n (by omega) ?_)), adl (by omega), (by rfl), trivial, ?_⟩ | refine hZ _ _ _ _ ⟨trivial, ?_⟩ | refine hZ _ _ _ _ ?_)
      refine ⟨fun c => absurd c (nI_ge (by omega) (by omega)), fun c => ?_⟩
      iterate 2 (first | refine hZ _ _ _ _ ⟨rfl, ?_⟩ | refine hZ _ _ _ _ ⟨_, _, (by repeat (first | exact up_s | assumption | refine up_n (by omega) ?_)), adl (by omega), (by rfl), ?_⟩ | refine hZ _ _ _ _ ⟨_, _, (by repeat (first | exact up_s | assumption | refine up_n (by omega) ?_)), adl (by omega), (by first | assumption | exact vp_in_nI (by omega) (by omega)), ?_⟩ | refine hZ _ _ _ _ ⟨_, (by repeat (first | exact up_s | assumption | refine up_n (by omega) ?_)), adl (by omega), (by rfl), trivial, ?_⟩ | refine hZ _ _ _ _ ⟨trivial, ?_⟩ | refine hZ _ _ _ _ ?_)
      show Z _ 14 _ _
      exact inner n 0 (by omega)
  iterate 4 (first | refine hZ _ _ _ _ ⟨rfl, ?_⟩ | refine hZ _ _ _ _ ⟨_, _, (by repeat (first | exact up_s | assumption | refine up_n (by omega) ?_)), adl (by omega), (by rfl), ?_⟩ | refine hZ _ _ _ _ ⟨_, _, (by repeat (first | exact up_s | assumption | refine up_n (by omega) ?_)), adl (by omega), (by first | assumption | exact vp_in_nI (by omega) (by omega)), ?_⟩ | refine hZ _ _ _ _ ⟨_, (by repeat (first | exact up_s | assumption | refine up_n (by omega) ?_)), adl (by omega), (by rfl), trivial, ?_⟩ | refine hZ _ _ _ _ ⟨trivial, ?_⟩ | refine hZ _ _ _ _ ?_)
  show Z _ 4 _ _
  exact outer n 0 (by omega) _
theorem c_Heaps_grains {l : Launch} {N : Nat} {h : AH} {g k n : Nat} {B : Nat → Nat → Int32} {pit kind deg brs : Nat → Int32} {f t : Nat → Int32} {fa to : Int32} {x : Nat → Nat} {P : Option Value → AH → Prop} (G : Gd N h g (nI n) B pit kind deg brs) (K : Hp N h k f t fa to) (hn : n ≤ 5) (hf : ∀ q, q < n → f q = nI (x q))
    (hp : P (some (.int (nI (sm x n)))) h) : Sem l QX2_grains N h [.ref k, .ref g] P := by
  obtain ⟨hN, h0, h1, h2⟩ := K
  obtain ⟨gN, r0, r1, r2, r3, r4, r5, r6⟩ := G
  refine iX2_grains rfl ?_
  intro Z hZ
  have loop : ∀ e q, q + e = n → Z h 4 [some (.ref k), some (.ref g), some (.int (nI (sm x q))), some (.int (nI q))] [] := by
    intro e
    induction e with
    | zero =>
      intro q hq
      repeat (first | refine hZ _ _ _ _ ⟨rfl, ?_⟩ | refine hZ _ _ _ _ ⟨_, _, (by repeat (first | exact up_s | assumption | refine up_n (by omega) ?_)), adl (by omega), (by rfl), ?_⟩ | refine hZ _ _ _ _ ⟨_, _, (by repeat (first | exact up_s | assumption | refine up_n (by omega) ?_)), adl (by omega), (by first | assumption | exact vp_in_nI (by omega) (by omega)), ?_⟩ | refine hZ _ _ _ _ ⟨_, (by repeat (first | exact up_s | assumption | refine up_n (by omega) ?_)), adl (by omega), (by rfl), trivial, ?_⟩ | refine hZ _ _ _ _ ⟨trivial, ?_⟩ | refine hZ _ _ _ _ ?_)
      refine ⟨fun c => ?_, fun c => absurd (nI_le (by omega) (by omega)) c⟩
      repeat (first | refine hZ _ _ _ _ ⟨rfl, ?_⟩ | refine hZ _ _ _ _ ⟨_, _, (by repeat (first | exact up_s | assumption | refine up_n (by omega) ?_)), adl (by omega), (by rfl), ?_⟩ | refine hZ _ _ _ _ ⟨_, _, (by repeat (first | exact up_s | assumption | refine up_n (by omega) ?_)), adl (by omega), (by first | assumption | exact vp_in_nI (by omega) (by omega)), ?_⟩ | refine hZ _ _ _ _ ⟨_, (by repeat (first | exact up_s | assumption | refine up_n (by omega) ?_)), adl (by omega), (by rfl), trivial, ?_⟩ | refine hZ _ _ _ _ ⟨trivial, ?_⟩ | refine hZ _ _ _ _ ?_)
      rw [show q = n by omega]
      exact hp
    | succ e ih =>
      intro q hq
      repeat (first | refine hZ _ _ _ _ ⟨rfl, ?_⟩ | refine hZ _ _ _ _ ⟨_, _, (by repeat (first | exact up_s | assumption | refine up_n (by omega) ?_)), adl (by omega), (by rfl), ?_⟩ | refine hZ _ _ _ _ ⟨_, _, (by repeat (first | exact up_s | assumption | refine up_n (by omega) ?_)), adl (by omega), (by first | assumption | exact vp_in_nI (by omega) (by omega)), ?_⟩ | refine hZ _ _ _ _ ⟨_, (by repeat (first | exact up_s | assumption | refine up_n (by omega) ?_)), adl (by omega), (by rfl), trivial, ?_⟩ | refine hZ _ _ _ _ ⟨trivial, ?_⟩ | refine hZ _ _ _ _ ?_)
      refine ⟨fun c => absurd c (nI_ge (by omega) (by omega)), fun c => ?_⟩
      iterate 9 (first | refine hZ _ _ _ _ ⟨rfl, ?_⟩ | refine hZ _ _ _ _ ⟨_, _, (by repeat (first | exact up_s | assumption | refine up_n (by omega) ?_)), adl (by omega), (by rfl), ?_⟩ | refine hZ _ _ _ _ ⟨_, _, (by repeat (first | exact up_s | assumption | refine up_n (by omega) ?_)), adl (by omega), (by first | assumption | exact vp_in_nI (by omega) (by omega)), ?_⟩ | refine hZ _ _ _ _ ⟨_, (by repeat (first | exact up_s | assumption | refine up_n (by omega) ?_)), adl (by omega), (by rfl), trivial, ?_⟩ | refine hZ _ _ _ _ ⟨trivial, ?_⟩ | refine hZ _ _ _ _ ?_)
      show Z _ 4 _ _
      rw [nI_inc, nI_clamp (by omega), hf q (by omega), nI_add]
      exact ih (q + 1) (by omega)
  iterate 4 (first | refine hZ _ _ _ _ ⟨rfl, ?_⟩ | refine hZ _ _ _ _ ⟨_, _, (by repeat (first | exact up_s | assumption | refine up_n (by omega) ?_)), adl (by omega), (by rfl), ?_⟩ | refine hZ _ _ _ _ ⟨_, _, (by repeat (first | exact up_s | assumption | refine up_n (by omega) ?_)), adl (by omega), (by first | assumption | exact vp_in_nI (by omega) (by omega)), ?_⟩ | refine hZ _ _ _ _ ⟨_, (by repeat (first | exact up_s | assumption | refine up_n (by omega) ?_)), adl (by omega), (by rfl), trivial, ?_⟩ | refine hZ _ _ _ _ ⟨trivial, ?_⟩ | refine hZ _ _ _ _ ?_)
  show Z _ 4 _ _
  exact loop n 0 (by omega)
/-- the set of those places below n that have a property -/
def sof (c : Nat → Bool) : Nat → Nat
  | 0 => 0
  | k + 1 => if c k = true then sof c k ||| 2 ^ k else sof c k
theorem sof_lt (c : Nat → Bool) {n : Nat} : ∀ {k : Nat}, k ≤ n → sof c k < 2 ^ n
  | 0, _ => Nat.two_pow_pos n
  | k + 1, hk => by
    have ih := sof_lt c (n := n) (k := k) (by omega)
    show (if _ then _ else _) < 2 ^ n
    split
    · exact Nat.or_lt_two_pow ih (Nat.pow_lt_pow_right (by decide) (by omega))
    · exact ih
theorem sof_bit (c : Nat → Bool) {q : Nat} : ∀ {n : Nat}, bt1 (sof c n) q = if q < n ∧ c q = true then 1 else 0
  | 0 => by
    rw [if_neg (by omega)]
    exact bt1_0 q
  | n + 1 => by
    have ih := sof_bit c (q := q) (n := n)
    show bt1 (if c n = true then sof c n ||| 2 ^ n else sof c n) q = _
    by_cases e : c n = true
    · rw [if_pos e, bt1_or, ih]
      by_cases e1 : q = n
      · subst e1; rw [if_pos rfl, if_pos ⟨by omega, e⟩]
      · rw [if_neg e1]
        by_cases e2 : q < n ∧ c q = true
        · rw [if_pos e2, if_pos ⟨by omega, e2.2⟩]
        · rw [if_neg e2, if_neg (fun z => e2 ⟨by omega, z.2⟩)]
    · rw [if_neg e, ih]
      by_cases e2 : q < n ∧ c q = true
      · rw [if_pos e2, if_pos ⟨by omega, e2.2⟩]
      · rw [if_neg e2, if_neg (fun z => e2 ⟨by
          rcases Nat.lt_or_ge q n with g | g
          · exact g
          · exact absurd (show c n = true by rw [show n = q by omega]; exact z.2) e, z.2⟩)]
theorem sof_congr {c c' : Nat → Bool} : ∀ {n : Nat}, (∀ q, q < n → c q = c' q) → sof c n = sof c' n
  | 0, _ => rfl
  | n + 1, h => by
    show (if c n = true then sof c n ||| 2 ^ n else sof c n) = (if c' n = true then sof c' n ||| 2 ^ n else sof c' n)
    rw [sof_congr (fun q hq => h q (by omega)), h n (by omega)]
theorem sof_zero {c : Nat → Bool} {n : Nat} : sof c n = 0 ↔ ∀ q, q < n → c q = false := by
  constructor
  · intro h q hq
    have := sof_bit c (q := q) (n := n)
    rw [h, bt1_0] at this
    cases e : c q with
    | false => rfl
    | true => rw [if_pos ⟨hq, e⟩] at this; cases this
  · intro h
    refine bt_ext (fun q => ?_)
    rw [sof_bit, bt1_0, if_neg]
    intro z
    rw [h q z.1] at z
    cases z.2
theorem c_Heaps_ready {l : Launch} {N : Nat} {h : AH} {g k n : Nat} {B : Nat → Nat → Int32} {pit kind deg brs : Nat → Int32} {f t : Nat → Int32} {fa to : Int32} {x b : Nat → Nat} {P : Option Value → AH → Prop} (G : Gd N h g (nI n) B pit kind deg brs) (K : Hp N h k f t fa to) (hn : n ≤ 5) (hf : ∀ q, q < n → f q = nI (x q)) (hx : ∀ q, q < n → x q < 2 ^ 31) (hb : ∀ q, q < n → brs q = nI (b q)) (hb2 : ∀ q, q < n → b q < 2 ^ 31)
    (hp : P (some (.int (nI (sof (fun p => decide (b p ≤ x p)) n)))) h) : Sem l QX2_setOfReady N h [.ref k, .ref g] P := by
  have G0 := G
  have K0 := K
  obtain ⟨hN, h0, h1, h2⟩ := K
  obtain ⟨gN, r0, r1, r2, r3, r4, r5, r6⟩ := G
  refine iX2_setOfReady rfl ?_
  intro Z hZ
  have loop : ∀ e q, q + e = n → Z h 4 [some (.ref k), some (.ref g), some (.int (nI (sof (fun p => decide (b p ≤ x p)) q))), some (.int (nI q))] [] := by
    intro e
    induction e with
    | zero =>
      intro q hq
      repeat (first | refine hZ _ _ _ _ ⟨rfl, ?_⟩ | refine hZ _ _ _ _ ⟨_, _, (by repeat (first | exact up_s | assumption | refine up_n (by omega) ?_)), adl (by omega), (by rfl), ?_⟩ | refine hZ _ _ _ _ ⟨_, _, (by repeat (first | exact up_s | assumption | refine up_n (by omega) ?_)), adl (by omega), (by first | assumption | exact vp_in_nI (by omega) (by omega)), ?_⟩ | refine hZ _ _ _ _ ⟨_, (by repeat (first | exact up_s | assumption | refine up_n (by omega) ?_)), adl (by omega), (by rfl), trivial, ?_⟩ | refine hZ _ _ _ _ ⟨trivial, ?_⟩ | refine hZ _ _ _ _ ?_)
      refine ⟨fun c => ?_, fun c => absurd (nI_le (by omega) (by omega)) c⟩
      repeat (first | refine hZ _ _ _ _ ⟨rfl, ?_⟩ | refine hZ _ _ _ _ ⟨_, _, (by repeat (first | exact up_s | assumption | refine up_n (by omega) ?_)), adl (by omega), (by rfl), ?_⟩ | refine hZ _ _ _ _ ⟨_, _, (by repeat (first | exact up_s | assumption | refine up_n (by omega) ?_)), adl (by omega), (by first | assumption | exact vp_in_nI (by omega) (by omega)), ?_⟩ | refine hZ _ _ _ _ ⟨_, (by repeat (first | exact up_s | assumption | refine up_n (by omega) ?_)), adl (by omega), (by rfl), trivial, ?_⟩ | refine hZ _ _ _ _ ⟨trivial, ?_⟩ | refine hZ _ _ _ _ ?_)
      rw [show q = n by omega]
      exact hp
    | succ e ih =>
      intro q hq
      have nx := ih (q + 1) (by omega)
      repeat (first | refine hZ _ _ _ _ ⟨rfl, ?_⟩ | refine hZ _ _ _ _ ⟨_, _, (by repeat (first | exact up_s | assumption | refine up_n (by omega) ?_)), adl (by omega), (by rfl), ?_⟩ | refine hZ _ _ _ _ ⟨_, _, (by repeat (first | exact up_s | assumption | refine up_n (by omega) ?_)), adl (by omega), (by first | assumption | exact vp_in_nI (by omega) (by omega)), ?_⟩ | refine hZ _ _ _ _ ⟨_, (by repeat (first | exact up_s | assumption | refine up_n (by omega) ?_)), adl (by omega), (by rfl), trivial, ?_⟩ | refine hZ _ _ _ _ ⟨trivial, ?_⟩ | refine hZ _ _ _ _ ?_)
      refine ⟨fun c => absurd c (nI_ge (by omega) (by omega)), fun c => ?_⟩
      iterate 3 (first | refine hZ _ _ _ _ ⟨rfl, ?_⟩ | refine hZ _ _ _ _ ⟨_, _, (by repeat (first | exact up_s | assumption | refine up_n (by omega) ?_)), adl (by omega), (by rfl), ?_⟩ | refine hZ _ _ _ _ ⟨_, _, (by repeat (first | exact up_s | assumption | refine up_n (by omega) ?_)), adl (by omega), (by first | assumption | exact vp_in_nI (by omega) (by omega)), ?_⟩ | refine hZ _ _ _ _ ⟨_, (by repeat (first | exact up_s | assumption | refine up_n (by omega) ?_)), adl (by omega), (by rfl), trivial, ?_⟩ | refine hZ _ _ _ _ ⟨trivial, ?_⟩ | refine hZ _ _ _ _ ?_)
      show Z _ 15 _ _
      refine hZ _ _ _ _ ⟨⟨_, (by repeat (first | exact up_s | assumption | refine up_n (by omega) ?_))⟩, adl (by omega), rfl, ?_⟩
      refine c_Heaps_isReady (x := x q) (b := b q) G0 K0 (by omega) (hf q (by omega)) (hb q (by omega)) (hx q (by omega)) (hb2 q (by omega)) ?_
      show Z _ 18 _ _
      by_cases hc : b q ≤ x q
      · rw [decide_eq_true hc]
        repeat (first | refine hZ _ _ _ _ ⟨rfl, ?_⟩ | refine hZ _ _ _ _ ⟨_, _, (by repeat (first | exact up_s | assumption | refine up_n (by omega) ?_)), adl (by omega), (by rfl), ?_⟩ | refine hZ _ _ _ _ ⟨_, _, (by repeat (first | exact up_s | assumption | refine up_n (by omega) ?_)), adl (by omega), (by first | assumption | exact vp_in_nI (by omega) (by omega)), ?_⟩ | refine hZ _ _ _ _ ⟨_, (by repeat (first | exact up_s | assumption | refine up_n (by omega) ?_)), adl (by omega), (by rfl), trivial, ?_⟩ | refine hZ _ _ _ _ ⟨trivial, ?_⟩ | refine hZ _ _ _ _ ?_)
        refine ⟨fun c => absurd c (by decide), fun c => ?_⟩
        iterate 8 (first | refine hZ _ _ _ _ ⟨rfl, ?_⟩ | refine hZ _ _ _ _ ⟨_, _, (by repeat (first | exact up_s | assumption | refine up_n (by omega) ?_)), adl (by omega), (by rfl), ?_⟩ | refine hZ _ _ _ _ ⟨_, _, (by repeat (first | exact up_s | assumption | refine up_n (by omega) ?_)), adl (by omega), (by first | assumption | exact vp_in_nI (by omega) (by omega)), ?_⟩ | refine hZ _ _ _ _ ⟨_, (by repeat (first | exact up_s | assumption | refine up_n (by omega) ?_)), adl (by omega), (by rfl), trivial, ?_⟩ | refine hZ _ _ _ _ ⟨trivial, ?_⟩ | refine hZ _ _ _ _ ?_)
        show Z _ 4 _ _
        rw [nI_inc, lit_1, shl_bit (by omega), nI_or]
        rw [show sof (fun p => decide (b p ≤ x p)) (q + 1) = sof (fun p => decide (b p ≤ x p)) q ||| 2 ^ q from if_pos (decide_eq_true hc)] at nx
        exact nx
      · rw [decide_eq_false hc]
        repeat (first | refine hZ _ _ _ _ ⟨rfl, ?_⟩ | refine hZ _ _ _ _ ⟨_, _, (by repeat (first | exact up_s | assumption | refine up_n (by omega) ?_)), adl (by omega), (by rfl), ?_⟩ | refine hZ _ _ _ _ ⟨_, _, (by repeat (first | exact up_s | assumption | refine up_n (by omega) ?_)), adl (by omega), (by first | assumption | exact vp_in_nI (by omega) (by omega)), ?_⟩ | refine hZ _ _ _ _ ⟨_, (by repeat (first | exact up_s | assumption | refine up_n (by omega) ?_)), adl (by omega), (by rfl), trivial, ?_⟩ | refine hZ _ _ _ _ ⟨trivial, ?_⟩ | refine hZ _ _ _ _ ?_)
        refine ⟨fun c => ?_, fun c => absurd rfl c⟩
        iterate 2 (first | refine hZ _ _ _ _ ⟨rfl, ?_⟩ | refine hZ _ _ _ _ ⟨_, _, (by repeat (first | exact up_s | assumption | refine up_n (by omega) ?_)), adl (by omega), (by rfl), ?_⟩ | refine hZ _ _ _ _ ⟨_, _, (by repeat (first | exact up_s | assumption | refine up_n (by omega) ?_)), adl (by omega), (by first | assumption | exact vp_in_nI (by omega) (by omega)), ?_⟩ | refine hZ _ _ _ _ ⟨_, (by repeat (first | exact up_s | assumption | refine up_n (by omega) ?_)), adl (by omega), (by rfl), trivial, ?_⟩ | refine hZ _ _ _ _ ⟨trivial, ?_⟩ | refine hZ _ _ _ _ ?_)
        show Z _ 4 _ _
        rw [nI_inc]
        rw [show sof (fun p => decide (b p ≤ x p)) (q + 1) = sof (fun p => decide (b p ≤ x p)) q from if_neg (fun z => hc (of_decide_eq_true z))] at nx
        exact nx
  iterate 4 (first | refine hZ _ _ _ _ ⟨rfl, ?_⟩ | refine hZ _ _ _ _ ⟨_, _, (by repeat (first | exact up_s | assumption | refine up_n (by omega) ?_)), adl (by omega), (by rfl), ?_⟩ | refine hZ _ _ _ _ ⟨_, _, (by repeat (first | exact up_s | assumption | refine up_n (by omega) ?_)), adl (by omega), (by first | assumption | exact vp_in_nI (by omega) (by omega)), ?_⟩ | refine hZ _ _ _ _ ⟨_, (by repeat (first | exact up_s | assumption | refine up_n (by omega) ?_)), adl (by omega), (by rfl), trivial, ?_⟩ | refine hZ _ _ _ _ ⟨trivial, ?_⟩ | refine hZ _ _ _ _ ?_)
  show Z _ 4 _ _
  exact loop n 0 (by omega)
theorem c_Heaps_toppled {l : Launch} {N : Nat} {h : AH} {g k n : Nat} {B : Nat → Nat → Int32} {pit kind deg brs : Nat → Int32} {f t : Nat → Int32} {fa to : Int32} {u : Nat → Nat} {P : Option Value → AH → Prop} (G : Gd N h g (nI n) B pit kind deg brs) (K : Hp N h k f t fa to) (hn : n ≤ 5) (ht : ∀ q, q < n → t q = nI (u q)) (hu : ∀ q, q < n → u q < 2 ^ 31)
    (hp : P (some (.int (nI (sof (fun p => decide (0 < u p)) n)))) h) : Sem l QX2_setOfToppled N h [.ref k, .ref g] P := by
  obtain ⟨hN, h0, h1, h2⟩ := K
  obtain ⟨gN, r0, r1, r2, r3, r4, r5, r6⟩ := G
  refine iX2_setOfToppled rfl ?_
  intro Z hZ
  have loop : ∀ e q, q + e = n → Z h 4 [some (.ref k), some (.ref g), some (.int (nI (sof (fun p => decide (0 < u p)) q))), some (.int (nI q))] [] := by
    intro e
    induction e with
    | zero =>
      intro q hq
      repeat (first | refine hZ _ _ _ _ ⟨rfl, ?_⟩ | refine hZ _ _ _ _ ⟨_, _, (by repeat (first | exact up_s | assumption | refine up_n (by omega) ?_)), adl (by omega), (by rfl), ?_⟩ | refine hZ _ _ _ _ ⟨_, _, (by repeat (first | exact up_s | assumption | refine up_n (by omega) ?_)), adl (by omega), (by first | assumption | exact vp_in_nI (by omega) (by omega)), ?_⟩ | refine hZ _ _ _ _ ⟨_, (by repeat (first | exact up_s | assumption | refine up_n (by omega) ?_)), adl (by omega), (by rfl), trivial, ?_⟩ | refine hZ _ _ _ _ ⟨trivial, ?_⟩ | refine hZ _ _ _ _ ?_)
      refine ⟨fun c => ?_, fun c => absurd (nI_le (by omega) (by omega)) c⟩
      repeat (first | refine hZ _ _ _ _ ⟨rfl, ?_⟩ | refine hZ _ _ _ _ ⟨_, _, (by repeat (first | exact up_s | assumption | refine up_n (by omega) ?_)), adl (by omega), (by rfl), ?_⟩ | refine hZ _ _ _ _ ⟨_, _, (by repeat (first | exact up_s | assumption | refine up_n (by omega) ?_)), adl (by omega), (by first | assumption | exact vp_in_nI (by omega) (by omega)), ?_⟩ | refine hZ _ _ _ _ ⟨_, (by repeat (first | exact up_s | assumption | refine up_n (by omega) ?_)), adl (by omega), (by rfl), trivial, ?_⟩ | refine hZ _ _ _ _ ⟨trivial, ?_⟩ | refine hZ _ _ _ _ ?_)
      rw [show q = n by omega]
      exact hp
    | succ e ih =>
      intro q hq
      have nx := ih (q + 1) (by omega)
      have hu1 := hu q (by omega)
      repeat (first | refine hZ _ _ _ _ ⟨rfl, ?_⟩ | refine hZ _ _ _ _ ⟨_, _, (by repeat (first | exact up_s | assumption | refine up_n (by omega) ?_)), adl (by omega), (by rfl), ?_⟩ | refine hZ _ _ _ _ ⟨_, _, (by repeat (first | exact up_s | assumption | refine up_n (by omega) ?_)), adl (by omega), (by first | assumption | exact vp_in_nI (by omega) (by omega)), ?_⟩ | refine hZ _ _ _ _ ⟨_, (by repeat (first | exact up_s | assumption | refine up_n (by omega) ?_)), adl (by omega), (by rfl), trivial, ?_⟩ | refine hZ _ _ _ _ ⟨trivial, ?_⟩ | refine hZ _ _ _ _ ?_)
      refine ⟨fun c => absurd c (nI_ge (by omega) (by omega)), fun c => ?_⟩
      repeat (first | refine hZ _ _ _ _ ⟨rfl, ?_⟩ | refine hZ _ _ _ _ ⟨_, _, (by repeat (first | exact up_s | assumption | refine up_n (by omega) ?_)), adl (by omega), (by rfl), ?_⟩ | refine hZ _ _ _ _ ⟨_, _, (by repeat (first | exact up_s | assumption | refine up_n (by omega) ?_)), adl (by omega), (by first | assumption | exact vp_in_nI (by omega) (by omega)), ?_⟩ | refine hZ _ _ _ _ ⟨_, (by repeat (first | exact up_s | assumption | refine up_n (by omega) ?_)), adl (by omega), (by rfl), trivial, ?_⟩ | refine hZ _ _ _ _ ⟨trivial, ?_⟩ | refine hZ _ _ _ _ ?_)
      rw [nI_clamp (by omega), ht q (by omega)]
      refine ⟨fun c => ?_, fun c => ?_⟩
      · have hc := (nI_le0 hu1).mp c
        iterate 2 (first | refine hZ _ _ _ _ ⟨rfl, ?_⟩ | refine hZ _ _ _ _ ⟨_, _, (by repeat (first | exact up_s | assumption | refine up_n (by omega) ?_)), adl (by omega), (by rfl), ?_⟩ | refine hZ _ _ _ _ ⟨_, _, (by repeat (first | exact up_s | assumption | refine up_n (by omega) ?_)), adl (by omega), (by first | assumption | exact vp_in_nI (by omega) (by omega)), ?_⟩ | refine hZ _ _ _ _ ⟨_, (by repeat (first | exact up_s | assumption | refine up_n (by omega) ?_)), adl (by omega), (by rfl), trivial, ?_⟩ | refine hZ _ _ _ _ ⟨trivial, ?_⟩ | refine hZ _ _ _ _ ?_)
        show Z _ 4 _ _
        rw [nI_inc]
        rw [show sof (fun p => decide (0 < u p)) (q + 1) = sof (fun p => decide (0 < u p)) q from if_neg (fun z => by have := of_decide_eq_true z; omega)] at nx
        exact nx
      · have hc : 0 < u q := by
          rcases Nat.eq_zero_or_pos (u q) with z | z
          · exact absurd ((nI_le0 hu1).mpr z) c
          · exact z
        iterate 8 (first | refine hZ _ _ _ _ ⟨rfl, ?_⟩ | refine hZ _ _ _ _ ⟨_, _, (by repeat (first | exact up_s | assumption | refine up_n (by omega) ?_)), adl (by omega), (by rfl), ?_⟩ | refine hZ _ _ _ _ ⟨_, _, (by repeat (first | exact up_s | assumption | refine up_n (by omega) ?_)), adl (by omega), (by first | assumption | exact vp_in_nI (by omega) (by omega)), ?_⟩ | refine hZ _ _ _ _ ⟨_, (by repeat (first | exact up_s | assumption | refine up_n (by omega) ?_)), adl (by omega), (by rfl), trivial, ?_⟩ | refine hZ _ _ _ _ ⟨trivial, ?_⟩ | refine hZ _ _ _ _ ?_)
        show Z _ 4 _ _
        rw [nI_inc, lit_1, shl_bit (by omega), nI_or]
        rw [show sof (fun p => decide (0 < u p)) (q + 1) = sof (fun p => decide (0 < u p)) q ||| 2 ^ q from if_pos (decide_eq_true hc)] at nx
        exact nx
  iterate 4 (first | refine hZ _ _ _ _ ⟨rfl, ?_⟩ | refine hZ _ _ _ _ ⟨_, _, (by repeat (first | exact up_s | assumption | refine up_n (by omega) ?_)), adl (by omega), (by rfl), ?_⟩ | refine hZ _ _ _ _ ⟨_, _, (by repeat (first | exact up_s | assumption | refine up_n (by omega) ?_)), adl (by omega), (by first | assumption | exact vp_in_nI (by omega) (by omega)), ?_⟩ | refine hZ _ _ _ _ ⟨_, (by repeat (first | exact up_s | assumption | refine up_n (by omega) ?_)), adl (by omega), (by rfl), trivial, ?_⟩ | refine hZ _ _ _ _ ⟨trivial, ?_⟩ | refine hZ _ _ _ _ ?_)
  show Z _ 4 _ _
  exact loop n 0 (by omega)
/-- heaps below 32, as one number -/
def pck (y : Nat → Nat) : Nat → Nat
  | 0 => 0
  | k + 1 => pck y k * 32 + y k
theorem pck_lt {y : Nat → Nat} : ∀ {n : Nat}, (∀ q, q < n → y q < 32) → pck y n < 32 ^ n
  | 0, _ => Nat.zero_lt_one
  | n + 1, h => by
    have ih := pck_lt (y := y) (n := n) (fun q hq => h q (by omega))
    have := h n (by omega)
    show pck y n * 32 + y n < 32 ^ (n + 1)
    rw [Nat.pow_succ]
    omega
theorem pck_inj {y z : Nat → Nat} : ∀ {n : Nat}, (∀ q, q < n → y q < 32) → (∀ q, q < n → z q < 32) → (pck y n = pck z n ↔ ∀ q, q < n → y q = z q)
  | 0, _, _ => ⟨fun _ q hq => absurd hq (Nat.not_lt_zero q), fun _ => rfl⟩
  | n + 1, hy, hz => by
    have ih := pck_inj (y := y) (z := z) (n := n) (fun q hq => hy q (by omega)) (fun q hq => hz q (by omega))
    have h1 := hy n (by omega)
    have h2 := hz n (by omega)
    constructor
    · intro h
      have h : pck y n * 32 + y n = pck z n * 32 + z n := h
      have e : pck y n = pck z n := by omega
      intro q hq
      rcases Nat.lt_or_ge q n with g | g
      · exact ih.mp e q g
      · rw [show q = n by omega]; omega
    · intro h
      show pck y n * 32 + y n = pck z n * 32 + z n
      rw [ih.mpr (fun q hq => h q (by omega)), h n (by omega)]
theorem or_low {a y : Nat} (h : y < 32) : a * 32 ||| y = a * 32 + y := by
  have := Nat.shiftLeft_add_eq_or_of_lt (i := 5) h a
  rw [Nat.shiftLeft_eq] at this
  exact this.symm
theorem c_Heaps_packed {l : Launch} {N : Nat} {h : AH} {g k n : Nat} {B : Nat → Nat → Int32} {pit kind deg brs : Nat → Int32} {f t : Nat → Int32} {fa to : Int32} {y : Nat → Nat} {P : Option Value → AH → Prop} (G : Gd N h g (nI n) B pit kind deg brs) (K : Hp N h k f t fa to) (hn : n ≤ 5) (hf : ∀ q, q < n → f q = nI (y q)) (hy : ∀ q, q < n → y q < 32)
    (hp : P (some (.int (nI (pck y n)))) h) : Sem l QX2_packed N h [.ref k, .ref g] P := by
  obtain ⟨hN, h0, h1, h2⟩ := K
  obtain ⟨gN, r0, r1, r2, r3, r4, r5, r6⟩ := G
  refine iX2_packed rfl ?_
  intro Z hZ
  have loop : ∀ e q, q + e = n → Z h 4 [some (.ref k), some (.ref g), some (.int (nI (pck y q))), some (.int (nI q))] [] := by
    intro e
    induction e with
    | zero =>
      intro q hq
      repeat (first | refine hZ _ _ _ _ ⟨rfl, ?_⟩ | refine hZ _ _ _ _ ⟨_, _, (by repeat (first | exact up_s | assumption | refine up_n (by omega) ?_)), adl (by omega), (by rfl), ?_⟩ | refine hZ _ _ _ _ ⟨_, _, (by repeat (first | exact up_s | assumption | refine up_n (by omega) ?_)), adl (by omega), (by first | assumption | exact vp_in_nI (by omega) (by omega)), ?_⟩ | refine hZ _ _ _ _ ⟨_, (by repeat (first | exact up_s | assumption | refine up_n (by omega) ?_)), adl (by omega), (by rfl), trivial, ?_⟩ | refine hZ _ _ _ _ ⟨trivial, ?_⟩ | refine hZ _ _ _ _ ?_)
      refine ⟨fun c => ?_, fun c => absurd (nI_le (by omega) (by omega)) c⟩
      repeat (first | refine hZ _ _ _ _ ⟨rfl, ?_⟩ | refine hZ _ _ _ _ ⟨_, _, (by repeat (first | exact up_s | assumption | refine up_n (by omega) ?_)), adl (by omega), (by rfl), ?_⟩ | refine hZ _ _ _ _ ⟨_, _, (by repeat (first | exact up_s | assumption | refine up_n (by omega) ?_)), adl (by omega), (by first | assumption | exact vp_in_nI (by omega) (by omega)), ?_⟩ | refine hZ _ _ _ _ ⟨_, (by repeat (first | exact up_s | assumption | refine up_n (by omega) ?_)), adl (by omega), (by rfl), trivial, ?_⟩ | refine hZ _ _ _ _ ⟨trivial, ?_⟩ | refine hZ _ _ _ _ ?_)
      rw [show q = n by omega]
      exact hp
    | succ e ih =>
      intro q hq
      have hq4 : q ≤ 4 := by omega
      have hl := pck_lt (y := y) (n := q) (fun j hj => hy j (by omega))
      have hpw : 32 ^ q ≤ 32 ^ 4 := Nat.pow_le_pow_right (by decide) hq4
      repeat (first | refine hZ _ _ _ _ ⟨rfl, ?_⟩ | refine hZ _ _ _ _ ⟨_, _, (by repeat (first | exact up_s | assumption | refine up_n (by omega) ?_)), adl (by omega), (by rfl), ?_⟩ | refine hZ _ _ _ _ ⟨_, _, (by repeat (first | exact up_s | assumption | refine up_n (by omega) ?_)), adl (by omega), (by first | assumption | exact vp_in_nI (by omega) (by omega)), ?_⟩ | refine hZ _ _ _ _ ⟨_, (by repeat (first | exact up_s | assumption | refine up_n (by omega) ?_)), adl (by omega), (by rfl), trivial, ?_⟩ | refine hZ _ _ _ _ ⟨trivial, ?_⟩ | refine hZ _ _ _ _ ?_)
      refine ⟨fun c => absurd c (nI_ge (by omega) (by omega)), fun c => ?_⟩
      iterate 11 (first | refine hZ _ _ _ _ ⟨rfl, ?_⟩ | refine hZ _ _ _ _ ⟨_, _, (by repeat (first | exact up_s | assumption | refine up_n (by omega) ?_)), adl (by omega), (by rfl), ?_⟩ | refine hZ _ _ _ _ ⟨_, _, (by repeat (first | exact up_s | assumption | refine up_n (by omega) ?_)), adl (by omega), (by first | assumption | exact vp_in_nI (by omega) (by omega)), ?_⟩ | refine hZ _ _ _ _ ⟨_, (by repeat (first | exact up_s | assumption | refine up_n (by omega) ?_)), adl (by omega), (by rfl), trivial, ?_⟩ | refine hZ _ _ _ _ ⟨trivial, ?_⟩ | refine hZ _ _ _ _ ?_)
      show Z _ 4 _ _
      rw [nI_inc, nI_clamp (by omega), hf q (by omega), lit_5, pk_shlN (n := pck y q) _ 5 (s_lx 5 (by decide)) (by omega), nI_or, or_low (hy q (by omega))]
      exact ih (q + 1) (by omega)
  iterate 4 (first | refine hZ _ _ _ _ ⟨rfl, ?_⟩ | refine hZ _ _ _ _ ⟨_, _, (by repeat (first | exact up_s | assumption | refine up_n (by omega) ?_)), adl (by omega), (by rfl), ?_⟩ | refine hZ _ _ _ _ ⟨_, _, (by repeat (first | exact up_s | assumption | refine up_n (by omega) ?_)), adl (by omega), (by first | assumption | exact vp_in_nI (by omega) (by omega)), ?_⟩ | refine hZ _ _ _ _ ⟨_, (by repeat (first | exact up_s | assumption | refine up_n (by omega) ?_)), adl (by omega), (by rfl), trivial, ?_⟩ | refine hZ _ _ _ _ ⟨trivial, ?_⟩ | refine hZ _ _ _ _ ?_)
  show Z _ 4 _ _
  exact loop n 0 (by omega)
