/-! ===== the class: odds, kinds, heapings ===== -/
theorem nI_rem {x y : Nat} (hx : x < 2 ^ 31) (hy : 0 < y) (hy2 : y < 2 ^ 31) : nI x - nI x / nI y * nI y = nI (x % y) := by
  have e := Nat.div_add_mod x y
  have h1 : x / y * y ≤ x := Nat.div_mul_le_self x y
  rw [pk_div hx hy hy2, pk_mul, pk_sub h1]
  congr 1
  rw [Nat.mul_comm] at e
  omega
theorem c_least {l : Launch} {h : AH} {a u n : Nat} {P : Option Value → AH → Prop} (ha : a < 2 ^ 30) (hu : u < 2 ^ 30) (hn0 : 0 < n) (hn : n < 2 ^ 30) (hp : P (some (.int (nI (a / Nat.gcd u n)))) h) : Sem l QX6_inLeastTerms 82 h [.int (nI a), .int (nI u), .int (nI n)] P := by
  refine iX6_inLeastTerms rfl ?_
  intro Z hZ
  have hg : 0 < Nat.gcd u n := Nat.gcd_pos_of_pos_right _ hn0
  have hgn : Nat.gcd u n ≤ n := Nat.le_of_dvd hn0 (Nat.gcd_dvd_right _ _)
  have loop : ∀ c, Nat.gcd u n ≤ c → c ≤ n → Z h 2 [some (.int (nI a)), some (.int (nI u)), some (.int (nI n)), some (.int (nI c))] [] := by
    intro c
    induction c with
    | zero => intro h1 h2; omega
    | succ c ih =>
      intro h1 h2
      repeat (first | refine hZ _ _ _ _ ⟨rfl, ?_⟩ | refine hZ _ _ _ _ ⟨_, _, (by repeat (first | exact up_s | assumption | refine up_n (by omega) ?_)), adl (by omega), (by rfl), ?_⟩ | refine hZ _ _ _ _ ⟨_, _, (by repeat (first | exact up_s | assumption | refine up_n (by omega) ?_)), adl (by omega), (by first | assumption | exact vp_in_nI (by omega) (by omega)), ?_⟩ | refine hZ _ _ _ _ ⟨_, (by repeat (first | exact up_s | assumption | refine up_n (by omega) ?_)), adl (by omega), (by rfl), trivial, ?_⟩ | refine hZ _ _ _ _ ⟨trivial, ?_⟩ | refine hZ _ _ _ _ ⟨_, _, _, _, (by repeat (first | exact up_s | assumption | refine up_n (by omega) ?_)), (by first | exact Or.inr (Or.inr rfl) | exact Or.inr (Or.inl rfl) | exact Or.inl rfl), adl (by omega), (by first | assumption | exact vp_in_nI (by omega) (by omega)), rowsF_at (by omega), ?_⟩ | refine hZ _ _ _ _ ?_)
      rw [lit_1]
      by_cases hc : c + 1 ≤ 1
      · refine ⟨fun q => ?_, fun q => absurd (nI_le hc (by omega)) q⟩
        repeat (first | refine hZ _ _ _ _ ⟨rfl, ?_⟩ | refine hZ _ _ _ _ ⟨_, _, (by repeat (first | exact up_s | assumption | refine up_n (by omega) ?_)), adl (by omega), (by rfl), ?_⟩ | refine hZ _ _ _ _ ⟨_, _, (by repeat (first | exact up_s | assumption | refine up_n (by omega) ?_)), adl (by omega), (by first | assumption | exact vp_in_nI (by omega) (by omega)), ?_⟩ | refine hZ _ _ _ _ ⟨_, (by repeat (first | exact up_s | assumption | refine up_n (by omega) ?_)), adl (by omega), (by rfl), trivial, ?_⟩ | refine hZ _ _ _ _ ⟨trivial, ?_⟩ | refine hZ _ _ _ _ ⟨_, _, _, _, (by repeat (first | exact up_s | assumption | refine up_n (by omega) ?_)), (by first | exact Or.inr (Or.inr rfl) | exact Or.inr (Or.inl rfl) | exact Or.inl rfl), adl (by omega), (by first | assumption | exact vp_in_nI (by omega) (by omega)), rowsF_at (by omega), ?_⟩ | refine hZ _ _ _ _ ?_)
        rw [show Nat.gcd u n = 1 by omega, Nat.div_one] at hp
        exact hp
      · refine ⟨fun q => absurd q (nI_ge (by omega) (by omega)), fun q => ?_⟩
        iterate 2 (first | refine hZ _ _ _ _ ⟨rfl, ?_⟩ | refine hZ _ _ _ _ ⟨_, _, (by repeat (first | exact up_s | assumption | refine up_n (by omega) ?_)), adl (by omega), (by rfl), ?_⟩ | refine hZ _ _ _ _ ⟨_, _, (by repeat (first | exact up_s | assumption | refine up_n (by omega) ?_)), adl (by omega), (by first | assumption | exact vp_in_nI (by omega) (by omega)), ?_⟩ | refine hZ _ _ _ _ ⟨_, (by repeat (first | exact up_s | assumption | refine up_n (by omega) ?_)), adl (by omega), (by rfl), trivial, ?_⟩ | refine hZ _ _ _ _ ⟨trivial, ?_⟩ | refine hZ _ _ _ _ ⟨_, _, _, _, (by repeat (first | exact up_s | assumption | refine up_n (by omega) ?_)), (by first | exact Or.inr (Or.inr rfl) | exact Or.inr (Or.inl rfl) | exact Or.inl rfl), adl (by omega), (by first | assumption | exact vp_in_nI (by omega) (by omega)), rowsF_at (by omega), ?_⟩ | refine hZ _ _ _ _ ?_)
        show Z _ 9 _ _
        refine hZ _ _ _ _ ⟨nI_ne0 (by omega) (by omega), ?_⟩
        rw [nI_rem (by omega) (by omega) (by omega)]
        show Z _ 10 _ _
        have nxt : ¬ Nat.gcd u n = c + 1 → Z h 23 [some (.int (nI a)), some (.int (nI u)), some (.int (nI n)), some (.int (nI (c + 1)))] [] := by
          intro hne
          iterate 2 (first | refine hZ _ _ _ _ ⟨rfl, ?_⟩ | refine hZ _ _ _ _ ⟨_, _, (by repeat (first | exact up_s | assumption | refine up_n (by omega) ?_)), adl (by omega), (by rfl), ?_⟩ | refine hZ _ _ _ _ ⟨_, _, (by repeat (first | exact up_s | assumption | refine up_n (by omega) ?_)), adl (by omega), (by first | assumption | exact vp_in_nI (by omega) (by omega)), ?_⟩ | refine hZ _ _ _ _ ⟨_, (by repeat (first | exact up_s | assumption | refine up_n (by omega) ?_)), adl (by omega), (by rfl), trivial, ?_⟩ | refine hZ _ _ _ _ ⟨trivial, ?_⟩ | refine hZ _ _ _ _ ⟨_, _, _, _, (by repeat (first | exact up_s | assumption | refine up_n (by omega) ?_)), (by first | exact Or.inr (Or.inr rfl) | exact Or.inr (Or.inl rfl) | exact Or.inl rfl), adl (by omega), (by first | assumption | exact vp_in_nI (by omega) (by omega)), rowsF_at (by omega), ?_⟩ | refine hZ _ _ _ _ ?_)
          show Z _ 2 _ _
          rw [show nI (c + 1) + Int32.ofInt (-1) = nI c by rw [← nI_inc, Int32.add_assoc, show Int32.ofInt 1 + Int32.ofInt (-1) = 0 by decide, Int32.add_zero]]
          exact ih (by omega) (by omega)
        have hm := Nat.mod_lt u (show 0 < c + 1 by omega)
        have hm2 := Nat.mod_lt n (show 0 < c + 1 by omega)
        repeat (first | refine hZ _ _ _ _ ⟨rfl, ?_⟩ | refine hZ _ _ _ _ ⟨_, _, (by repeat (first | exact up_s | assumption | refine up_n (by omega) ?_)), adl (by omega), (by rfl), ?_⟩ | refine hZ _ _ _ _ ⟨_, _, (by repeat (first | exact up_s | assumption | refine up_n (by omega) ?_)), adl (by omega), (by first | assumption | exact vp_in_nI (by omega) (by omega)), ?_⟩ | refine hZ _ _ _ _ ⟨_, (by repeat (first | exact up_s | assumption | refine up_n (by omega) ?_)), adl (by omega), (by rfl), trivial, ?_⟩ | refine hZ _ _ _ _ ⟨trivial, ?_⟩ | refine hZ _ _ _ _ ⟨_, _, _, _, (by repeat (first | exact up_s | assumption | refine up_n (by omega) ?_)), (by first | exact Or.inr (Or.inr rfl) | exact Or.inr (Or.inl rfl) | exact Or.inl rfl), adl (by omega), (by first | assumption | exact vp_in_nI (by omega) (by omega)), rowsF_at (by omega), ?_⟩ | refine hZ _ _ _ _ ?_)
        refine ⟨fun q => ?_, fun q => ?_⟩
        · refine nxt (fun e => ?_)
          have := Nat.gcd_dvd_left u n
          rw [e] at this
          exact q (by rw [Nat.mod_eq_zero_of_dvd this]; rfl)
        · have d1 : c + 1 ∣ u := Nat.dvd_of_mod_eq_zero ((nI_eq (b := 0) (by omega) (by omega)).mp q)
          iterate 2 (first | refine hZ _ _ _ _ ⟨rfl, ?_⟩ | refine hZ _ _ _ _ ⟨_, _, (by repeat (first | exact up_s | assumption | refine up_n (by omega) ?_)), adl (by omega), (by rfl), ?_⟩ | refine hZ _ _ _ _ ⟨_, _, (by repeat (first | exact up_s | assumption | refine up_n (by omega) ?_)), adl (by omega), (by first | assumption | exact vp_in_nI (by omega) (by omega)), ?_⟩ | refine hZ _ _ _ _ ⟨_, (by repeat (first | exact up_s | assumption | refine up_n (by omega) ?_)), adl (by omega), (by rfl), trivial, ?_⟩ | refine hZ _ _ _ _ ⟨trivial, ?_⟩ | refine hZ _ _ _ _ ⟨_, _, _, _, (by repeat (first | exact up_s | assumption | refine up_n (by omega) ?_)), (by first | exact Or.inr (Or.inr rfl) | exact Or.inr (Or.inl rfl) | exact Or.inl rfl), adl (by omega), (by first | assumption | exact vp_in_nI (by omega) (by omega)), rowsF_at (by omega), ?_⟩ | refine hZ _ _ _ _ ?_)
          show Z _ 15 _ _
          refine hZ _ _ _ _ ⟨nI_ne0 (by omega) (by omega), ?_⟩
          rw [nI_rem (by omega) (by omega) (by omega)]
          show Z _ 16 _ _
          repeat (first | refine hZ _ _ _ _ ⟨rfl, ?_⟩ | refine hZ _ _ _ _ ⟨_, _, (by repeat (first | exact up_s | assumption | refine up_n (by omega) ?_)), adl (by omega), (by rfl), ?_⟩ | refine hZ _ _ _ _ ⟨_, _, (by repeat (first | exact up_s | assumption | refine up_n (by omega) ?_)), adl (by omega), (by first | assumption | exact vp_in_nI (by omega) (by omega)), ?_⟩ | refine hZ _ _ _ _ ⟨_, (by repeat (first | exact up_s | assumption | refine up_n (by omega) ?_)), adl (by omega), (by rfl), trivial, ?_⟩ | refine hZ _ _ _ _ ⟨trivial, ?_⟩ | refine hZ _ _ _ _ ⟨_, _, _, _, (by repeat (first | exact up_s | assumption | refine up_n (by omega) ?_)), (by first | exact Or.inr (Or.inr rfl) | exact Or.inr (Or.inl rfl) | exact Or.inl rfl), adl (by omega), (by first | assumption | exact vp_in_nI (by omega) (by omega)), rowsF_at (by omega), ?_⟩ | refine hZ _ _ _ _ ?_)
          refine ⟨fun q => ?_, fun q => ?_⟩
          · refine nxt (fun e => ?_)
            have := Nat.gcd_dvd_right u n
            rw [e] at this
            exact q (by rw [Nat.mod_eq_zero_of_dvd this]; rfl)
          · have d2 : c + 1 ∣ n := Nat.dvd_of_mod_eq_zero ((nI_eq (b := 0) (by omega) (by omega)).mp q)
            have d3 := Nat.le_of_dvd hg (Nat.dvd_gcd d1 d2)
            iterate 2 (first | refine hZ _ _ _ _ ⟨rfl, ?_⟩ | refine hZ _ _ _ _ ⟨_, _, (by repeat (first | exact up_s | assumption | refine up_n (by omega) ?_)), adl (by omega), (by rfl), ?_⟩ | refine hZ _ _ _ _ ⟨_, _, (by repeat (first | exact up_s | assumption | refine up_n (by omega) ?_)), adl (by omega), (by first | assumption | exact vp_in_nI (by omega) (by omega)), ?_⟩ | refine hZ _ _ _ _ ⟨_, (by repeat (first | exact up_s | assumption | refine up_n (by omega) ?_)), adl (by omega), (by rfl), trivial, ?_⟩ | refine hZ _ _ _ _ ⟨trivial, ?_⟩ | refine hZ _ _ _ _ ⟨_, _, _, _, (by repeat (first | exact up_s | assumption | refine up_n (by omega) ?_)), (by first | exact Or.inr (Or.inr rfl) | exact Or.inr (Or.inl rfl) | exact Or.inl rfl), adl (by omega), (by first | assumption | exact vp_in_nI (by omega) (by omega)), rowsF_at (by omega), ?_⟩ | refine hZ _ _ _ _ ?_)
            show Z _ 21 _ _
            refine hZ _ _ _ _ ⟨nI_ne0 (by omega) (by omega), ?_⟩
            rw [pk_div (by omega) (by omega) (by omega)]
            repeat (first | refine hZ _ _ _ _ ⟨rfl, ?_⟩ | refine hZ _ _ _ _ ⟨_, _, (by repeat (first | exact up_s | assumption | refine up_n (by omega) ?_)), adl (by omega), (by rfl), ?_⟩ | refine hZ _ _ _ _ ⟨_, _, (by repeat (first | exact up_s | assumption | refine up_n (by omega) ?_)), adl (by omega), (by first | assumption | exact vp_in_nI (by omega) (by omega)), ?_⟩ | refine hZ _ _ _ _ ⟨_, (by repeat (first | exact up_s | assumption | refine up_n (by omega) ?_)), adl (by omega), (by rfl), trivial, ?_⟩ | refine hZ _ _ _ _ ⟨trivial, ?_⟩ | refine hZ _ _ _ _ ⟨_, _, _, _, (by repeat (first | exact up_s | assumption | refine up_n (by omega) ?_)), (by first | exact Or.inr (Or.inr rfl) | exact Or.inr (Or.inl rfl) | exact Or.inl rfl), adl (by omega), (by first | assumption | exact vp_in_nI (by omega) (by omega)), rowsF_at (by omega), ?_⟩ | refine hZ _ _ _ _ ?_)
            rw [show Nat.gcd u n = c + 1 by omega] at hp
            exact hp
  iterate 2 (first | refine hZ _ _ _ _ ⟨rfl, ?_⟩ | refine hZ _ _ _ _ ⟨_, _, (by repeat (first | exact up_s | assumption | refine up_n (by omega) ?_)), adl (by omega), (by rfl), ?_⟩ | refine hZ _ _ _ _ ⟨_, _, (by repeat (first | exact up_s | assumption | refine up_n (by omega) ?_)), adl (by omega), (by first | assumption | exact vp_in_nI (by omega) (by omega)), ?_⟩ | refine hZ _ _ _ _ ⟨_, (by repeat (first | exact up_s | assumption | refine up_n (by omega) ?_)), adl (by omega), (by rfl), trivial, ?_⟩ | refine hZ _ _ _ _ ⟨trivial, ?_⟩ | refine hZ _ _ _ _ ⟨_, _, _, _, (by repeat (first | exact up_s | assumption | refine up_n (by omega) ?_)), (by first | exact Or.inr (Or.inr rfl) | exact Or.inr (Or.inl rfl) | exact Or.inl rfl), adl (by omega), (by first | assumption | exact vp_in_nI (by omega) (by omega)), rowsF_at (by omega), ?_⟩ | refine hZ _ _ _ _ ?_)
  show Z _ 2 _ _
  exact loop n hgn (Nat.le_refl _)
/-- 1, if a grain on p sets off a toppling -/
def upr (n : Nat) (x b : Nat → Nat) (p : Nat) : Nat := if sof (fun q => decide (b q ≤ x q)) n = 0 then (if b p ≤ x p + 1 then 1 else 0) else 1
theorem upr_le (n : Nat) (x b : Nat → Nat) (p : Nat) : upr n x b p ≤ 1 := by
  unfold upr
  split
  · split <;> decide
  · decide
def S_odds (s : St) (v : Int32) : Int64 := match s with
  | ((n, a, w, κ), (x, _, _, _), _, _, _, _) => if inb v 2 = false then LOST else if n = 0 then LOST else (nI ((if v.toNatClampNeg = 0 then sm (upr n x (brf n a w κ)) n else n) / Nat.gcd (sm (upr n x (brf n a w κ)) n) n)).toInt64
set_option maxHeartbeats 2000000 in
theorem C_odds {l : Launch} {h : AH} {s : St} {v : Int32} {P : Option Value → AH → Prop} (C : CY h s) (O : Ok s) (hx : ∀ q, q < s.1.1 → s.2.1.1 q < 2 ^ 30) (hp : ∀ h', Fr 0 61 h h' → CY h' s → P (some (.long (S_odds s v))) h') : Sem l QX6_odds 82 h [.ref 0, .int v] P := by
  have hp := hp h Fr.rf C
  obtain ⟨⟨n, a, w, κ⟩, ⟨x, tp, fa, to⟩, ⟨cn, pl, td⟩, ⟨z, m, c⟩, tr, fl⟩ := s
  obtain ⟨g, d, k, e, C⟩ := C
  have CC0 := C
  obtain ⟨c0, c1, c2, c3, c4, c5, c6, c7, c8⟩ := C
  obtain ⟨o1, o2, o3⟩ := O
  unfold Wh at c0
  unfold Obj at c1
  obtain ⟨f, t, K, hf, ht⟩ := c7
  have K0 := K
  obtain ⟨kN, k0, k1, k2⟩ := K
  obtain ⟨B, pit, kind, deg, brs, G, hdi, V⟩ := c5
  have G0 := G
  obtain ⟨gN, r0, r1, r2, r3, r4, r5, r6⟩ := G
  refine iX6_odds rfl ?_
  intro Z hZ
  unfold S_odds at hp
  dsimp only at hp hx
  have lost : P (some (.long LOST)) h → Z h 16 [some (.ref 0), some (.int v), none, none, none] [] := by
    intro hp
    repeat (first | refine hZ _ _ _ _ ⟨rfl, ?_⟩ | refine hZ _ _ _ _ ⟨_, _, (by repeat (first | exact up_s | assumption | refine up_n (by omega) ?_)), adl (by omega), (by rfl), ?_⟩ | refine hZ _ _ _ _ ⟨_, _, (by repeat (first | exact up_s | assumption | refine up_n (by omega) ?_)), adl (by omega), (by first | assumption | exact vp_in_nI (by omega) (by omega)), ?_⟩ | refine hZ _ _ _ _ ⟨_, (by repeat (first | exact up_s | assumption | refine up_n (by omega) ?_)), adl (by omega), (by rfl), trivial, ?_⟩ | refine hZ _ _ _ _ ⟨trivial, ?_⟩ | refine hZ _ _ _ _ ⟨_, _, _, _, (by repeat (first | exact up_s | assumption | refine up_n (by omega) ?_)), (by first | exact Or.inr (Or.inr rfl) | exact Or.inr (Or.inl rfl) | exact Or.inl rfl), adl (by omega), (by first | assumption | exact vp_in_nI (by omega) (by omega)), rowsF_at (by omega), ?_⟩ | refine hZ _ _ _ _ ?_)
    exact hp
  repeat (first | refine hZ _ _ _ _ ⟨rfl, ?_⟩ | refine hZ _ _ _ _ ⟨_, _, (by repeat (first | exact up_s | assumption | refine up_n (by omega) ?_)), adl (by omega), (by rfl), ?_⟩ | refine hZ _ _ _ _ ⟨_, _, (by repeat (first | exact up_s | assumption | refine up_n (by omega) ?_)), adl (by omega), (by first | assumption | exact vp_in_nI (by omega) (by omega)), ?_⟩ | refine hZ _ _ _ _ ⟨_, (by repeat (first | exact up_s | assumption | refine up_n (by omega) ?_)), adl (by omega), (by rfl), trivial, ?_⟩ | refine hZ _ _ _ _ ⟨trivial, ?_⟩ | refine hZ _ _ _ _ ⟨_, _, _, _, (by repeat (first | exact up_s | assumption | refine up_n (by omega) ?_)), (by first | exact Or.inr (Or.inr rfl) | exact Or.inr (Or.inl rfl) | exact Or.inl rfl), adl (by omega), (by first | assumption | exact vp_in_nI (by omega) (by omega)), rowsF_at (by omega), ?_⟩ | refine hZ _ _ _ _ ?_)
  rcases inb_of (v := v) (n := 2) (by decide) with ⟨h4, h5⟩ | ⟨h4, i, h5, h6⟩
  · rw [if_pos h4] at hp
    refine ⟨fun c9 => lost hp, fun c9 => ?_⟩
    rcases h5 with h5 | h5
    · exact absurd h5 c9
    · repeat (first | refine hZ _ _ _ _ ⟨rfl, ?_⟩ | refine hZ _ _ _ _ ⟨_, _, (by repeat (first | exact up_s | assumption | refine up_n (by omega) ?_)), adl (by omega), (by rfl), ?_⟩ | refine hZ _ _ _ _ ⟨_, _, (by repeat (first | exact up_s | assumption | refine up_n (by omega) ?_)), adl (by omega), (by first | assumption | exact vp_in_nI (by omega) (by omega)), ?_⟩ | refine hZ _ _ _ _ ⟨_, (by repeat (first | exact up_s | assumption | refine up_n (by omega) ?_)), adl (by omega), (by rfl), trivial, ?_⟩ | refine hZ _ _ _ _ ⟨trivial, ?_⟩ | refine hZ _ _ _ _ ⟨_, _, _, _, (by repeat (first | exact up_s | assumption | refine up_n (by omega) ?_)), (by first | exact Or.inr (Or.inr rfl) | exact Or.inr (Or.inl rfl) | exact Or.inl rfl), adl (by omega), (by first | assumption | exact vp_in_nI (by omega) (by omega)), rowsF_at (by omega), ?_⟩ | refine hZ _ _ _ _ ?_)
      rw [lit_1]
      refine ⟨fun c9 => lost hp, fun c9 => ?_⟩
      have := not_le_of_inb (n := 1) (by decide) h5
      rw [Int32.le_iff_toInt_le] at this
      rw [Int32.lt_iff_toInt_lt] at c9
      omega
  rw [if_neg (by rw [h4]; decide)] at hp
  subst h6
  rw [nI_clamp (by omega)] at hp
  refine ⟨fun c9 => absurd c9 (nI_pos (by omega)), fun c9 => ?_⟩
  repeat (first | refine hZ _ _ _ _ ⟨rfl, ?_⟩ | refine hZ _ _ _ _ ⟨_, _, (by repeat (first | exact up_s | assumption | refine up_n (by omega) ?_)), adl (by omega), (by rfl), ?_⟩ | refine hZ _ _ _ _ ⟨_, _, (by repeat (first | exact up_s | assumption | refine up_n (by omega) ?_)), adl (by omega), (by first | assumption | exact vp_in_nI (by omega) (by omega)), ?_⟩ | refine hZ _ _ _ _ ⟨_, (by repeat (first | exact up_s | assumption | refine up_n (by omega) ?_)), adl (by omega), (by rfl), trivial, ?_⟩ | refine hZ _ _ _ _ ⟨trivial, ?_⟩ | refine hZ _ _ _ _ ⟨_, _, _, _, (by repeat (first | exact up_s | assumption | refine up_n (by omega) ?_)), (by first | exact Or.inr (Or.inr rfl) | exact Or.inr (Or.inl rfl) | exact Or.inl rfl), adl (by omega), (by first | assumption | exact vp_in_nI (by omega) (by omega)), rowsF_at (by omega), ?_⟩ | refine hZ _ _ _ _ ?_)
  rw [lit_1]
  refine ⟨fun c9 => absurd c9 (nI_nlt (by omega) (by omega)), fun c9 => ?_⟩
  iterate 1 (first | refine hZ _ _ _ _ ⟨rfl, ?_⟩ | refine hZ _ _ _ _ ⟨_, _, (by repeat (first | exact up_s | assumption | refine up_n (by omega) ?_)), adl (by omega), (by rfl), ?_⟩ | refine hZ _ _ _ _ ⟨_, _, (by repeat (first | exact up_s | assumption | refine up_n (by omega) ?_)), adl (by omega), (by first | assumption | exact vp_in_nI (by omega) (by omega)), ?_⟩ | refine hZ _ _ _ _ ⟨_, (by repeat (first | exact up_s | assumption | refine up_n (by omega) ?_)), adl (by omega), (by rfl), trivial, ?_⟩ | refine hZ _ _ _ _ ⟨trivial, ?_⟩ | refine hZ _ _ _ _ ⟨_, _, _, _, (by repeat (first | exact up_s | assumption | refine up_n (by omega) ?_)), (by first | exact Or.inr (Or.inr rfl) | exact Or.inr (Or.inl rfl) | exact Or.inl rfl), adl (by omega), (by first | assumption | exact vp_in_nI (by omega) (by omega)), rowsF_at (by omega), ?_⟩ | refine hZ _ _ _ _ ?_)
  show Z _ 10 _ _
  refine hZ _ _ _ _ ⟨⟨_, (by repeat (first | exact up_s | assumption | refine up_n (by omega) ?_))⟩, adl (by omega), rfl, ?_⟩
  refine c_hasNoYard CC0 o2 ?_
  show Z _ 13 _ _
  by_cases hn : n = 0
  · rw [if_pos hn] at hp
    rw [decide_eq_true hn]
    repeat (first | refine hZ _ _ _ _ ⟨rfl, ?_⟩ | refine hZ _ _ _ _ ⟨_, _, (by repeat (first | exact up_s | assumption | refine up_n (by omega) ?_)), adl (by omega), (by rfl), ?_⟩ | refine hZ _ _ _ _ ⟨_, _, (by repeat (first | exact up_s | assumption | refine up_n (by omega) ?_)), adl (by omega), (by first | assumption | exact vp_in_nI (by omega) (by omega)), ?_⟩ | refine hZ _ _ _ _ ⟨_, (by repeat (first | exact up_s | assumption | refine up_n (by omega) ?_)), adl (by omega), (by rfl), trivial, ?_⟩ | refine hZ _ _ _ _ ⟨trivial, ?_⟩ | refine hZ _ _ _ _ ⟨_, _, _, _, (by repeat (first | exact up_s | assumption | refine up_n (by omega) ?_)), (by first | exact Or.inr (Or.inr rfl) | exact Or.inr (Or.inl rfl) | exact Or.inl rfl), adl (by omega), (by first | assumption | exact vp_in_nI (by omega) (by omega)), rowsF_at (by omega), ?_⟩ | refine hZ _ _ _ _ ?_)
    exact ⟨fun c9 => absurd c9 (by decide), fun c9 => lost hp⟩
  rw [if_neg hn] at hp
  rw [decide_eq_false hn]
  have Y : Yw n a w κ := by rcases o1 with z | z; · omega
                            · exact z.2
  repeat (first | refine hZ _ _ _ _ ⟨rfl, ?_⟩ | refine hZ _ _ _ _ ⟨_, _, (by repeat (first | exact up_s | assumption | refine up_n (by omega) ?_)), adl (by omega), (by rfl), ?_⟩ | refine hZ _ _ _ _ ⟨_, _, (by repeat (first | exact up_s | assumption | refine up_n (by omega) ?_)), adl (by omega), (by first | assumption | exact vp_in_nI (by omega) (by omega)), ?_⟩ | refine hZ _ _ _ _ ⟨_, (by repeat (first | exact up_s | assumption | refine up_n (by omega) ?_)), adl (by omega), (by rfl), trivial, ?_⟩ | refine hZ _ _ _ _ ⟨trivial, ?_⟩ | refine hZ _ _ _ _ ⟨_, _, _, _, (by repeat (first | exact up_s | assumption | refine up_n (by omega) ?_)), (by first | exact Or.inr (Or.inr rfl) | exact Or.inr (Or.inl rfl) | exact Or.inl rfl), adl (by omega), (by first | assumption | exact vp_in_nI (by omega) (by omega)), rowsF_at (by omega), ?_⟩ | refine hZ _ _ _ _ ?_)
  refine ⟨fun c9 => ?_, fun c9 => absurd rfl c9⟩
  iterate 4 (first | refine hZ _ _ _ _ ⟨rfl, ?_⟩ | refine hZ _ _ _ _ ⟨_, _, (by repeat (first | exact up_s | assumption | refine up_n (by omega) ?_)), adl (by omega), (by rfl), ?_⟩ | refine hZ _ _ _ _ ⟨_, _, (by repeat (first | exact up_s | assumption | refine up_n (by omega) ?_)), adl (by omega), (by first | assumption | exact vp_in_nI (by omega) (by omega)), ?_⟩ | refine hZ _ _ _ _ ⟨_, (by repeat (first | exact up_s | assumption | refine up_n (by omega) ?_)), adl (by omega), (by rfl), trivial, ?_⟩ | refine hZ _ _ _ _ ⟨trivial, ?_⟩ | refine hZ _ _ _ _ ⟨_, _, _, _, (by repeat (first | exact up_s | assumption | refine up_n (by omega) ?_)), (by first | exact Or.inr (Or.inr rfl) | exact Or.inr (Or.inl rfl) | exact Or.inl rfl), adl (by omega), (by first | assumption | exact vp_in_nI (by omega) (by omega)), rowsF_at (by omega), ?_⟩ | refine hZ _ _ _ _ ?_)
  show Z _ 28 _ _
  refine hZ _ _ _ _ ⟨⟨_, (by repeat (first | exact up_s | assumption | refine up_n (by omega) ?_))⟩, adl (by omega), rfl, ?_⟩
  refine c_Heaps_ready (b := brf n a w κ) G0 K0 o2 hf (fun q hq => by have := hx q hq; omega) V.2.2.2.2 (fun q hq => by have := brf_le Y hq; omega) ?_
  show Z _ 31 _ _
  have hsl := sof_lt (fun q => decide (brf n a w κ q ≤ x q)) (n := n) (k := n) (Nat.le_refl _)
  have hS : ∀ S, S < 2 ^ n → S < 2 ^ 31 := fun S hS => Nat.lt_of_lt_of_le hS (Nat.pow_le_pow_right (by decide) (by omega))
  have hsl := hS _ hsl
  have hul : ∀ m, sm (upr n x (brf n a w κ)) m ≤ m := fun m => by
    have := sm_le (f := upr n x (brf n a w κ)) (n := m) (b := 1) (fun i _ => upr_le _ _ _ _)
    omega
  have fin : ∀ o2, Z h 95 [some (.ref 0), some (.int (nI i)), o2, some (.int (nI (sm (upr n x (brf n a w κ)) n))), some (.int (nI n))] [] := by
    intro o2
    have hn1 := hul n
    repeat (first | refine hZ _ _ _ _ ⟨rfl, ?_⟩ | refine hZ _ _ _ _ ⟨_, _, (by repeat (first | exact up_s | assumption | refine up_n (by omega) ?_)), adl (by omega), (by rfl), ?_⟩ | refine hZ _ _ _ _ ⟨_, _, (by repeat (first | exact up_s | assumption | refine up_n (by omega) ?_)), adl (by omega), (by first | assumption | exact vp_in_nI (by omega) (by omega)), ?_⟩ | refine hZ _ _ _ _ ⟨_, (by repeat (first | exact up_s | assumption | refine up_n (by omega) ?_)), adl (by omega), (by rfl), trivial, ?_⟩ | refine hZ _ _ _ _ ⟨trivial, ?_⟩ | refine hZ _ _ _ _ ⟨_, _, _, _, (by repeat (first | exact up_s | assumption | refine up_n (by omega) ?_)), (by first | exact Or.inr (Or.inr rfl) | exact Or.inr (Or.inl rfl) | exact Or.inl rfl), adl (by omega), (by first | assumption | exact vp_in_nI (by omega) (by omega)), rowsF_at (by omega), ?_⟩ | refine hZ _ _ _ _ ?_)
    refine ⟨fun c9 => ?_, fun c9 => ?_⟩
    · rw [if_neg (show ¬ i = 0 from fun z => c9 (by rw [z]; rfl))] at hp
      iterate 7 (first | refine hZ _ _ _ _ ⟨rfl, ?_⟩ | refine hZ _ _ _ _ ⟨_, _, (by repeat (first | exact up_s | assumption | refine up_n (by omega) ?_)), adl (by omega), (by rfl), ?_⟩ | refine hZ _ _ _ _ ⟨_, _, (by repeat (first | exact up_s | assumption | refine up_n (by omega) ?_)), adl (by omega), (by first | assumption | exact vp_in_nI (by omega) (by omega)), ?_⟩ | refine hZ _ _ _ _ ⟨_, (by repeat (first | exact up_s | assumption | refine up_n (by omega) ?_)), adl (by omega), (by rfl), trivial, ?_⟩ | refine hZ _ _ _ _ ⟨trivial, ?_⟩ | refine hZ _ _ _ _ ⟨_, _, _, _, (by repeat (first | exact up_s | assumption | refine up_n (by omega) ?_)), (by first | exact Or.inr (Or.inr rfl) | exact Or.inr (Or.inl rfl) | exact Or.inl rfl), adl (by omega), (by first | assumption | exact vp_in_nI (by omega) (by omega)), rowsF_at (by omega), ?_⟩ | refine hZ _ _ _ _ ?_)
      show Z _ 118 _ _
      refine hZ _ _ _ _ ⟨rfl, rfl, ?_⟩
      refine c_least (by omega) (by omega) (by omega) (by omega) ?_
      show Z _ 121 _ _
      repeat (first | refine hZ _ _ _ _ ⟨rfl, ?_⟩ | refine hZ _ _ _ _ ⟨_, _, (by repeat (first | exact up_s | assumption | refine up_n (by omega) ?_)), adl (by omega), (by rfl), ?_⟩ | refine hZ _ _ _ _ ⟨_, _, (by repeat (first | exact up_s | assumption | refine up_n (by omega) ?_)), adl (by omega), (by first | assumption | exact vp_in_nI (by omega) (by omega)), ?_⟩ | refine hZ _ _ _ _ ⟨_, (by repeat (first | exact up_s | assumption | refine up_n (by omega) ?_)), adl (by omega), (by rfl), trivial, ?_⟩ | refine hZ _ _ _ _ ⟨trivial, ?_⟩ | refine hZ _ _ _ _ ⟨_, _, _, _, (by repeat (first | exact up_s | assumption | refine up_n (by omega) ?_)), (by first | exact Or.inr (Or.inr rfl) | exact Or.inr (Or.inl rfl) | exact Or.inl rfl), adl (by omega), (by first | assumption | exact vp_in_nI (by omega) (by omega)), rowsF_at (by omega), ?_⟩ | refine hZ _ _ _ _ ?_)
      exact hp
    · rw [if_pos ((nI_eq (b := 0) (by omega) (by omega)).mp c9)] at hp
      iterate 6 (first | refine hZ _ _ _ _ ⟨rfl, ?_⟩ | refine hZ _ _ _ _ ⟨_, _, (by repeat (first | exact up_s | assumption | refine up_n (by omega) ?_)), adl (by omega), (by rfl), ?_⟩ | refine hZ _ _ _ _ ⟨_, _, (by repeat (first | exact up_s | assumption | refine up_n (by omega) ?_)), adl (by omega), (by first | assumption | exact vp_in_nI (by omega) (by omega)), ?_⟩ | refine hZ _ _ _ _ ⟨_, (by repeat (first | exact up_s | assumption | refine up_n (by omega) ?_)), adl (by omega), (by rfl), trivial, ?_⟩ | refine hZ _ _ _ _ ⟨trivial, ?_⟩ | refine hZ _ _ _ _ ⟨_, _, _, _, (by repeat (first | exact up_s | assumption | refine up_n (by omega) ?_)), (by first | exact Or.inr (Or.inr rfl) | exact Or.inr (Or.inl rfl) | exact Or.inl rfl), adl (by omega), (by first | assumption | exact vp_in_nI (by omega) (by omega)), rowsF_at (by omega), ?_⟩ | refine hZ _ _ _ _ ?_)
      show Z _ 118 _ _
      refine hZ _ _ _ _ ⟨rfl, rfl, ?_⟩
      refine c_least (by omega) (by omega) (by omega) (by omega) ?_
      show Z _ 121 _ _
      repeat (first | refine hZ _ _ _ _ ⟨rfl, ?_⟩ | refine hZ _ _ _ _ ⟨_, _, (by repeat (first | exact up_s | assumption | refine up_n (by omega) ?_)), adl (by omega), (by rfl), ?_⟩ | refine hZ _ _ _ _ ⟨_, _, (by repeat (first | exact up_s | assumption | refine up_n (by omega) ?_)), adl (by omega), (by first | assumption | exact vp_in_nI (by omega) (by omega)), ?_⟩ | refine hZ _ _ _ _ ⟨_, (by repeat (first | exact up_s | assumption | refine up_n (by omega) ?_)), adl (by omega), (by rfl), trivial, ?_⟩ | refine hZ _ _ _ _ ⟨trivial, ?_⟩ | refine hZ _ _ _ _ ⟨_, _, _, _, (by repeat (first | exact up_s | assumption | refine up_n (by omega) ?_)), (by first | exact Or.inr (Or.inr rfl) | exact Or.inr (Or.inl rfl) | exact Or.inl rfl), adl (by omega), (by first | assumption | exact vp_in_nI (by omega) (by omega)), rowsF_at (by omega), ?_⟩ | refine hZ _ _ _ _ ?_)
      exact hp
  by_cases hs0 : sof (fun q => decide (brf n a w κ q ≤ x q)) n = 0
  · have loop : ∀ e p, p + e = n → Z h 45 [some (.ref 0), some (.int (nI i)), some (.int (Int32.ofInt 1)), some (.int (nI (sm (upr n x (brf n a w κ)) p))), some (.int (nI p))] [] := by
      intro e
      induction e with
      | zero =>
        intro p hpe
        repeat (first | refine hZ _ _ _ _ ⟨rfl, ?_⟩ | refine hZ _ _ _ _ ⟨_, _, (by repeat (first | exact up_s | assumption | refine up_n (by omega) ?_)), adl (by omega), (by rfl), ?_⟩ | refine hZ _ _ _ _ ⟨_, _, (by repeat (first | exact up_s | assumption | refine up_n (by omega) ?_)), adl (by omega), (by first | assumption | exact vp_in_nI (by omega) (by omega)), ?_⟩ | refine hZ _ _ _ _ ⟨_, (by repeat (first | exact up_s | assumption | refine up_n (by omega) ?_)), adl (by omega), (by rfl), trivial, ?_⟩ | refine hZ _ _ _ _ ⟨trivial, ?_⟩ | refine hZ _ _ _ _ ⟨_, _, _, _, (by repeat (first | exact up_s | assumption | refine up_n (by omega) ?_)), (by first | exact Or.inr (Or.inr rfl) | exact Or.inr (Or.inl rfl) | exact Or.inl rfl), adl (by omega), (by first | assumption | exact vp_in_nI (by omega) (by omega)), rowsF_at (by omega), ?_⟩ | refine hZ _ _ _ _ ?_)
        refine ⟨fun c9 => ?_, fun c9 => absurd (nI_le (by omega) (by omega)) c9⟩
        rw [show p = n by omega]
        exact fin _
      | succ e ih =>
        intro p hpe
        have hpn : p < n := by omega
        have nx := ih (p + 1) (by omega)
        have hx1 := hx p hpn
        have hb1 := brf_le Y hpn
        repeat (first | refine hZ _ _ _ _ ⟨rfl, ?_⟩ | refine hZ _ _ _ _ ⟨_, _, (by repeat (first | exact up_s | assumption | refine up_n (by omega) ?_)), adl (by omega), (by rfl), ?_⟩ | refine hZ _ _ _ _ ⟨_, _, (by repeat (first | exact up_s | assumption | refine up_n (by omega) ?_)), adl (by omega), (by first | assumption | exact vp_in_nI (by omega) (by omega)), ?_⟩ | refine hZ _ _ _ _ ⟨_, (by repeat (first | exact up_s | assumption | refine up_n (by omega) ?_)), adl (by omega), (by rfl), trivial, ?_⟩ | refine hZ _ _ _ _ ⟨trivial, ?_⟩ | refine hZ _ _ _ _ ⟨_, _, _, _, (by repeat (first | exact up_s | assumption | refine up_n (by omega) ?_)), (by first | exact Or.inr (Or.inr rfl) | exact Or.inr (Or.inl rfl) | exact Or.inl rfl), adl (by omega), (by first | assumption | exact vp_in_nI (by omega) (by omega)), rowsF_at (by omega), ?_⟩ | refine hZ _ _ _ _ ?_)
        refine ⟨fun c9 => absurd c9 (nI_ge (by omega) (by omega)), fun c9 => ?_⟩
        repeat (first | refine hZ _ _ _ _ ⟨rfl, ?_⟩ | refine hZ _ _ _ _ ⟨_, _, (by repeat (first | exact up_s | assumption | refine up_n (by omega) ?_)), adl (by omega), (by rfl), ?_⟩ | refine hZ _ _ _ _ ⟨_, _, (by repeat (first | exact up_s | assumption | refine up_n (by omega) ?_)), adl (by omega), (by first | assumption | exact vp_in_nI (by omega) (by omega)), ?_⟩ | refine hZ _ _ _ _ ⟨_, (by repeat (first | exact up_s | assumption | refine up_n (by omega) ?_)), adl (by omega), (by rfl), trivial, ?_⟩ | refine hZ _ _ _ _ ⟨trivial, ?_⟩ | refine hZ _ _ _ _ ⟨_, _, _, _, (by repeat (first | exact up_s | assumption | refine up_n (by omega) ?_)), (by first | exact Or.inr (Or.inr rfl) | exact Or.inr (Or.inl rfl) | exact Or.inl rfl), adl (by omega), (by first | assumption | exact vp_in_nI (by omega) (by omega)), rowsF_at (by omega), ?_⟩ | refine hZ _ _ _ _ ?_)
        refine ⟨fun c9 => absurd c9 (by decide), fun c9 => ?_⟩
        repeat (first | refine hZ _ _ _ _ ⟨rfl, ?_⟩ | refine hZ _ _ _ _ ⟨_, _, (by repeat (first | exact up_s | assumption | refine up_n (by omega) ?_)), adl (by omega), (by rfl), ?_⟩ | refine hZ _ _ _ _ ⟨_, _, (by repeat (first | exact up_s | assumption | refine up_n (by omega) ?_)), adl (by omega), (by first | assumption | exact vp_in_nI (by omega) (by omega)), ?_⟩ | refine hZ _ _ _ _ ⟨_, (by repeat (first | exact up_s | assumption | refine up_n (by omega) ?_)), adl (by omega), (by rfl), trivial, ?_⟩ | refine hZ _ _ _ _ ⟨trivial, ?_⟩ | refine hZ _ _ _ _ ⟨_, _, _, _, (by repeat (first | exact up_s | assumption | refine up_n (by omega) ?_)), (by first | exact Or.inr (Or.inr rfl) | exact Or.inr (Or.inl rfl) | exact Or.inl rfl), adl (by omega), (by first | assumption | exact vp_in_nI (by omega) (by omega)), rowsF_at (by omega), ?_⟩ | refine hZ _ _ _ _ ?_)
        rw [nI_clamp (by omega), hf p hpn, V.2.2.2.2 p hpn, nI_inc]
        by_cases hc : brf n a w κ p ≤ x p + 1
        · refine ⟨fun c9 => absurd c9 (nI_nlt hc (by omega)), fun c9 => ?_⟩
          iterate 3 (first | refine hZ _ _ _ _ ⟨rfl, ?_⟩ | refine hZ _ _ _ _ ⟨_, _, (by repeat (first | exact up_s | assumption | refine up_n (by omega) ?_)), adl (by omega), (by rfl), ?_⟩ | refine hZ _ _ _ _ ⟨_, _, (by repeat (first | exact up_s | assumption | refine up_n (by omega) ?_)), adl (by omega), (by first | assumption | exact vp_in_nI (by omega) (by omega)), ?_⟩ | refine hZ _ _ _ _ ⟨_, (by repeat (first | exact up_s | assumption | refine up_n (by omega) ?_)), adl (by omega), (by rfl), trivial, ?_⟩ | refine hZ _ _ _ _ ⟨trivial, ?_⟩ | refine hZ _ _ _ _ ⟨_, _, _, _, (by repeat (first | exact up_s | assumption | refine up_n (by omega) ?_)), (by first | exact Or.inr (Or.inr rfl) | exact Or.inr (Or.inl rfl) | exact Or.inl rfl), adl (by omega), (by first | assumption | exact vp_in_nI (by omega) (by omega)), rowsF_at (by omega), ?_⟩ | refine hZ _ _ _ _ ?_)
          show Z _ 45 _ _
          rw [nI_inc, nI_inc]
          rw [show sm (upr n x (brf n a w κ)) (p + 1) = sm (upr n x (brf n a w κ)) p + 1 by
            show sm (upr n x (brf n a w κ)) p + upr n x (brf n a w κ) p = _
            unfold upr
            rw [if_pos hs0, if_pos hc]] at nx
          exact nx
        · refine ⟨fun c9 => ?_, fun c9 => absurd (nI_lt (Nat.lt_of_not_le hc) (Nat.lt_of_le_of_lt hb1 (by decide))) c9⟩
          iterate 2 (first | refine hZ _ _ _ _ ⟨rfl, ?_⟩ | refine hZ _ _ _ _ ⟨_, _, (by repeat (first | exact up_s | assumption | refine up_n (by omega) ?_)), adl (by omega), (by rfl), ?_⟩ | refine hZ _ _ _ _ ⟨_, _, (by repeat (first | exact up_s | assumption | refine up_n (by omega) ?_)), adl (by omega), (by first | assumption | exact vp_in_nI (by omega) (by omega)), ?_⟩ | refine hZ _ _ _ _ ⟨_, (by repeat (first | exact up_s | assumption | refine up_n (by omega) ?_)), adl (by omega), (by rfl), trivial, ?_⟩ | refine hZ _ _ _ _ ⟨trivial, ?_⟩ | refine hZ _ _ _ _ ⟨_, _, _, _, (by repeat (first | exact up_s | assumption | refine up_n (by omega) ?_)), (by first | exact Or.inr (Or.inr rfl) | exact Or.inr (Or.inl rfl) | exact Or.inl rfl), adl (by omega), (by first | assumption | exact vp_in_nI (by omega) (by omega)), rowsF_at (by omega), ?_⟩ | refine hZ _ _ _ _ ?_)
          show Z _ 45 _ _
          rw [nI_inc]
          rw [show sm (upr n x (brf n a w κ)) (p + 1) = sm (upr n x (brf n a w κ)) p by
            show sm (upr n x (brf n a w κ)) p + upr n x (brf n a w κ) p = _
            unfold upr
            rw [if_pos hs0, if_neg hc, Nat.add_zero]] at nx
          exact nx
    rw [hs0]
    repeat (first | refine hZ _ _ _ _ ⟨rfl, ?_⟩ | refine hZ _ _ _ _ ⟨_, _, (by repeat (first | exact up_s | assumption | refine up_n (by omega) ?_)), adl (by omega), (by rfl), ?_⟩ | refine hZ _ _ _ _ ⟨_, _, (by repeat (first | exact up_s | assumption | refine up_n (by omega) ?_)), adl (by omega), (by first | assumption | exact vp_in_nI (by omega) (by omega)), ?_⟩ | refine hZ _ _ _ _ ⟨_, (by repeat (first | exact up_s | assumption | refine up_n (by omega) ?_)), adl (by omega), (by rfl), trivial, ?_⟩ | refine hZ _ _ _ _ ⟨trivial, ?_⟩ | refine hZ _ _ _ _ ⟨_, _, _, _, (by repeat (first | exact up_s | assumption | refine up_n (by omega) ?_)), (by first | exact Or.inr (Or.inr rfl) | exact Or.inr (Or.inl rfl) | exact Or.inl rfl), adl (by omega), (by first | assumption | exact vp_in_nI (by omega) (by omega)), rowsF_at (by omega), ?_⟩ | refine hZ _ _ _ _ ?_)
    refine ⟨fun c9 => absurd rfl c9, fun c9 => ?_⟩
    iterate 7 (first | refine hZ _ _ _ _ ⟨rfl, ?_⟩ | refine hZ _ _ _ _ ⟨_, _, (by repeat (first | exact up_s | assumption | refine up_n (by omega) ?_)), adl (by omega), (by rfl), ?_⟩ | refine hZ _ _ _ _ ⟨_, _, (by repeat (first | exact up_s | assumption | refine up_n (by omega) ?_)), adl (by omega), (by first | assumption | exact vp_in_nI (by omega) (by omega)), ?_⟩ | refine hZ _ _ _ _ ⟨_, (by repeat (first | exact up_s | assumption | refine up_n (by omega) ?_)), adl (by omega), (by rfl), trivial, ?_⟩ | refine hZ _ _ _ _ ⟨trivial, ?_⟩ | refine hZ _ _ _ _ ⟨_, _, _, _, (by repeat (first | exact up_s | assumption | refine up_n (by omega) ?_)), (by first | exact Or.inr (Or.inr rfl) | exact Or.inr (Or.inl rfl) | exact Or.inl rfl), adl (by omega), (by first | assumption | exact vp_in_nI (by omega) (by omega)), rowsF_at (by omega), ?_⟩ | refine hZ _ _ _ _ ?_)
    show Z _ 45 _ _
    exact loop n 0 (by omega)
  · have loop : ∀ e p, p + e = n → Z h 45 [some (.ref 0), some (.int (nI i)), some (.int (Int32.ofInt 0)), some (.int (nI (sm (upr n x (brf n a w κ)) p))), some (.int (nI p))] [] := by
      intro e
      induction e with
      | zero =>
        intro p hpe
        repeat (first | refine hZ _ _ _ _ ⟨rfl, ?_⟩ | refine hZ _ _ _ _ ⟨_, _, (by repeat (first | exact up_s | assumption | refine up_n (by omega) ?_)), adl (by omega), (by rfl), ?_⟩ | refine hZ _ _ _ _ ⟨_, _, (by repeat (first | exact up_s | assumption | refine up_n (by omega) ?_)), adl (by omega), (by first | assumption | exact vp_in_nI (by omega) (by omega)), ?_⟩ | refine hZ _ _ _ _ ⟨_, (by repeat (first | exact up_s | assumption | refine up_n (by omega) ?_)), adl (by omega), (by rfl), trivial, ?_⟩ | refine hZ _ _ _ _ ⟨trivial, ?_⟩ | refine hZ _ _ _ _ ⟨_, _, _, _, (by repeat (first | exact up_s | assumption | refine up_n (by omega) ?_)), (by first | exact Or.inr (Or.inr rfl) | exact Or.inr (Or.inl rfl) | exact Or.inl rfl), adl (by omega), (by first | assumption | exact vp_in_nI (by omega) (by omega)), rowsF_at (by omega), ?_⟩ | refine hZ _ _ _ _ ?_)
        refine ⟨fun c9 => ?_, fun c9 => absurd (nI_le (by omega) (by omega)) c9⟩
        rw [show p = n by omega]
        exact fin _
      | succ e ih =>
        intro p hpe
        have hpn : p < n := by omega
        have nx := ih (p + 1) (by omega)
        repeat (first | refine hZ _ _ _ _ ⟨rfl, ?_⟩ | refine hZ _ _ _ _ ⟨_, _, (by repeat (first | exact up_s | assumption | refine up_n (by omega) ?_)), adl (by omega), (by rfl), ?_⟩ | refine hZ _ _ _ _ ⟨_, _, (by repeat (first | exact up_s | assumption | refine up_n (by omega) ?_)), adl (by omega), (by first | assumption | exact vp_in_nI (by omega) (by omega)), ?_⟩ | refine hZ _ _ _ _ ⟨_, (by repeat (first | exact up_s | assumption | refine up_n (by omega) ?_)), adl (by omega), (by rfl), trivial, ?_⟩ | refine hZ _ _ _ _ ⟨trivial, ?_⟩ | refine hZ _ _ _ _ ⟨_, _, _, _, (by repeat (first | exact up_s | assumption | refine up_n (by omega) ?_)), (by first | exact Or.inr (Or.inr rfl) | exact Or.inr (Or.inl rfl) | exact Or.inl rfl), adl (by omega), (by first | assumption | exact vp_in_nI (by omega) (by omega)), rowsF_at (by omega), ?_⟩ | refine hZ _ _ _ _ ?_)
        refine ⟨fun c9 => absurd c9 (nI_ge (by omega) (by omega)), fun c9 => ?_⟩
        repeat (first | refine hZ _ _ _ _ ⟨rfl, ?_⟩ | refine hZ _ _ _ _ ⟨_, _, (by repeat (first | exact up_s | assumption | refine up_n (by omega) ?_)), adl (by omega), (by rfl), ?_⟩ | refine hZ _ _ _ _ ⟨_, _, (by repeat (first | exact up_s | assumption | refine up_n (by omega) ?_)), adl (by omega), (by first | assumption | exact vp_in_nI (by omega) (by omega)), ?_⟩ | refine hZ _ _ _ _ ⟨_, (by repeat (first | exact up_s | assumption | refine up_n (by omega) ?_)), adl (by omega), (by rfl), trivial, ?_⟩ | refine hZ _ _ _ _ ⟨trivial, ?_⟩ | refine hZ _ _ _ _ ⟨_, _, _, _, (by repeat (first | exact up_s | assumption | refine up_n (by omega) ?_)), (by first | exact Or.inr (Or.inr rfl) | exact Or.inr (Or.inl rfl) | exact Or.inl rfl), adl (by omega), (by first | assumption | exact vp_in_nI (by omega) (by omega)), rowsF_at (by omega), ?_⟩ | refine hZ _ _ _ _ ?_)
        refine ⟨fun c9 => ?_, fun c9 => absurd rfl c9⟩
        iterate 3 (first | refine hZ _ _ _ _ ⟨rfl, ?_⟩ | refine hZ _ _ _ _ ⟨_, _, (by repeat (first | exact up_s | assumption | refine up_n (by omega) ?_)), adl (by omega), (by rfl), ?_⟩ | refine hZ _ _ _ _ ⟨_, _, (by repeat (first | exact up_s | assumption | refine up_n (by omega) ?_)), adl (by omega), (by first | assumption | exact vp_in_nI (by omega) (by omega)), ?_⟩ | refine hZ _ _ _ _ ⟨_, (by repeat (first | exact up_s | assumption | refine up_n (by omega) ?_)), adl (by omega), (by rfl), trivial, ?_⟩ | refine hZ _ _ _ _ ⟨trivial, ?_⟩ | refine hZ _ _ _ _ ⟨_, _, _, _, (by repeat (first | exact up_s | assumption | refine up_n (by omega) ?_)), (by first | exact Or.inr (Or.inr rfl) | exact Or.inr (Or.inl rfl) | exact Or.inl rfl), adl (by omega), (by first | assumption | exact vp_in_nI (by omega) (by omega)), rowsF_at (by omega), ?_⟩ | refine hZ _ _ _ _ ?_)
        show Z _ 45 _ _
        rw [nI_inc, nI_inc]
        rw [show sm (upr n x (brf n a w κ)) (p + 1) = sm (upr n x (brf n a w κ)) p + 1 by
          show sm (upr n x (brf n a w κ)) p + upr n x (brf n a w κ) p = _
          unfold upr
          rw [if_neg hs0]] at nx
        exact nx
    repeat (first | refine hZ _ _ _ _ ⟨rfl, ?_⟩ | refine hZ _ _ _ _ ⟨_, _, (by repeat (first | exact up_s | assumption | refine up_n (by omega) ?_)), adl (by omega), (by rfl), ?_⟩ | refine hZ _ _ _ _ ⟨_, _, (by repeat (first | exact up_s | assumption | refine up_n (by omega) ?_)), adl (by omega), (by first | assumption | exact vp_in_nI (by omega) (by omega)), ?_⟩ | refine hZ _ _ _ _ ⟨_, (by repeat (first | exact up_s | assumption | refine up_n (by omega) ?_)), adl (by omega), (by rfl), trivial, ?_⟩ | refine hZ _ _ _ _ ⟨trivial, ?_⟩ | refine hZ _ _ _ _ ⟨_, _, _, _, (by repeat (first | exact up_s | assumption | refine up_n (by omega) ?_)), (by first | exact Or.inr (Or.inr rfl) | exact Or.inr (Or.inl rfl) | exact Or.inl rfl), adl (by omega), (by first | assumption | exact vp_in_nI (by omega) (by omega)), rowsF_at (by omega), ?_⟩ | refine hZ _ _ _ _ ?_)
    refine ⟨fun c9 => ?_, fun c9 => absurd ((nI_eq (b := 0) hsl (by omega)).mp c9) hs0⟩
    iterate 6 (first | refine hZ _ _ _ _ ⟨rfl, ?_⟩ | refine hZ _ _ _ _ ⟨_, _, (by repeat (first | exact up_s | assumption | refine up_n (by omega) ?_)), adl (by omega), (by rfl), ?_⟩ | refine hZ _ _ _ _ ⟨_, _, (by repeat (first | exact up_s | assumption | refine up_n (by omega) ?_)), adl (by omega), (by first | assumption | exact vp_in_nI (by omega) (by omega)), ?_⟩ | refine hZ _ _ _ _ ⟨_, (by repeat (first | exact up_s | assumption | refine up_n (by omega) ?_)), adl (by omega), (by rfl), trivial, ?_⟩ | refine hZ _ _ _ _ ⟨trivial, ?_⟩ | refine hZ _ _ _ _ ⟨_, _, _, _, (by repeat (first | exact up_s | assumption | refine up_n (by omega) ?_)), (by first | exact Or.inr (Or.inr rfl) | exact Or.inr (Or.inl rfl) | exact Or.inl rfl), adl (by omega), (by first | assumption | exact vp_in_nI (by omega) (by omega)), rowsF_at (by omega), ?_⟩ | refine hZ _ _ _ _ ?_)
    show Z _ 45 _ _
    exact loop n 0 (by omega)
/-- all readings are so -/
noncomputable def aso (n : Nat) (a : Nat → Nat → Nat) (w κ x : Nat → Nat) (cn : Nat) (pl : Nat → Nat) (td : Nat → Int32) : Bool := @decide (∀ j, j < cn → SoR n a w κ x (pl j) (td j)) (Classical.propDecidable _)
theorem aso_cb {n : Nat} {a : Nat → Nat → Nat} {w κ x : Nat → Nat} {cn : Nat} {pl : Nat → Nat} {td td' : Nat → Int32} (h : ∀ j, j < cn → td' j = td j) : cb (∀ j, j < cn → SoR n a w κ x (pl j) (td' j)) = b2i (aso n a w κ x cn pl td) := by
  by_cases hc : ∀ j, j < cn → SoR n a w κ x (pl j) (td j)
  · have : aso n a w κ x cn pl td = true := @decide_eq_true _ (Classical.propDecidable _) hc
    rw [this, cb_t (fun j hj => by rw [h j hj]; exact hc j hj)]
    rfl
  · have : aso n a w κ x cn pl td = false := @decide_eq_false _ (Classical.propDecidable _) hc
    rw [this, cb_f (fun q => hc (fun j hj => by rw [← h j hj]; exact q j hj))]
    rfl
theorem Yw.kind {n p k : Nat} {a : Nat → Nat → Nat} {w κ : Nat → Nat} (Y : Yw n a w κ) (hk : k ≤ 2) : Yw n a w (updN κ p k) := by
  obtain ⟨y1, y2, y3, y4, y5, y6, y7⟩ := Y
  refine ⟨y1, y2, y3, y4, y5, fun q hq => ?_, y7⟩
  unfold updN
  split
  · exact hk
  · exact y6 q hq
theorem CC.grd {h h' : AH} {g d k e n : Nat} {a : Nat → Nat → Nat} {w κ κ' : Nat → Nat} {H : HS} {R : RS} {S : SS} {tr fl : Int32} (C : CC h g d k e ((n, a, w, κ), H, R, S, tr, fl)) (f : Fr g (g + 11) h h') (hg : Grd h' g n a w κ') : CC h' g d k e ((n, a, w, κ'), H, R, S, tr, fl) := by
  obtain ⟨x, tp, fa, to⟩ := H
  obtain ⟨cn, pl, td⟩ := R
  obtain ⟨z, m, c⟩ := S
  obtain ⟨c0, c1, c2, c3, c4, c5, c6, c7, c8⟩ := C
  have hw := c0
  unfold Wh at hw
  exact ⟨c0, c1.fr f (by omega), c2.fr f (by omega), c3.fr f (by omega), c4.fr f (by omega), hg, c6.fr f (by omega), c7.fr f (by omega), c8.fr f (by omega)⟩
theorem c_become {l : Launch} {h : AH} {g n p k : Nat} {a : Nat → Nat → Nat} {w κ : Nat → Nat} {P : Option Value → AH → Prop} (G : Grd h g n a w κ) (hn : n ≤ 5) (hpn : p < n) (hk : k ≤ 2) (hp : ∀ h', Grd h' g n a w (updN κ p k) → Fr g (g + 11) h h' → P none h') : Sem l QX1_becomeKind 82 h [.ref g, .int (nI p), .int (nI k)] P := by
  obtain ⟨B, pit, kind, deg, brs, G, hdi, v1, v2, v3, v4, v5⟩ := G
  refine c_Ground_becomeKind G (by omega) hk (v4 p hpn) (fun h' G' F => hp h' ⟨_, _, _, _, _, G', hdi, v1, v2, fun q hq => ?_, v4, fun q hq => ?_⟩ F)
  · unfold updN
    by_cases e : q = p
    · rw [upd_s e, if_pos e]
    · rw [pk_un e, if_neg e, v3 q hq]
  · unfold updN
    by_cases e : q = p
    · rw [upd_s e, if_pos e, e]
    · rw [pk_un e, if_neg e, v5 q hq]
noncomputable def S_kinds (s : St) (p : Int32) : Int32 := match s with
  | ((n, a, w, κ), (x, _, _, _), (cn, pl, td), _, _, _) => if inb p n = false then -1 else nI (sof (fun k => aso n a w (updN κ p.toNatClampNeg k) x cn pl td) 3)
noncomputable def S_heapings (s : St) (p : Int32) : Int32 := match s with
  | ((n, a, w, κ), (x, _, _, _), (cn, pl, td), _, _, _) => if inb p n = false then -1 else nI (sof (fun v => aso n a w κ (updN x p.toNatClampNeg v) cn pl td) 20)
theorem sof_lt31 (c : Nat → Bool) {k : Nat} (h : k ≤ 30) : sof c k < 2 ^ 31 := Nat.lt_of_lt_of_le (sof_lt c (n := 30) h) (by decide)
set_option maxHeartbeats 2000000 in
theorem C_kinds {l : Launch} {h : AH} {s : St} {p : Int32} {P : Option Value → AH → Prop} (C : CY h s) (O : Ok s) (hx : sm s.2.1.1 s.1.1 ≤ 66666) (hp : ∀ h', Fr 0 61 h h' → CY h' s → P (some (.int (S_kinds s p))) h') : Sem l QX6_kinds 82 h [.ref 0, .int p] P := by
  have CY0 := C
  obtain ⟨⟨n, a, w, κ⟩, ⟨x, tp, fa, to⟩, ⟨cn, pl, td⟩, ⟨z, m, c⟩, tr, fl⟩ := s
  obtain ⟨g, d, k, e, C⟩ := C
  have CC0 := C
  obtain ⟨c0, c1, c2, c3, c4, c5, c6, c7, c8⟩ := C
  obtain ⟨o1, o2, o3, o4, o5⟩ := O
  have G1 := c5
  unfold Wh at c0
  unfold Obj at c1
  obtain ⟨B, pit, kind, deg, brs, G, hdi, V⟩ := c5
  obtain ⟨gN, r0, r1, r2, r3, r4, r5, r6⟩ := G
  refine iX6_kinds rfl ?_
  intro Z hZ
  unfold S_kinds at hp
  dsimp only at hp hx
  iterate 3 (first | refine hZ _ _ _ _ ⟨rfl, ?_⟩ | refine hZ _ _ _ _ ⟨_, _, (by repeat (first | exact up_s | assumption | refine up_n (by omega) ?_)), adl (by omega), (by rfl), ?_⟩ | refine hZ _ _ _ _ ⟨_, _, (by repeat (first | exact up_s | assumption | refine up_n (by omega) ?_)), adl (by omega), (by first | assumption | exact vp_in_nI (by omega) (by omega)), ?_⟩ | refine hZ _ _ _ _ ⟨_, (by repeat (first | exact up_s | assumption | refine up_n (by omega) ?_)), adl (by omega), (by rfl), trivial, ?_⟩ | refine hZ _ _ _ _ ⟨trivial, ?_⟩ | refine hZ _ _ _ _ ⟨_, _, _, _, (by repeat (first | exact up_s | assumption | refine up_n (by omega) ?_)), (by first | exact Or.inr (Or.inr rfl) | exact Or.inr (Or.inl rfl) | exact Or.inl rfl), adl (by omega), (by first | assumption | exact vp_in_nI (by omega) (by omega)), rowsF_at (by omega), ?_⟩ | refine hZ _ _ _ _ ?_)
  show Z _ 5 _ _
  refine hZ _ _ _ _ ⟨⟨_, (by repeat (first | exact up_s | assumption | refine up_n (by omega) ?_))⟩, adl (by omega), rfl, ?_⟩
  refine c_isPl G1 o2 ?_
  show Z _ 8 _ _
  rcases inb_of (v := p) (n := n) (by omega) with ⟨h1, h2⟩ | ⟨h1, j, h2, h3⟩
  · rw [h1]
    rw [if_pos h1] at hp
    repeat (first | refine hZ _ _ _ _ ⟨rfl, ?_⟩ | refine hZ _ _ _ _ ⟨_, _, (by repeat (first | exact up_s | assumption | refine up_n (by omega) ?_)), adl (by omega), (by rfl), ?_⟩ | refine hZ _ _ _ _ ⟨_, _, (by repeat (first | exact up_s | assumption | refine up_n (by omega) ?_)), adl (by omega), (by first | assumption | exact vp_in_nI (by omega) (by omega)), ?_⟩ | refine hZ _ _ _ _ ⟨_, (by repeat (first | exact up_s | assumption | refine up_n (by omega) ?_)), adl (by omega), (by rfl), trivial, ?_⟩ | refine hZ _ _ _ _ ⟨trivial, ?_⟩ | refine hZ _ _ _ _ ⟨_, _, _, _, (by repeat (first | exact up_s | assumption | refine up_n (by omega) ?_)), (by first | exact Or.inr (Or.inr rfl) | exact Or.inr (Or.inl rfl) | exact Or.inl rfl), adl (by omega), (by first | assumption | exact vp_in_nI (by omega) (by omega)), rowsF_at (by omega), ?_⟩ | refine hZ _ _ _ _ ?_)
    refine ⟨fun c => absurd rfl c, fun c => ?_⟩
    repeat (first | refine hZ _ _ _ _ ⟨rfl, ?_⟩ | refine hZ _ _ _ _ ⟨_, _, (by repeat (first | exact up_s | assumption | refine up_n (by omega) ?_)), adl (by omega), (by rfl), ?_⟩ | refine hZ _ _ _ _ ⟨_, _, (by repeat (first | exact up_s | assumption | refine up_n (by omega) ?_)), adl (by omega), (by first | assumption | exact vp_in_nI (by omega) (by omega)), ?_⟩ | refine hZ _ _ _ _ ⟨_, (by repeat (first | exact up_s | assumption | refine up_n (by omega) ?_)), adl (by omega), (by rfl), trivial, ?_⟩ | refine hZ _ _ _ _ ⟨trivial, ?_⟩ | refine hZ _ _ _ _ ⟨_, _, _, _, (by repeat (first | exact up_s | assumption | refine up_n (by omega) ?_)), (by first | exact Or.inr (Or.inr rfl) | exact Or.inr (Or.inl rfl) | exact Or.inl rfl), adl (by omega), (by first | assumption | exact vp_in_nI (by omega) (by omega)), rowsF_at (by omega), ?_⟩ | refine hZ _ _ _ _ ?_)
    exact hp h Fr.rf CY0
  · rw [h1]
    rw [if_neg (by rw [h1]; decide)] at hp
    subst h3
    rw [nI_clamp (by omega)] at hp
    have Y : Yw n a w κ := by rcases o1 with z | z; · omega
                              · exact z.2
    have hk2 := Y.2.2.2.2.2.1 j h2
    repeat (first | refine hZ _ _ _ _ ⟨rfl, ?_⟩ | refine hZ _ _ _ _ ⟨_, _, (by repeat (first | exact up_s | assumption | refine up_n (by omega) ?_)), adl (by omega), (by rfl), ?_⟩ | refine hZ _ _ _ _ ⟨_, _, (by repeat (first | exact up_s | assumption | refine up_n (by omega) ?_)), adl (by omega), (by first | assumption | exact vp_in_nI (by omega) (by omega)), ?_⟩ | refine hZ _ _ _ _ ⟨_, (by repeat (first | exact up_s | assumption | refine up_n (by omega) ?_)), adl (by omega), (by rfl), trivial, ?_⟩ | refine hZ _ _ _ _ ⟨trivial, ?_⟩ | refine hZ _ _ _ _ ⟨_, _, _, _, (by repeat (first | exact up_s | assumption | refine up_n (by omega) ?_)), (by first | exact Or.inr (Or.inr rfl) | exact Or.inr (Or.inl rfl) | exact Or.inl rfl), adl (by omega), (by first | assumption | exact vp_in_nI (by omega) (by omega)), rowsF_at (by omega), ?_⟩ | refine hZ _ _ _ _ ?_)
    refine ⟨fun c9 => ?_, fun c9 => absurd c9 (by decide)⟩
    iterate 10 (first | refine hZ _ _ _ _ ⟨rfl, ?_⟩ | refine hZ _ _ _ _ ⟨_, _, (by repeat (first | exact up_s | assumption | refine up_n (by omega) ?_)), adl (by omega), (by rfl), ?_⟩ | refine hZ _ _ _ _ ⟨_, _, (by repeat (first | exact up_s | assumption | refine up_n (by omega) ?_)), adl (by omega), (by first | assumption | exact vp_in_nI (by omega) (by omega)), ?_⟩ | refine hZ _ _ _ _ ⟨_, (by repeat (first | exact up_s | assumption | refine up_n (by omega) ?_)), adl (by omega), (by rfl), trivial, ?_⟩ | refine hZ _ _ _ _ ⟨trivial, ?_⟩ | refine hZ _ _ _ _ ⟨_, _, _, _, (by repeat (first | exact up_s | assumption | refine up_n (by omega) ?_)), (by first | exact Or.inr (Or.inr rfl) | exact Or.inr (Or.inl rfl) | exact Or.inl rfl), adl (by omega), (by first | assumption | exact vp_in_nI (by omega) (by omega)), rowsF_at (by omega), ?_⟩ | refine hZ _ _ _ _ ?_)
    show Z _ 28 _ _
    rw [nI_clamp (by omega), V.2.2.1 j h2, lit_0]
    have loop : ∀ e' k' h3 κ3, k' + e' = 3 → (∀ q, ¬ q = j → κ3 q = κ q) → CC h3 g d k e ((n, a, w, κ3), (x, tp, fa, to), (cn, pl, td), (z, m, c), tr, fl) → Fr 0 61 h h3 → Z h3 28 [some (.ref 0), some (.int (nI j)), some (.int (nI (κ j))), some (.int (nI (sof (fun k => aso n a w (updN κ j k) x cn pl td) k'))), some (.int (nI k'))] [] := by
      intro e'
      induction e' with
      | zero =>
        intro k' h3 κ3 hk3 hq3 C3 F3
        have c13 := C3.2.1
        unfold Obj at c13
        have G3 : Grd h3 g n a w κ3 := C3.2.2.2.2.2.1
        have G30 := G3
        obtain ⟨B3, pit3, kind3, deg3, brs3, G3, -, V3⟩ := G3
        have g30 := G3.2.1
        repeat (first | refine hZ _ _ _ _ ⟨rfl, ?_⟩ | refine hZ _ _ _ _ ⟨_, _, (by repeat (first | exact up_s | assumption | refine up_n (by omega) ?_)), adl (by omega), (by rfl), ?_⟩ | refine hZ _ _ _ _ ⟨_, _, (by repeat (first | exact up_s | assumption | refine up_n (by omega) ?_)), adl (by omega), (by first | assumption | exact vp_in_nI (by omega) (by omega)), ?_⟩ | refine hZ _ _ _ _ ⟨_, (by repeat (first | exact up_s | assumption | refine up_n (by omega) ?_)), adl (by omega), (by rfl), trivial, ?_⟩ | refine hZ _ _ _ _ ⟨trivial, ?_⟩ | refine hZ _ _ _ _ ⟨_, _, _, _, (by repeat (first | exact up_s | assumption | refine up_n (by omega) ?_)), (by first | exact Or.inr (Or.inr rfl) | exact Or.inr (Or.inl rfl) | exact Or.inl rfl), adl (by omega), (by first | assumption | exact vp_in_nI (by omega) (by omega)), rowsF_at (by omega), ?_⟩ | refine hZ _ _ _ _ ?_)
        rw [lit_2]
        refine ⟨fun c9 => ?_, fun c9 => absurd (nI_lt (by omega) (by omega)) c9⟩
        iterate 4 (first | refine hZ _ _ _ _ ⟨rfl, ?_⟩ | refine hZ _ _ _ _ ⟨_, _, (by repeat (first | exact up_s | assumption | refine up_n (by omega) ?_)), adl (by omega), (by rfl), ?_⟩ | refine hZ _ _ _ _ ⟨_, _, (by repeat (first | exact up_s | assumption | refine up_n (by omega) ?_)), adl (by omega), (by first | assumption | exact vp_in_nI (by omega) (by omega)), ?_⟩ | refine hZ _ _ _ _ ⟨_, (by repeat (first | exact up_s | assumption | refine up_n (by omega) ?_)), adl (by omega), (by rfl), trivial, ?_⟩ | refine hZ _ _ _ _ ⟨trivial, ?_⟩ | refine hZ _ _ _ _ ⟨_, _, _, _, (by repeat (first | exact up_s | assumption | refine up_n (by omega) ?_)), (by first | exact Or.inr (Or.inr rfl) | exact Or.inr (Or.inl rfl) | exact Or.inl rfl), adl (by omega), (by first | assumption | exact vp_in_nI (by omega) (by omega)), rowsF_at (by omega), ?_⟩ | refine hZ _ _ _ _ ?_)
        show Z _ 81 _ _
        refine hZ _ _ _ _ ⟨⟨_, (by repeat (first | exact up_s | assumption | refine up_n (by omega) ?_))⟩, adl (by omega), rfl, ?_⟩
        refine c_become G30 o2 h2 hk2 (fun h4 G4 F4 => ?_)
        show Z _ 84 _ _
        have C4 := C3.grd F4 G4
        rw [show updN κ3 j (κ j) = κ from funext (fun q => by
          unfold updN
          by_cases e : q = j
          · rw [if_pos e, e]
          · rw [if_neg e]; exact hq3 q e)] at C4
        repeat (first | refine hZ _ _ _ _ ⟨rfl, ?_⟩ | refine hZ _ _ _ _ ⟨_, _, (by repeat (first | exact up_s | assumption | refine up_n (by omega) ?_)), adl (by omega), (by rfl), ?_⟩ | refine hZ _ _ _ _ ⟨_, _, (by repeat (first | exact up_s | assumption | refine up_n (by omega) ?_)), adl (by omega), (by first | assumption | exact vp_in_nI (by omega) (by omega)), ?_⟩ | refine hZ _ _ _ _ ⟨_, (by repeat (first | exact up_s | assumption | refine up_n (by omega) ?_)), adl (by omega), (by rfl), trivial, ?_⟩ | refine hZ _ _ _ _ ⟨trivial, ?_⟩ | refine hZ _ _ _ _ ⟨_, _, _, _, (by repeat (first | exact up_s | assumption | refine up_n (by omega) ?_)), (by first | exact Or.inr (Or.inr rfl) | exact Or.inr (Or.inl rfl) | exact Or.inl rfl), adl (by omega), (by first | assumption | exact vp_in_nI (by omega) (by omega)), rowsF_at (by omega), ?_⟩ | refine hZ _ _ _ _ ?_)
        rw [show k' = 3 by omega]
        exact hp h4 (F3.tr (F4.wide (by omega) (by omega))) ⟨_, _, _, _, C4⟩
      | succ e' ih =>
        intro k' h3 κ3 hk3 hq3 C3 F3
        have c13 := C3.2.1
        unfold Obj at c13
        have G3 : Grd h3 g n a w κ3 := C3.2.2.2.2.2.1
        have G30 := G3
        obtain ⟨B3, pit3, kind3, deg3, brs3, G3, -, V3⟩ := G3
        have g30 := G3.2.1
        repeat (first | refine hZ _ _ _ _ ⟨rfl, ?_⟩ | refine hZ _ _ _ _ ⟨_, _, (by repeat (first | exact up_s | assumption | refine up_n (by omega) ?_)), adl (by omega), (by rfl), ?_⟩ | refine hZ _ _ _ _ ⟨_, _, (by repeat (first | exact up_s | assumption | refine up_n (by omega) ?_)), adl (by omega), (by first | assumption | exact vp_in_nI (by omega) (by omega)), ?_⟩ | refine hZ _ _ _ _ ⟨_, (by repeat (first | exact up_s | assumption | refine up_n (by omega) ?_)), adl (by omega), (by rfl), trivial, ?_⟩ | refine hZ _ _ _ _ ⟨trivial, ?_⟩ | refine hZ _ _ _ _ ⟨_, _, _, _, (by repeat (first | exact up_s | assumption | refine up_n (by omega) ?_)), (by first | exact Or.inr (Or.inr rfl) | exact Or.inr (Or.inl rfl) | exact Or.inl rfl), adl (by omega), (by first | assumption | exact vp_in_nI (by omega) (by omega)), rowsF_at (by omega), ?_⟩ | refine hZ _ _ _ _ ?_)
        rw [lit_2]
        refine ⟨fun c9 => absurd c9 (nI_nlt (by omega) (by omega)), fun c9 => ?_⟩
        iterate 4 (first | refine hZ _ _ _ _ ⟨rfl, ?_⟩ | refine hZ _ _ _ _ ⟨_, _, (by repeat (first | exact up_s | assumption | refine up_n (by omega) ?_)), adl (by omega), (by rfl), ?_⟩ | refine hZ _ _ _ _ ⟨_, _, (by repeat (first | exact up_s | assumption | refine up_n (by omega) ?_)), adl (by omega), (by first | assumption | exact vp_in_nI (by omega) (by omega)), ?_⟩ | refine hZ _ _ _ _ ⟨_, (by repeat (first | exact up_s | assumption | refine up_n (by omega) ?_)), adl (by omega), (by rfl), trivial, ?_⟩ | refine hZ _ _ _ _ ⟨trivial, ?_⟩ | refine hZ _ _ _ _ ⟨_, _, _, _, (by repeat (first | exact up_s | assumption | refine up_n (by omega) ?_)), (by first | exact Or.inr (Or.inr rfl) | exact Or.inr (Or.inl rfl) | exact Or.inl rfl), adl (by omega), (by first | assumption | exact vp_in_nI (by omega) (by omega)), rowsF_at (by omega), ?_⟩ | refine hZ _ _ _ _ ?_)
        show Z _ 41 _ _
        refine hZ _ _ _ _ ⟨⟨_, (by repeat (first | exact up_s | assumption | refine up_n (by omega) ?_))⟩, adl (by omega), rfl, ?_⟩
        refine c_become (k := k') G30 o2 h2 (by omega) (fun h4 G4 F4 => ?_)
        show Z _ 44 _ _
        have C4 := C3.grd F4 G4
        have e3 : updN κ3 j k' = updN κ j k' := funext (fun q => by
          unfold updN
          by_cases e : q = j
          · rw [if_pos e, if_pos e]
          · rw [if_neg e, if_neg e]; exact hq3 q e)
        rw [e3] at C4
        have CC4 := C4
        obtain ⟨-, c14, -, ⟨pc4, td4, R4, hv4, h54, h84⟩, -, ⟨B4, pit4, kind4, deg4, brs4, Gd4, -, V4⟩, -, ⟨f4, t4, K4, hf4, ht4⟩, -⟩ := C4
        unfold Obj at c14
        have r40 := R4.2.1
        iterate 6 (first | refine hZ _ _ _ _ ⟨rfl, ?_⟩ | refine hZ _ _ _ _ ⟨_, _, (by repeat (first | exact up_s | assumption | refine up_n (by omega) ?_)), adl (by omega), (by rfl), ?_⟩ | refine hZ _ _ _ _ ⟨_, _, (by repeat (first | exact up_s | assumption | refine up_n (by omega) ?_)), adl (by omega), (by first | assumption | exact vp_in_nI (by omega) (by omega)), ?_⟩ | refine hZ _ _ _ _ ⟨_, (by repeat (first | exact up_s | assumption | refine up_n (by omega) ?_)), adl (by omega), (by rfl), trivial, ?_⟩ | refine hZ _ _ _ _ ⟨trivial, ?_⟩ | refine hZ _ _ _ _ ⟨_, _, _, _, (by repeat (first | exact up_s | assumption | refine up_n (by omega) ?_)), (by first | exact Or.inr (Or.inr rfl) | exact Or.inr (Or.inl rfl) | exact Or.inl rfl), adl (by omega), (by first | assumption | exact vp_in_nI (by omega) (by omega)), rowsF_at (by omega), ?_⟩ | refine hZ _ _ _ _ ?_)
        show Z _ 56 _ _
        refine hZ _ _ _ _ ⟨⟨_, (by repeat (first | exact up_s | assumption | refine up_n (by omega) ?_))⟩, adl (by omega), rfl, ?_⟩
        refine c_Readings_areAllSo (pl := pl) Gd4 V4 (Y.kind (by omega)) K4 R4 h54 h84 (by omega) (by omega) hf4 hx o4 (fun i hi => ⟨(hv4 i hi).1, o3 i hi⟩) (fun h5 h55 h85 F5 => ?_)
        show Z _ 59 _ _
        have C5 := CC4.rds (F5.wide (by omega) (by omega)) ⟨pc4, td4, R4.fr F5 (by omega), hv4, h55, h85⟩
        rw [aso_cb (fun i hi => (hv4 i hi).2)]
        have nx := ih (k' + 1) h5 (updN κ j k') (by omega) (fun q hq => if_neg hq) C5 ((F3.tr (F4.wide (by omega) (by omega))).tr (F5.wide (by omega) (by omega)))
        have esof : sof (fun k => aso n a w (updN κ j k) x cn pl td) (k' + 1) = if aso n a w (updN κ j k') x cn pl td = true then sof (fun k => aso n a w (updN κ j k) x cn pl td) k' ||| 2 ^ k' else sof (fun k => aso n a w (updN κ j k) x cn pl td) k' := rfl
        rw [esof] at nx
        cases ha : aso n a w (updN κ j k') x cn pl td with
        | false =>
          rw [ha, if_neg (by decide)] at nx
          repeat (first | refine hZ _ _ _ _ ⟨rfl, ?_⟩ | refine hZ _ _ _ _ ⟨_, _, (by repeat (first | exact up_s | assumption | refine up_n (by omega) ?_)), adl (by omega), (by rfl), ?_⟩ | refine hZ _ _ _ _ ⟨_, _, (by repeat (first | exact up_s | assumption | refine up_n (by omega) ?_)), adl (by omega), (by first | assumption | exact vp_in_nI (by omega) (by omega)), ?_⟩ | refine hZ _ _ _ _ ⟨_, (by repeat (first | exact up_s | assumption | refine up_n (by omega) ?_)), adl (by omega), (by rfl), trivial, ?_⟩ | refine hZ _ _ _ _ ⟨trivial, ?_⟩ | refine hZ _ _ _ _ ⟨_, _, _, _, (by repeat (first | exact up_s | assumption | refine up_n (by omega) ?_)), (by first | exact Or.inr (Or.inr rfl) | exact Or.inr (Or.inl rfl) | exact Or.inl rfl), adl (by omega), (by first | assumption | exact vp_in_nI (by omega) (by omega)), rowsF_at (by omega), ?_⟩ | refine hZ _ _ _ _ ?_)
          refine ⟨fun c9 => ?_, fun c9 => absurd rfl c9⟩
          iterate 2 (first | refine hZ _ _ _ _ ⟨rfl, ?_⟩ | refine hZ _ _ _ _ ⟨_, _, (by repeat (first | exact up_s | assumption | refine up_n (by omega) ?_)), adl (by omega), (by rfl), ?_⟩ | refine hZ _ _ _ _ ⟨_, _, (by repeat (first | exact up_s | assumption | refine up_n (by omega) ?_)), adl (by omega), (by first | assumption | exact vp_in_nI (by omega) (by omega)), ?_⟩ | refine hZ _ _ _ _ ⟨_, (by repeat (first | exact up_s | assumption | refine up_n (by omega) ?_)), adl (by omega), (by rfl), trivial, ?_⟩ | refine hZ _ _ _ _ ⟨trivial, ?_⟩ | refine hZ _ _ _ _ ⟨_, _, _, _, (by repeat (first | exact up_s | assumption | refine up_n (by omega) ?_)), (by first | exact Or.inr (Or.inr rfl) | exact Or.inr (Or.inl rfl) | exact Or.inl rfl), adl (by omega), (by first | assumption | exact vp_in_nI (by omega) (by omega)), rowsF_at (by omega), ?_⟩ | refine hZ _ _ _ _ ?_)
          show Z _ 28 _ _
          rw [nI_inc]
          exact nx
        | true =>
          rw [ha, if_pos rfl] at nx
          repeat (first | refine hZ _ _ _ _ ⟨rfl, ?_⟩ | refine hZ _ _ _ _ ⟨_, _, (by repeat (first | exact up_s | assumption | refine up_n (by omega) ?_)), adl (by omega), (by rfl), ?_⟩ | refine hZ _ _ _ _ ⟨_, _, (by repeat (first | exact up_s | assumption | refine up_n (by omega) ?_)), adl (by omega), (by first | assumption | exact vp_in_nI (by omega) (by omega)), ?_⟩ | refine hZ _ _ _ _ ⟨_, (by repeat (first | exact up_s | assumption | refine up_n (by omega) ?_)), adl (by omega), (by rfl), trivial, ?_⟩ | refine hZ _ _ _ _ ⟨trivial, ?_⟩ | refine hZ _ _ _ _ ⟨_, _, _, _, (by repeat (first | exact up_s | assumption | refine up_n (by omega) ?_)), (by first | exact Or.inr (Or.inr rfl) | exact Or.inr (Or.inl rfl) | exact Or.inl rfl), adl (by omega), (by first | assumption | exact vp_in_nI (by omega) (by omega)), rowsF_at (by omega), ?_⟩ | refine hZ _ _ _ _ ?_)
          refine ⟨fun c9 => absurd c9 (by decide), fun c9 => ?_⟩
          iterate 8 (first | refine hZ _ _ _ _ ⟨rfl, ?_⟩ | refine hZ _ _ _ _ ⟨_, _, (by repeat (first | exact up_s | assumption | refine up_n (by omega) ?_)), adl (by omega), (by rfl), ?_⟩ | refine hZ _ _ _ _ ⟨_, _, (by repeat (first | exact up_s | assumption | refine up_n (by omega) ?_)), adl (by omega), (by first | assumption | exact vp_in_nI (by omega) (by omega)), ?_⟩ | refine hZ _ _ _ _ ⟨_, (by repeat (first | exact up_s | assumption | refine up_n (by omega) ?_)), adl (by omega), (by rfl), trivial, ?_⟩ | refine hZ _ _ _ _ ⟨trivial, ?_⟩ | refine hZ _ _ _ _ ⟨_, _, _, _, (by repeat (first | exact up_s | assumption | refine up_n (by omega) ?_)), (by first | exact Or.inr (Or.inr rfl) | exact Or.inr (Or.inl rfl) | exact Or.inl rfl), adl (by omega), (by first | assumption | exact vp_in_nI (by omega) (by omega)), rowsF_at (by omega), ?_⟩ | refine hZ _ _ _ _ ?_)
          show Z _ 28 _ _
          rw [nI_inc, lit_1, shl_bit (by omega), nI_or]
          exact nx
    exact loop 3 0 h κ (by omega) (fun _ _ => rfl) CC0 Fr.rf
theorem lb20 : (Int8.ofInt 20).toInt32 = nI 20 := by decide
theorem sm_set {n p v : Nat} {x : Nat → Nat} (hp : p < n) : sm (updN x p v) n ≤ sm x n + v := by
  have h1 := sm_upd (n := n) (p := p) (t := v) (u := x) (c := fun _ => 1) hp
  have h2 : sm (updN x p v) n ≤ sm (fun r => updN x p (x p + v) r * 1) n := sm_mono (fun i hi => by
    unfold updN
    split <;> omega)
  have h3 : sm (fun r => x r * 1) n = sm x n := sm_congr (fun i _ => Nat.mul_one _)
  omega
set_option maxHeartbeats 2000000 in
theorem C_heapings {l : Launch} {h : AH} {s : St} {p : Int32} {P : Option Value → AH → Prop} (C : CY h s) (O : Ok s) (hx : sm s.2.1.1 s.1.1 ≤ 66600) (hp : ∀ h', Fr 0 61 h h' → CY h' s → P (some (.int (S_heapings s p))) h') : Sem l QX6_heapings 82 h [.ref 0, .int p] P := by
  have CY0 := C
  obtain ⟨⟨n, a, w, κ⟩, ⟨x, tp, fa, to⟩, ⟨cn, pl, td⟩, ⟨z, m, c⟩, tr, fl⟩ := s
  obtain ⟨g, d, k, e, C⟩ := C
  have CC0 := C
  obtain ⟨c0, c1, c2, c3, c4, c5, c6, c7, c8⟩ := C
  obtain ⟨o1, o2, o3, o4, o5⟩ := O
  have G1 := c5
  unfold Wh at c0
  unfold Obj at c1
  obtain ⟨f, t, K, hf, ht⟩ := c7
  obtain ⟨-, -, ⟨fT, tT, faT, toT, KT⟩, -⟩ := c4
  have kT := KT.2.1
  obtain ⟨B, pit, kind, deg, brs, G, hdi, V⟩ := c5
  have g0 := G.2.1
  refine iX6_heapings rfl ?_
  intro Z hZ
  unfold S_heapings at hp
  dsimp only at hp hx
  iterate 3 (first | refine hZ _ _ _ _ ⟨rfl, ?_⟩ | refine hZ _ _ _ _ ⟨_, _, (by repeat (first | exact up_s | assumption | refine up_n (by omega) ?_)), adl (by omega), (by rfl), ?_⟩ | refine hZ _ _ _ _ ⟨_, _, (by repeat (first | exact up_s | assumption | refine up_n (by omega) ?_)), adl (by omega), (by first | assumption | exact vp_in_nI (by omega) (by omega)), ?_⟩ | refine hZ _ _ _ _ ⟨_, (by repeat (first | exact up_s | assumption | refine up_n (by omega) ?_)), adl (by omega), (by rfl), trivial, ?_⟩ | refine hZ _ _ _ _ ⟨trivial, ?_⟩ | refine hZ _ _ _ _ ⟨_, _, _, _, (by repeat (first | exact up_s | assumption | refine up_n (by omega) ?_)), (by first | exact Or.inr (Or.inr rfl) | exact Or.inr (Or.inl rfl) | exact Or.inl rfl), adl (by omega), (by first | assumption | exact vp_in_nI (by omega) (by omega)), rowsF_at (by omega), ?_⟩ | refine hZ _ _ _ _ ?_)
  show Z _ 5 _ _
  refine hZ _ _ _ _ ⟨⟨_, (by repeat (first | exact up_s | assumption | refine up_n (by omega) ?_))⟩, adl (by omega), rfl, ?_⟩
  refine c_isPl G1 o2 ?_
  show Z _ 8 _ _
  rcases inb_of (v := p) (n := n) (by omega) with ⟨h1, h2⟩ | ⟨h1, j, h2, h3⟩
  · rw [h1]
    rw [if_pos h1] at hp
    repeat (first | refine hZ _ _ _ _ ⟨rfl, ?_⟩ | refine hZ _ _ _ _ ⟨_, _, (by repeat (first | exact up_s | assumption | refine up_n (by omega) ?_)), adl (by omega), (by rfl), ?_⟩ | refine hZ _ _ _ _ ⟨_, _, (by repeat (first | exact up_s | assumption | refine up_n (by omega) ?_)), adl (by omega), (by first | assumption | exact vp_in_nI (by omega) (by omega)), ?_⟩ | refine hZ _ _ _ _ ⟨_, (by repeat (first | exact up_s | assumption | refine up_n (by omega) ?_)), adl (by omega), (by rfl), trivial, ?_⟩ | refine hZ _ _ _ _ ⟨trivial, ?_⟩ | refine hZ _ _ _ _ ⟨_, _, _, _, (by repeat (first | exact up_s | assumption | refine up_n (by omega) ?_)), (by first | exact Or.inr (Or.inr rfl) | exact Or.inr (Or.inl rfl) | exact Or.inl rfl), adl (by omega), (by first | assumption | exact vp_in_nI (by omega) (by omega)), rowsF_at (by omega), ?_⟩ | refine hZ _ _ _ _ ?_)
    refine ⟨fun c => absurd rfl c, fun c => ?_⟩
    repeat (first | refine hZ _ _ _ _ ⟨rfl, ?_⟩ | refine hZ _ _ _ _ ⟨_, _, (by repeat (first | exact up_s | assumption | refine up_n (by omega) ?_)), adl (by omega), (by rfl), ?_⟩ | refine hZ _ _ _ _ ⟨_, _, (by repeat (first | exact up_s | assumption | refine up_n (by omega) ?_)), adl (by omega), (by first | assumption | exact vp_in_nI (by omega) (by omega)), ?_⟩ | refine hZ _ _ _ _ ⟨_, (by repeat (first | exact up_s | assumption | refine up_n (by omega) ?_)), adl (by omega), (by rfl), trivial, ?_⟩ | refine hZ _ _ _ _ ⟨trivial, ?_⟩ | refine hZ _ _ _ _ ⟨_, _, _, _, (by repeat (first | exact up_s | assumption | refine up_n (by omega) ?_)), (by first | exact Or.inr (Or.inr rfl) | exact Or.inr (Or.inl rfl) | exact Or.inl rfl), adl (by omega), (by first | assumption | exact vp_in_nI (by omega) (by omega)), rowsF_at (by omega), ?_⟩ | refine hZ _ _ _ _ ?_)
    exact hp h Fr.rf CY0
  · rw [h1]
    rw [if_neg (by rw [h1]; decide)] at hp
    subst h3
    rw [nI_clamp (by omega)] at hp
    have Y : Yw n a w κ := by rcases o1 with z | z; · omega
                              · exact z.2
    repeat (first | refine hZ _ _ _ _ ⟨rfl, ?_⟩ | refine hZ _ _ _ _ ⟨_, _, (by repeat (first | exact up_s | assumption | refine up_n (by omega) ?_)), adl (by omega), (by rfl), ?_⟩ | refine hZ _ _ _ _ ⟨_, _, (by repeat (first | exact up_s | assumption | refine up_n (by omega) ?_)), adl (by omega), (by first | assumption | exact vp_in_nI (by omega) (by omega)), ?_⟩ | refine hZ _ _ _ _ ⟨_, (by repeat (first | exact up_s | assumption | refine up_n (by omega) ?_)), adl (by omega), (by rfl), trivial, ?_⟩ | refine hZ _ _ _ _ ⟨trivial, ?_⟩ | refine hZ _ _ _ _ ⟨_, _, _, _, (by repeat (first | exact up_s | assumption | refine up_n (by omega) ?_)), (by first | exact Or.inr (Or.inr rfl) | exact Or.inr (Or.inl rfl) | exact Or.inl rfl), adl (by omega), (by first | assumption | exact vp_in_nI (by omega) (by omega)), rowsF_at (by omega), ?_⟩ | refine hZ _ _ _ _ ?_)
    refine ⟨fun c9 => ?_, fun c9 => absurd c9 (by decide)⟩
    iterate 4 (first | refine hZ _ _ _ _ ⟨rfl, ?_⟩ | refine hZ _ _ _ _ ⟨_, _, (by repeat (first | exact up_s | assumption | refine up_n (by omega) ?_)), adl (by omega), (by rfl), ?_⟩ | refine hZ _ _ _ _ ⟨_, _, (by repeat (first | exact up_s | assumption | refine up_n (by omega) ?_)), adl (by omega), (by first | assumption | exact vp_in_nI (by omega) (by omega)), ?_⟩ | refine hZ _ _ _ _ ⟨_, (by repeat (first | exact up_s | assumption | refine up_n (by omega) ?_)), adl (by omega), (by rfl), trivial, ?_⟩ | refine hZ _ _ _ _ ⟨trivial, ?_⟩ | refine hZ _ _ _ _ ⟨_, _, _, _, (by repeat (first | exact up_s | assumption | refine up_n (by omega) ?_)), (by first | exact Or.inr (Or.inr rfl) | exact Or.inr (Or.inl rfl) | exact Or.inl rfl), adl (by omega), (by first | assumption | exact vp_in_nI (by omega) (by omega)), rowsF_at (by omega), ?_⟩ | refine hZ _ _ _ _ ?_)
    show Z _ 21 _ _
    refine hZ _ _ _ _ ⟨⟨_, (by repeat (first | exact up_s | assumption | refine up_n (by omega) ?_))⟩, adl (by omega), rfl, ?_⟩
    refine c_Heaps_startFrom KT K (by omega) (fun h1 f1 t1 K1 hf1 ht1 F1 => ?_)
    show Z _ 24 _ _
    have C1 := CC0.trl F1 ⟨_, _, _, _, K1⟩
    have loop : ∀ e' v h3 f3, v + e' = 20 → (∀ q, q < n → ¬ q = j → f3 q = nI (x q)) → Hp 82 h3 21 f3 t1 0 0 → CC h3 g d k e ((n, a, w, κ), (x, tp, fa, to), (cn, pl, td), (z, m, c), tr, fl) → Fr 0 61 h h3 → Z h3 28 [some (.ref 0), some (.int (nI j)), some (.int (nI (sof (fun v => aso n a w κ (updN x j v) cn pl td) v))), some (.int (nI v))] [] := by
      intro e'
      induction e' with
      | zero =>
        intro v h3 f3 hv3 hf3 K3 C3 F3
        repeat (first | refine hZ _ _ _ _ ⟨rfl, ?_⟩ | refine hZ _ _ _ _ ⟨_, _, (by repeat (first | exact up_s | assumption | refine up_n (by omega) ?_)), adl (by omega), (by rfl), ?_⟩ | refine hZ _ _ _ _ ⟨_, _, (by repeat (first | exact up_s | assumption | refine up_n (by omega) ?_)), adl (by omega), (by first | assumption | exact vp_in_nI (by omega) (by omega)), ?_⟩ | refine hZ _ _ _ _ ⟨_, (by repeat (first | exact up_s | assumption | refine up_n (by omega) ?_)), adl (by omega), (by rfl), trivial, ?_⟩ | refine hZ _ _ _ _ ⟨trivial, ?_⟩ | refine hZ _ _ _ _ ⟨_, _, _, _, (by repeat (first | exact up_s | assumption | refine up_n (by omega) ?_)), (by first | exact Or.inr (Or.inr rfl) | exact Or.inr (Or.inl rfl) | exact Or.inl rfl), adl (by omega), (by first | assumption | exact vp_in_nI (by omega) (by omega)), rowsF_at (by omega), ?_⟩ | refine hZ _ _ _ _ ?_)
        rw [lb20]
        refine ⟨fun c9 => ?_, fun c9 => absurd (nI_le (by omega) (by omega)) c9⟩
        repeat (first | refine hZ _ _ _ _ ⟨rfl, ?_⟩ | refine hZ _ _ _ _ ⟨_, _, (by repeat (first | exact up_s | assumption | refine up_n (by omega) ?_)), adl (by omega), (by rfl), ?_⟩ | refine hZ _ _ _ _ ⟨_, _, (by repeat (first | exact up_s | assumption | refine up_n (by omega) ?_)), adl (by omega), (by first | assumption | exact vp_in_nI (by omega) (by omega)), ?_⟩ | refine hZ _ _ _ _ ⟨_, (by repeat (first | exact up_s | assumption | refine up_n (by omega) ?_)), adl (by omega), (by rfl), trivial, ?_⟩ | refine hZ _ _ _ _ ⟨trivial, ?_⟩ | refine hZ _ _ _ _ ⟨_, _, _, _, (by repeat (first | exact up_s | assumption | refine up_n (by omega) ?_)), (by first | exact Or.inr (Or.inr rfl) | exact Or.inr (Or.inl rfl) | exact Or.inl rfl), adl (by omega), (by first | assumption | exact vp_in_nI (by omega) (by omega)), rowsF_at (by omega), ?_⟩ | refine hZ _ _ _ _ ?_)
        rw [show v = 20 by omega]
        exact hp h3 F3 ⟨_, _, _, _, C3⟩
      | succ e' ih =>
        intro v h3 f3 hv3 hf3 K3 C3 F3
        have c13 := C3.2.1
        unfold Obj at c13
        obtain ⟨k3N, k30, k31, k32⟩ := K3
        repeat (first | refine hZ _ _ _ _ ⟨rfl, ?_⟩ | refine hZ _ _ _ _ ⟨_, _, (by repeat (first | exact up_s | assumption | refine up_n (by omega) ?_)), adl (by omega), (by rfl), ?_⟩ | refine hZ _ _ _ _ ⟨_, _, (by repeat (first | exact up_s | assumption | refine up_n (by omega) ?_)), adl (by omega), (by first | assumption | exact vp_in_nI (by omega) (by omega)), ?_⟩ | refine hZ _ _ _ _ ⟨_, (by repeat (first | exact up_s | assumption | refine up_n (by omega) ?_)), adl (by omega), (by rfl), trivial, ?_⟩ | refine hZ _ _ _ _ ⟨trivial, ?_⟩ | refine hZ _ _ _ _ ⟨_, _, _, _, (by repeat (first | exact up_s | assumption | refine up_n (by omega) ?_)), (by first | exact Or.inr (Or.inr rfl) | exact Or.inr (Or.inl rfl) | exact Or.inl rfl), adl (by omega), (by first | assumption | exact vp_in_nI (by omega) (by omega)), rowsF_at (by omega), ?_⟩ | refine hZ _ _ _ _ ?_)
        rw [lb20]
        refine ⟨fun c9 => absurd c9 (nI_ge (by omega) (by omega)), fun c9 => ?_⟩
        iterate 6 (first | refine hZ _ _ _ _ ⟨rfl, ?_⟩ | refine hZ _ _ _ _ ⟨_, _, (by repeat (first | exact up_s | assumption | refine up_n (by omega) ?_)), adl (by omega), (by rfl), ?_⟩ | refine hZ _ _ _ _ ⟨_, _, (by repeat (first | exact up_s | assumption | refine up_n (by omega) ?_)), adl (by omega), (by first | assumption | exact vp_in_nI (by omega) (by omega)), ?_⟩ | refine hZ _ _ _ _ ⟨_, (by repeat (first | exact up_s | assumption | refine up_n (by omega) ?_)), adl (by omega), (by rfl), trivial, ?_⟩ | refine hZ _ _ _ _ ⟨trivial, ?_⟩ | refine hZ _ _ _ _ ⟨_, _, _, _, (by repeat (first | exact up_s | assumption | refine up_n (by omega) ?_)), (by first | exact Or.inr (Or.inr rfl) | exact Or.inr (Or.inl rfl) | exact Or.inl rfl), adl (by omega), (by first | assumption | exact vp_in_nI (by omega) (by omega)), rowsF_at (by omega), ?_⟩ | refine hZ _ _ _ _ ?_)
        show Z _ 44 _ _
        rw [nI_clamp (by omega)]
        generalize hh4 : va_up h3 _ _ = h4
        have F4 : Fr 21 24 h3 h4 := by rw [← hh4]; exact Fr.rf.up (by omega) (by omega)
        have K4 : Hp 82 h4 21 (upd f3 j (nI v)) t1 0 0 := by
          rw [← hh4]
          exact ⟨k3N, up_n (by omega) k30, up_s, up_n (by omega) k32⟩
        have C4 := C3.trl F4 ⟨_, _, _, _, K4⟩
        have CC4 := C4
        obtain ⟨-, c14, -, ⟨pc4, td4, R4, hv4, h54, h84⟩, -, ⟨B4, pit4, kind4, deg4, brs4, Gd4, -, V4⟩, -⟩ := C4
        unfold Obj at c14
        have r40 := R4.2.1
        iterate 6 (first | refine hZ _ _ _ _ ⟨rfl, ?_⟩ | refine hZ _ _ _ _ ⟨_, _, (by repeat (first | exact up_s | assumption | refine up_n (by omega) ?_)), adl (by omega), (by rfl), ?_⟩ | refine hZ _ _ _ _ ⟨_, _, (by repeat (first | exact up_s | assumption | refine up_n (by omega) ?_)), adl (by omega), (by first | assumption | exact vp_in_nI (by omega) (by omega)), ?_⟩ | refine hZ _ _ _ _ ⟨_, (by repeat (first | exact up_s | assumption | refine up_n (by omega) ?_)), adl (by omega), (by rfl), trivial, ?_⟩ | refine hZ _ _ _ _ ⟨trivial, ?_⟩ | refine hZ _ _ _ _ ⟨_, _, _, _, (by repeat (first | exact up_s | assumption | refine up_n (by omega) ?_)), (by first | exact Or.inr (Or.inr rfl) | exact Or.inr (Or.inl rfl) | exact Or.inl rfl), adl (by omega), (by first | assumption | exact vp_in_nI (by omega) (by omega)), rowsF_at (by omega), ?_⟩ | refine hZ _ _ _ _ ?_)
        show Z _ 56 _ _
        refine hZ _ _ _ _ ⟨⟨_, (by repeat (first | exact up_s | assumption | refine up_n (by omega) ?_))⟩, adl (by omega), rfl, ?_⟩
        refine c_Readings_areAllSo (pl := pl) (x := updN x j v) Gd4 V4 Y K4 R4 h54 h84 (by omega) (by omega) (fun q hq => ?_) (by have := sm_set (x := x) (v := v) h2; omega) o4 (fun i hi => ⟨(hv4 i hi).1, o3 i hi⟩) (fun h5 h55 h85 F5 => ?_)
        · unfold updN
          by_cases e9 : q = j
          · rw [upd_s e9, if_pos e9]
          · rw [pk_un e9, if_neg e9]; exact hf3 q hq e9
        show Z _ 59 _ _
        have C5 := CC4.rds (F5.wide (by omega) (by omega)) ⟨pc4, td4, R4.fr F5 (by omega), hv4, h55, h85⟩
        rw [aso_cb (fun i hi => (hv4 i hi).2)]
        have nx := ih (v + 1) h5 (upd f3 j (nI v)) (by omega) (fun q hq hne => by rw [pk_un hne]; exact hf3 q hq hne) (K4.fr F5 (by omega)) C5 ((F3.tr (F4.wide (by omega) (by omega))).tr (F5.wide (by omega) (by omega)))
        have esof : sof (fun v => aso n a w κ (updN x j v) cn pl td) (v + 1) = if aso n a w κ (updN x j v) cn pl td = true then sof (fun v => aso n a w κ (updN x j v) cn pl td) v ||| 2 ^ v else sof (fun v => aso n a w κ (updN x j v) cn pl td) v := rfl
        rw [esof] at nx
        cases ha : aso n a w κ (updN x j v) cn pl td with
        | false =>
          rw [ha, if_neg (by decide)] at nx
          repeat (first | refine hZ _ _ _ _ ⟨rfl, ?_⟩ | refine hZ _ _ _ _ ⟨_, _, (by repeat (first | exact up_s | assumption | refine up_n (by omega) ?_)), adl (by omega), (by rfl), ?_⟩ | refine hZ _ _ _ _ ⟨_, _, (by repeat (first | exact up_s | assumption | refine up_n (by omega) ?_)), adl (by omega), (by first | assumption | exact vp_in_nI (by omega) (by omega)), ?_⟩ | refine hZ _ _ _ _ ⟨_, (by repeat (first | exact up_s | assumption | refine up_n (by omega) ?_)), adl (by omega), (by rfl), trivial, ?_⟩ | refine hZ _ _ _ _ ⟨trivial, ?_⟩ | refine hZ _ _ _ _ ⟨_, _, _, _, (by repeat (first | exact up_s | assumption | refine up_n (by omega) ?_)), (by first | exact Or.inr (Or.inr rfl) | exact Or.inr (Or.inl rfl) | exact Or.inl rfl), adl (by omega), (by first | assumption | exact vp_in_nI (by omega) (by omega)), rowsF_at (by omega), ?_⟩ | refine hZ _ _ _ _ ?_)
          refine ⟨fun c9 => ?_, fun c9 => absurd rfl c9⟩
          iterate 2 (first | refine hZ _ _ _ _ ⟨rfl, ?_⟩ | refine hZ _ _ _ _ ⟨_, _, (by repeat (first | exact up_s | assumption | refine up_n (by omega) ?_)), adl (by omega), (by rfl), ?_⟩ | refine hZ _ _ _ _ ⟨_, _, (by repeat (first | exact up_s | assumption | refine up_n (by omega) ?_)), adl (by omega), (by first | assumption | exact vp_in_nI (by omega) (by omega)), ?_⟩ | refine hZ _ _ _ _ ⟨_, (by repeat (first | exact up_s | assumption | refine up_n (by omega) ?_)), adl (by omega), (by rfl), trivial, ?_⟩ | refine hZ _ _ _ _ ⟨trivial, ?_⟩ | refine hZ _ _ _ _ ⟨_, _, _, _, (by repeat (first | exact up_s | assumption | refine up_n (by omega) ?_)), (by first | exact Or.inr (Or.inr rfl) | exact Or.inr (Or.inl rfl) | exact Or.inl rfl), adl (by omega), (by first | assumption | exact vp_in_nI (by omega) (by omega)), rowsF_at (by omega), ?_⟩ | refine hZ _ _ _ _ ?_)
          show Z _ 28 _ _
          rw [nI_inc]
          exact nx
        | true =>
          rw [ha, if_pos rfl] at nx
          repeat (first | refine hZ _ _ _ _ ⟨rfl, ?_⟩ | refine hZ _ _ _ _ ⟨_, _, (by repeat (first | exact up_s | assumption | refine up_n (by omega) ?_)), adl (by omega), (by rfl), ?_⟩ | refine hZ _ _ _ _ ⟨_, _, (by repeat (first | exact up_s | assumption | refine up_n (by omega) ?_)), adl (by omega), (by first | assumption | exact vp_in_nI (by omega) (by omega)), ?_⟩ | refine hZ _ _ _ _ ⟨_, (by repeat (first | exact up_s | assumption | refine up_n (by omega) ?_)), adl (by omega), (by rfl), trivial, ?_⟩ | refine hZ _ _ _ _ ⟨trivial, ?_⟩ | refine hZ _ _ _ _ ⟨_, _, _, _, (by repeat (first | exact up_s | assumption | refine up_n (by omega) ?_)), (by first | exact Or.inr (Or.inr rfl) | exact Or.inr (Or.inl rfl) | exact Or.inl rfl), adl (by omega), (by first | assumption | exact vp_in_nI (by omega) (by omega)), rowsF_at (by omega), ?_⟩ | refine hZ _ _ _ _ ?_)
          refine ⟨fun c9 => absurd c9 (by decide), fun c9 => ?_⟩
          iterate 8 (first | refine hZ _ _ _ _ ⟨rfl, ?_⟩ | refine hZ _ _ _ _ ⟨_, _, (by repeat (first | exact up_s | assumption | refine up_n (by omega) ?_)), adl (by omega), (by rfl), ?_⟩ | refine hZ _ _ _ _ ⟨_, _, (by repeat (first | exact up_s | assumption | refine up_n (by omega) ?_)), adl (by omega), (by first | assumption | exact vp_in_nI (by omega) (by omega)), ?_⟩ | refine hZ _ _ _ _ ⟨_, (by repeat (first | exact up_s | assumption | refine up_n (by omega) ?_)), adl (by omega), (by rfl), trivial, ?_⟩ | refine hZ _ _ _ _ ⟨trivial, ?_⟩ | refine hZ _ _ _ _ ⟨_, _, _, _, (by repeat (first | exact up_s | assumption | refine up_n (by omega) ?_)), (by first | exact Or.inr (Or.inr rfl) | exact Or.inr (Or.inl rfl) | exact Or.inl rfl), adl (by omega), (by first | assumption | exact vp_in_nI (by omega) (by omega)), rowsF_at (by omega), ?_⟩ | refine hZ _ _ _ _ ?_)
          show Z _ 28 _ _
          rw [nI_inc, lit_1, shl_bit (by omega), nI_or]
          exact nx
    iterate 4 (first | refine hZ _ _ _ _ ⟨rfl, ?_⟩ | refine hZ _ _ _ _ ⟨_, _, (by repeat (first | exact up_s | assumption | refine up_n (by omega) ?_)), adl (by omega), (by rfl), ?_⟩ | refine hZ _ _ _ _ ⟨_, _, (by repeat (first | exact up_s | assumption | refine up_n (by omega) ?_)), adl (by omega), (by first | assumption | exact vp_in_nI (by omega) (by omega)), ?_⟩ | refine hZ _ _ _ _ ⟨_, (by repeat (first | exact up_s | assumption | refine up_n (by omega) ?_)), adl (by omega), (by rfl), trivial, ?_⟩ | refine hZ _ _ _ _ ⟨trivial, ?_⟩ | refine hZ _ _ _ _ ⟨_, _, _, _, (by repeat (first | exact up_s | assumption | refine up_n (by omega) ?_)), (by first | exact Or.inr (Or.inr rfl) | exact Or.inr (Or.inl rfl) | exact Or.inl rfl), adl (by omega), (by first | assumption | exact vp_in_nI (by omega) (by omega)), rowsF_at (by omega), ?_⟩ | refine hZ _ _ _ _ ?_)
    show Z _ 28 _ _
    exact loop 20 0 h1 f1 (by omega) (fun q hq _ => (hf1 q (by omega)).trans (hf q hq)) K1 C1 (F1.wide (by omega) (by omega))
