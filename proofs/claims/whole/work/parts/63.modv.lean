/-! ===== the reference: trees ===== -/
theorem ldA_at {n : Nat} {f : Nat → Nat} : ∀ {m : Nat}, ldA n f m = true → ∀ p, p < m → Nat.ble n (gs n f n p) = true
  | 0, _, p, hp => absurd hp (Nat.not_lt_zero p)
  | m + 1, h, p, hp => by
    have h : (ldA n f m && Nat.ble n (gs n f n m)) = true := h
    rw [Bool.and_eq_true] at h
    by_cases e : p = m
    · rw [e]; exact h.2
    · exact ldA_at h.1 p (by omega)
set_option maxHeartbeats 1000000 in
theorem m_allLead {l : Launch} {h : AH} {n : Nat} {f : Nat → Nat} {fl tr fa to at' rp dF' dT dS rd : Int32} {A : Nat → Nat → Int32} {L : Nat → Int64} {P : Option Value → AH → Prop} (M : MM h fl tr (nI n) fa to at' rp dF' dT dS rd A L) (hn : n ≤ 5) (hl : ∀ i, i < n → A 77 i = nI (f i)) (hf : ∀ i, i < n → f i ≤ n) (hp : P (some (.int (b2i (ld n f)))) h) : Sem l QX7_allLead 82 h [.ref 61] P := by
  have m0 := M.1
  have m77 := M.at (j := 77) (m := 5) (by omega) (by omega) (by omega) rfl
  refine iX7_allLead rfl ?_
  intro Z hZ
  have outer : ∀ e p o2 o3, p + e = n → ldA n f p = true → Z h 2 [some (.ref 61), some (.int (nI p)), o2, o3] [] := by
    intro e
    induction e with
    | zero =>
      intro p o2 o3 hpe ht
      rw [show p = n by omega] at ht
      rw [show ld n f = true from ht] at hp
      repeat (first | refine hZ _ _ _ _ ⟨rfl, ?_⟩ | refine hZ _ _ _ _ ⟨_, _, (by repeat (first | exact up_s | assumption | refine up_n (by omega) ?_)), adl (by omega), (by rfl), ?_⟩ | refine hZ _ _ _ _ ⟨_, _, (by repeat (first | exact up_s | assumption | refine up_n (by omega) ?_)), adl (by omega), (by first | assumption | exact vp_in_nI (by omega) (by omega)), ?_⟩ | refine hZ _ _ _ _ ⟨_, (by repeat (first | exact up_s | assumption | refine up_n (by omega) ?_)), adl (by omega), (by rfl), trivial, ?_⟩ | refine hZ _ _ _ _ ⟨trivial, ?_⟩ | refine hZ _ _ _ _ ⟨_, _, _, _, (by repeat (first | exact up_s | assumption | refine up_n (by omega) ?_)), (by first | exact Or.inr (Or.inr rfl) | exact Or.inr (Or.inl rfl) | exact Or.inl rfl), adl (by omega), (by first | assumption | exact vp_in_nI (by omega) (by omega)), (by first | exact rowsF_at (by omega) | exact shF_at (by omega)), ?_⟩ | refine hZ _ _ _ _ ?_)
      refine ⟨fun c => ?_, fun c => absurd (nI_le (by omega) (by omega)) c⟩
      repeat (first | refine hZ _ _ _ _ ⟨rfl, ?_⟩ | refine hZ _ _ _ _ ⟨_, _, (by repeat (first | exact up_s | assumption | refine up_n (by omega) ?_)), adl (by omega), (by rfl), ?_⟩ | refine hZ _ _ _ _ ⟨_, _, (by repeat (first | exact up_s | assumption | refine up_n (by omega) ?_)), adl (by omega), (by first | assumption | exact vp_in_nI (by omega) (by omega)), ?_⟩ | refine hZ _ _ _ _ ⟨_, (by repeat (first | exact up_s | assumption | refine up_n (by omega) ?_)), adl (by omega), (by rfl), trivial, ?_⟩ | refine hZ _ _ _ _ ⟨trivial, ?_⟩ | refine hZ _ _ _ _ ⟨_, _, _, _, (by repeat (first | exact up_s | assumption | refine up_n (by omega) ?_)), (by first | exact Or.inr (Or.inr rfl) | exact Or.inr (Or.inl rfl) | exact Or.inl rfl), adl (by omega), (by first | assumption | exact vp_in_nI (by omega) (by omega)), (by first | exact rowsF_at (by omega) | exact shF_at (by omega)), ?_⟩ | refine hZ _ _ _ _ ?_)
      exact hp
    | succ e ih =>
      intro p o2 o3 hpe ht
      have fin : ∀ g o3, g = gs n f n p → g ≤ n → Z h 43 [some (.ref 61), some (.int (nI p)), some (.int (nI g)), o3] [] := by
        intro g o3 hg hgn
        repeat (first | refine hZ _ _ _ _ ⟨rfl, ?_⟩ | refine hZ _ _ _ _ ⟨_, _, (by repeat (first | exact up_s | assumption | refine up_n (by omega) ?_)), adl (by omega), (by rfl), ?_⟩ | refine hZ _ _ _ _ ⟨_, _, (by repeat (first | exact up_s | assumption | refine up_n (by omega) ?_)), adl (by omega), (by first | assumption | exact vp_in_nI (by omega) (by omega)), ?_⟩ | refine hZ _ _ _ _ ⟨_, (by repeat (first | exact up_s | assumption | refine up_n (by omega) ?_)), adl (by omega), (by rfl), trivial, ?_⟩ | refine hZ _ _ _ _ ⟨trivial, ?_⟩ | refine hZ _ _ _ _ ⟨_, _, _, _, (by repeat (first | exact up_s | assumption | refine up_n (by omega) ?_)), (by first | exact Or.inr (Or.inr rfl) | exact Or.inr (Or.inl rfl) | exact Or.inl rfl), adl (by omega), (by first | assumption | exact vp_in_nI (by omega) (by omega)), (by first | exact rowsF_at (by omega) | exact shF_at (by omega)), ?_⟩ | refine hZ _ _ _ _ ?_)
        by_cases hc : n ≤ g
        · refine ⟨fun c => ?_, fun c => absurd (nI_le hc (by omega)) c⟩
          iterate 2 (first | refine hZ _ _ _ _ ⟨rfl, ?_⟩ | refine hZ _ _ _ _ ⟨_, _, (by repeat (first | exact up_s | assumption | refine up_n (by omega) ?_)), adl (by omega), (by rfl), ?_⟩ | refine hZ _ _ _ _ ⟨_, _, (by repeat (first | exact up_s | assumption | refine up_n (by omega) ?_)), adl (by omega), (by first | assumption | exact vp_in_nI (by omega) (by omega)), ?_⟩ | refine hZ _ _ _ _ ⟨_, (by repeat (first | exact up_s | assumption | refine up_n (by omega) ?_)), adl (by omega), (by rfl), trivial, ?_⟩ | refine hZ _ _ _ _ ⟨trivial, ?_⟩ | refine hZ _ _ _ _ ⟨_, _, _, _, (by repeat (first | exact up_s | assumption | refine up_n (by omega) ?_)), (by first | exact Or.inr (Or.inr rfl) | exact Or.inr (Or.inl rfl) | exact Or.inl rfl), adl (by omega), (by first | assumption | exact vp_in_nI (by omega) (by omega)), (by first | exact rowsF_at (by omega) | exact shF_at (by omega)), ?_⟩ | refine hZ _ _ _ _ ?_)
          show Z _ 2 _ _
          rw [nI_inc]
          refine ih (p + 1) _ _ (by omega) ?_
          show (ldA n f p && Nat.ble n (gs n f n p)) = true
          rw [ht, ← hg, Nat.ble_eq_true_of_le hc]
          rfl
        · have hlf : ld n f = false := by
            cases hld : ld n f with
            | false => rfl
            | true =>
              have := Nat.le_of_ble_eq_true (ldA_at hld p (by omega))
              omega
          rw [hlf] at hp
          refine ⟨fun c => absurd c (nI_ge (by omega) (by omega)), fun c => ?_⟩
          repeat (first | refine hZ _ _ _ _ ⟨rfl, ?_⟩ | refine hZ _ _ _ _ ⟨_, _, (by repeat (first | exact up_s | assumption | refine up_n (by omega) ?_)), adl (by omega), (by rfl), ?_⟩ | refine hZ _ _ _ _ ⟨_, _, (by repeat (first | exact up_s | assumption | refine up_n (by omega) ?_)), adl (by omega), (by first | assumption | exact vp_in_nI (by omega) (by omega)), ?_⟩ | refine hZ _ _ _ _ ⟨_, (by repeat (first | exact up_s | assumption | refine up_n (by omega) ?_)), adl (by omega), (by rfl), trivial, ?_⟩ | refine hZ _ _ _ _ ⟨trivial, ?_⟩ | refine hZ _ _ _ _ ⟨_, _, _, _, (by repeat (first | exact up_s | assumption | refine up_n (by omega) ?_)), (by first | exact Or.inr (Or.inr rfl) | exact Or.inr (Or.inl rfl) | exact Or.inl rfl), adl (by omega), (by first | assumption | exact vp_in_nI (by omega) (by omega)), (by first | exact rowsF_at (by omega) | exact shF_at (by omega)), ?_⟩ | refine hZ _ _ _ _ ?_)
          exact hp
      have inner : ∀ e k is, k + e = n → gs n f e is = gs n f n p → is ≤ n → Z h 14 [some (.ref 61), some (.int (nI p)), some (.int (nI is)), some (.int (nI k))] [] := by
        intro e
        induction e with
        | zero =>
          intro k is hk hg his
          repeat (first | refine hZ _ _ _ _ ⟨rfl, ?_⟩ | refine hZ _ _ _ _ ⟨_, _, (by repeat (first | exact up_s | assumption | refine up_n (by omega) ?_)), adl (by omega), (by rfl), ?_⟩ | refine hZ _ _ _ _ ⟨_, _, (by repeat (first | exact up_s | assumption | refine up_n (by omega) ?_)), adl (by omega), (by first | assumption | exact vp_in_nI (by omega) (by omega)), ?_⟩ | refine hZ _ _ _ _ ⟨_, (by repeat (first | exact up_s | assumption | refine up_n (by omega) ?_)), adl (by omega), (by rfl), trivial, ?_⟩ | refine hZ _ _ _ _ ⟨trivial, ?_⟩ | refine hZ _ _ _ _ ⟨_, _, _, _, (by repeat (first | exact up_s | assumption | refine up_n (by omega) ?_)), (by first | exact Or.inr (Or.inr rfl) | exact Or.inr (Or.inl rfl) | exact Or.inl rfl), adl (by omega), (by first | assumption | exact vp_in_nI (by omega) (by omega)), (by first | exact rowsF_at (by omega) | exact shF_at (by omega)), ?_⟩ | refine hZ _ _ _ _ ?_)
          refine ⟨fun c => ?_, fun c => absurd (nI_le (by omega) (by omega)) c⟩
          exact fin is _ hg his
        | succ e ihe =>
          intro k is hk hg his
          have hg : (if is < n then gs n f e (f is) else is) = gs n f n p := hg
          repeat (first | refine hZ _ _ _ _ ⟨rfl, ?_⟩ | refine hZ _ _ _ _ ⟨_, _, (by repeat (first | exact up_s | assumption | refine up_n (by omega) ?_)), adl (by omega), (by rfl), ?_⟩ | refine hZ _ _ _ _ ⟨_, _, (by repeat (first | exact up_s | assumption | refine up_n (by omega) ?_)), adl (by omega), (by first | assumption | exact vp_in_nI (by omega) (by omega)), ?_⟩ | refine hZ _ _ _ _ ⟨_, (by repeat (first | exact up_s | assumption | refine up_n (by omega) ?_)), adl (by omega), (by rfl), trivial, ?_⟩ | refine hZ _ _ _ _ ⟨trivial, ?_⟩ | refine hZ _ _ _ _ ⟨_, _, _, _, (by repeat (first | exact up_s | assumption | refine up_n (by omega) ?_)), (by first | exact Or.inr (Or.inr rfl) | exact Or.inr (Or.inl rfl) | exact Or.inl rfl), adl (by omega), (by first | assumption | exact vp_in_nI (by omega) (by omega)), (by first | exact rowsF_at (by omega) | exact shF_at (by omega)), ?_⟩ | refine hZ _ _ _ _ ?_)
          refine ⟨fun c => absurd c (nI_ge (by omega) (by omega)), fun c => ?_⟩
          repeat (first | refine hZ _ _ _ _ ⟨rfl, ?_⟩ | refine hZ _ _ _ _ ⟨_, _, (by repeat (first | exact up_s | assumption | refine up_n (by omega) ?_)), adl (by omega), (by rfl), ?_⟩ | refine hZ _ _ _ _ ⟨_, _, (by repeat (first | exact up_s | assumption | refine up_n (by omega) ?_)), adl (by omega), (by first | assumption | exact vp_in_nI (by omega) (by omega)), ?_⟩ | refine hZ _ _ _ _ ⟨_, (by repeat (first | exact up_s | assumption | refine up_n (by omega) ?_)), adl (by omega), (by rfl), trivial, ?_⟩ | refine hZ _ _ _ _ ⟨trivial, ?_⟩ | refine hZ _ _ _ _ ⟨_, _, _, _, (by repeat (first | exact up_s | assumption | refine up_n (by omega) ?_)), (by first | exact Or.inr (Or.inr rfl) | exact Or.inr (Or.inl rfl) | exact Or.inl rfl), adl (by omega), (by first | assumption | exact vp_in_nI (by omega) (by omega)), (by first | exact rowsF_at (by omega) | exact shF_at (by omega)), ?_⟩ | refine hZ _ _ _ _ ?_)
          by_cases hc : n ≤ is
          · rw [if_neg (by omega)] at hg
            refine ⟨fun c => ?_, fun c => absurd (nI_le hc (by omega)) c⟩
            exact fin is _ hg his
          · rw [if_pos (by omega)] at hg
            refine ⟨fun c => absurd c (nI_ge (by omega) (by omega)), fun c => ?_⟩
            iterate 7 (first | refine hZ _ _ _ _ ⟨rfl, ?_⟩ | refine hZ _ _ _ _ ⟨_, _, (by repeat (first | exact up_s | assumption | refine up_n (by omega) ?_)), adl (by omega), (by rfl), ?_⟩ | refine hZ _ _ _ _ ⟨_, _, (by repeat (first | exact up_s | assumption | refine up_n (by omega) ?_)), adl (by omega), (by first | assumption | exact vp_in_nI (by omega) (by omega)), ?_⟩ | refine hZ _ _ _ _ ⟨_, (by repeat (first | exact up_s | assumption | refine up_n (by omega) ?_)), adl (by omega), (by rfl), trivial, ?_⟩ | refine hZ _ _ _ _ ⟨trivial, ?_⟩ | refine hZ _ _ _ _ ⟨_, _, _, _, (by repeat (first | exact up_s | assumption | refine up_n (by omega) ?_)), (by first | exact Or.inr (Or.inr rfl) | exact Or.inr (Or.inl rfl) | exact Or.inl rfl), adl (by omega), (by first | assumption | exact vp_in_nI (by omega) (by omega)), (by first | exact rowsF_at (by omega) | exact shF_at (by omega)), ?_⟩ | refine hZ _ _ _ _ ?_)
            show Z _ 14 _ _
            rw [nI_inc, nI_clamp (by omega), hl is (by omega)]
            exact ihe (k + 1) (f is) (by omega) hg (hf is (by omega))
      repeat (first | refine hZ _ _ _ _ ⟨rfl, ?_⟩ | refine hZ _ _ _ _ ⟨_, _, (by repeat (first | exact up_s | assumption | refine up_n (by omega) ?_)), adl (by omega), (by rfl), ?_⟩ | refine hZ _ _ _ _ ⟨_, _, (by repeat (first | exact up_s | assumption | refine up_n (by omega) ?_)), adl (by omega), (by first | assumption | exact vp_in_nI (by omega) (by omega)), ?_⟩ | refine hZ _ _ _ _ ⟨_, (by repeat (first | exact up_s | assumption | refine up_n (by omega) ?_)), adl (by omega), (by rfl), trivial, ?_⟩ | refine hZ _ _ _ _ ⟨trivial, ?_⟩ | refine hZ _ _ _ _ ⟨_, _, _, _, (by repeat (first | exact up_s | assumption | refine up_n (by omega) ?_)), (by first | exact Or.inr (Or.inr rfl) | exact Or.inr (Or.inl rfl) | exact Or.inl rfl), adl (by omega), (by first | assumption | exact vp_in_nI (by omega) (by omega)), (by first | exact rowsF_at (by omega) | exact shF_at (by omega)), ?_⟩ | refine hZ _ _ _ _ ?_)
      refine ⟨fun c => absurd c (nI_ge (by omega) (by omega)), fun c => ?_⟩
      iterate 4 (first | refine hZ _ _ _ _ ⟨rfl, ?_⟩ | refine hZ _ _ _ _ ⟨_, _, (by repeat (first | exact up_s | assumption | refine up_n (by omega) ?_)), adl (by omega), (by rfl), ?_⟩ | refine hZ _ _ _ _ ⟨_, _, (by repeat (first | exact up_s | assumption | refine up_n (by omega) ?_)), adl (by omega), (by first | assumption | exact vp_in_nI (by omega) (by omega)), ?_⟩ | refine hZ _ _ _ _ ⟨_, (by repeat (first | exact up_s | assumption | refine up_n (by omega) ?_)), adl (by omega), (by rfl), trivial, ?_⟩ | refine hZ _ _ _ _ ⟨trivial, ?_⟩ | refine hZ _ _ _ _ ⟨_, _, _, _, (by repeat (first | exact up_s | assumption | refine up_n (by omega) ?_)), (by first | exact Or.inr (Or.inr rfl) | exact Or.inr (Or.inl rfl) | exact Or.inl rfl), adl (by omega), (by first | assumption | exact vp_in_nI (by omega) (by omega)), (by first | exact rowsF_at (by omega) | exact shF_at (by omega)), ?_⟩ | refine hZ _ _ _ _ ?_)
      show Z _ 14 _ _
      exact inner n 0 p (by omega) rfl (by omega)
  iterate 2 (first | refine hZ _ _ _ _ ⟨rfl, ?_⟩ | refine hZ _ _ _ _ ⟨_, _, (by repeat (first | exact up_s | assumption | refine up_n (by omega) ?_)), adl (by omega), (by rfl), ?_⟩ | refine hZ _ _ _ _ ⟨_, _, (by repeat (first | exact up_s | assumption | refine up_n (by omega) ?_)), adl (by omega), (by first | assumption | exact vp_in_nI (by omega) (by omega)), ?_⟩ | refine hZ _ _ _ _ ⟨_, (by repeat (first | exact up_s | assumption | refine up_n (by omega) ?_)), adl (by omega), (by rfl), trivial, ?_⟩ | refine hZ _ _ _ _ ⟨trivial, ?_⟩ | refine hZ _ _ _ _ ⟨_, _, _, _, (by repeat (first | exact up_s | assumption | refine up_n (by omega) ?_)), (by first | exact Or.inr (Or.inr rfl) | exact Or.inr (Or.inl rfl) | exact Or.inl rfl), adl (by omega), (by first | assumption | exact vp_in_nI (by omega) (by omega)), (by first | exact rowsF_at (by omega) | exact shF_at (by omega)), ?_⟩ | refine hZ _ _ _ _ ?_)
  show Z _ 2 _ _
  exact outer n 0 _ _ (by omega) rfl
theorem lcmp_pos {x : Int} (hx : x.natAbs < 2 ^ 63) (h0 : 0 < x) : ¬ lg_cmp (lI x) (lI 0) ≤ 0 := by
  unfold lg_cmp
  rw [if_pos (Int64.lt_iff_toInt_lt.mpr (by rw [lI_toInt hx, lI_toInt (by decide)]; exact h0))]
  decide
theorem pI_bd {g : Nat → Int} {n : Nat} (h : ∀ p, p < n → 0 ≤ g p ∧ g p ≤ 3) : ∀ k, k ≤ n → 0 ≤ pI g k ∧ pI g k ≤ ((3 ^ k : Nat) : Int)
  | 0, _ => ⟨show (0 : Int) ≤ 1 by decide, show (1 : Int) ≤ ((3 ^ 0 : Nat) : Int) by decide⟩
  | k + 1, hk => by
    obtain ⟨h1, h2⟩ := pI_bd h k (by omega)
    obtain ⟨g1, g2⟩ := h k (by omega)
    show 0 ≤ pI g k * g k ∧ pI g k * g k ≤ _
    refine ⟨Int.mul_nonneg h1 g1, ?_⟩
    rw [Nat.pow_succ, Int.natCast_mul]
    exact Int.mul_le_mul h2 g2 g1 (by omega)
theorem alp_bd {n p t : Nat} {a : Nat → Nat → Nat} {w κ : Nat → Nat} (Y : Yw n a w κ) (hp : p < n) (ht : t ≤ n) : 0 ≤ alp n a w p t ∧ alp n a w p t ≤ 3 := by
  unfold alp
  split
  · have := Y.2.2.2.2.1 p hp; omega
  · have := Y.2.2.2.1 p t hp (by omega); omega
set_option maxHeartbeats 4000000 in
theorem M_trees {l : Launch} {h : AH} {s : St} {P : Option Value → AH → Prop} (M : MY h s) (O : Ok s) (hp : ∀ h', Fr 61 82 h h' → MY h' s → P (some (.long (S_trees s))) h') : Sem l QX7_trees 82 h [.ref 61] P := by
  obtain ⟨⟨n, a, w, κ⟩, ⟨x, tp, fa, to⟩, ⟨cn, pl, td⟩, ⟨z, m, c⟩, tr, fl⟩ := s
  have M0 := M
  obtain ⟨at', rp, dF', dT, dS, A, L, M, G, hX, hT, hR, hS, h73⟩ := M
  obtain ⟨o1, o2, o3⟩ := O
  have m0 := M.1
  refine iX7_trees rfl ?_
  intro Z hZ
  unfold S_trees at hp
  dsimp only at hp
  repeat (first | refine hZ _ _ _ _ ⟨rfl, ?_⟩ | refine hZ _ _ _ _ ⟨_, _, (by repeat (first | exact up_s | assumption | refine up_n (by omega) ?_)), adl (by omega), (by rfl), ?_⟩ | refine hZ _ _ _ _ ⟨_, _, (by repeat (first | exact up_s | assumption | refine up_n (by omega) ?_)), adl (by omega), (by first | assumption | exact vp_in_nI (by omega) (by omega)), ?_⟩ | refine hZ _ _ _ _ ⟨_, (by repeat (first | exact up_s | assumption | refine up_n (by omega) ?_)), adl (by omega), (by rfl), trivial, ?_⟩ | refine hZ _ _ _ _ ⟨trivial, ?_⟩ | refine hZ _ _ _ _ ⟨_, _, _, _, (by repeat (first | exact up_s | assumption | refine up_n (by omega) ?_)), (by first | exact Or.inr (Or.inr rfl) | exact Or.inr (Or.inl rfl) | exact Or.inl rfl), adl (by omega), (by first | assumption | exact vp_in_nI (by omega) (by omega)), (by first | exact rowsF_at (by omega) | exact shF_at (by omega)), ?_⟩ | refine hZ _ _ _ _ ?_)
  refine ⟨fun c9 => ?_, fun c9 => ?_⟩
  · have n0 : ¬ n = 0 := fun z => c9 (by rw [z]; rfl)
    rw [if_neg n0] at hp
    have YY : 2 ≤ n ∧ Yw n a w κ := by rcases o1 with z | z; · omega
                                       · exact z
    obtain ⟨hn2, Y⟩ := YY
    have hpw : ∀ p, p ≤ n → (n + 1) ^ p ≤ 7776 := fun p hpn => Nat.le_trans (Nat.pow_le_pow_left (show n + 1 ≤ 6 by omega) p) (Nat.pow_le_pow_right (by decide) (show p ≤ 5 by omega))
    have htrs : trs n a w = sI (fun q => pI (fun p => alp n a w p (mix (n + 1) n (fun _ => 0) q p)) n * bI (ld n (mix (n + 1) n (fun _ => 0) q))) ((n + 1) ^ n) := NS_num (by omega) _ _ _
    have sums : ∀ e q h1 f1 o5 o6 o8, q + e = (n + 1) ^ n → MM h1 fl tr (nI n) fa to at' rp dF' dT dS (nI cn) (updA A 77 f1) L → Fr 61 82 h h1 → Z h1 43 [some (.ref 61), some (.int (nI ((n + 1) ^ n))), some (.long (lI (sI (fun q => pI (fun p => alp n a w p (mix (n + 1) n (fun _ => 0) q p)) n * bI (ld n (mix (n + 1) n (fun _ => 0) q))) q))), none, some (.int (nI q)), o5, o6, none, o8] [] := by
      intro e
      induction e with
      | zero =>
        intro q h1 f1 o5 o6 o8 hq M1 F1
        have m10 := M1.1
        have := hpw n (Nat.le_refl _)
        repeat (first | refine hZ _ _ _ _ ⟨rfl, ?_⟩ | refine hZ _ _ _ _ ⟨_, _, (by repeat (first | exact up_s | assumption | refine up_n (by omega) ?_)), adl (by omega), (by rfl), ?_⟩ | refine hZ _ _ _ _ ⟨_, _, (by repeat (first | exact up_s | assumption | refine up_n (by omega) ?_)), adl (by omega), (by first | assumption | exact vp_in_nI (by omega) (by omega)), ?_⟩ | refine hZ _ _ _ _ ⟨_, (by repeat (first | exact up_s | assumption | refine up_n (by omega) ?_)), adl (by omega), (by rfl), trivial, ?_⟩ | refine hZ _ _ _ _ ⟨trivial, ?_⟩ | refine hZ _ _ _ _ ⟨_, _, _, _, (by repeat (first | exact up_s | assumption | refine up_n (by omega) ?_)), (by first | exact Or.inr (Or.inr rfl) | exact Or.inr (Or.inl rfl) | exact Or.inl rfl), adl (by omega), (by first | assumption | exact vp_in_nI (by omega) (by omega)), (by first | exact rowsF_at (by omega) | exact shF_at (by omega)), ?_⟩ | refine hZ _ _ _ _ ?_)
        refine ⟨fun c => ?_, fun c => absurd (nI_le (by omega) (by omega)) c⟩
        rw [show q = (n + 1) ^ n by omega, ← htrs]
        repeat (first | refine hZ _ _ _ _ ⟨rfl, ?_⟩ | refine hZ _ _ _ _ ⟨_, _, (by repeat (first | exact up_s | assumption | refine up_n (by omega) ?_)), adl (by omega), (by rfl), ?_⟩ | refine hZ _ _ _ _ ⟨_, _, (by repeat (first | exact up_s | assumption | refine up_n (by omega) ?_)), adl (by omega), (by first | assumption | exact vp_in_nI (by omega) (by omega)), ?_⟩ | refine hZ _ _ _ _ ⟨_, (by repeat (first | exact up_s | assumption | refine up_n (by omega) ?_)), adl (by omega), (by rfl), trivial, ?_⟩ | refine hZ _ _ _ _ ⟨trivial, ?_⟩ | refine hZ _ _ _ _ ⟨_, _, _, _, (by repeat (first | exact up_s | assumption | refine up_n (by omega) ?_)), (by first | exact Or.inr (Or.inr rfl) | exact Or.inr (Or.inl rfl) | exact Or.inl rfl), adl (by omega), (by first | assumption | exact vp_in_nI (by omega) (by omega)), (by first | exact rowsF_at (by omega) | exact shF_at (by omega)), ?_⟩ | refine hZ _ _ _ _ ?_)
        exact hp h1 F1 ⟨_, _, _, _, _, _, _, M1, G, hX, hT, hR, hS, h73⟩
      | succ e ih =>
        intro q h1 f1 o5 o6 o8 hq M1 F1
        have m10 := M1.1
        have hpn := hpw n (Nat.le_refl _)
        have mul : ∀ e2 p h2 f2 o8, p + e2 = n → MM h2 fl tr (nI n) fa to at' rp dF' dT dS (nI cn) (updA A 77 f2) L → Fr 61 82 h h2 → (∀ i, i < p → f2 i = nI (q / (n + 1) ^ i % (n + 1))) → (o8 = some (.int (nI p))) → Z h2 59 [some (.ref 61), some (.int (nI ((n + 1) ^ n))), some (.long (lI (sI (fun q => pI (fun p => alp n a w p (mix (n + 1) n (fun _ => 0) q p)) n * bI (ld n (mix (n + 1) n (fun _ => 0) q))) q))), none, some (.int (nI q)), some (.int (nI (q / (n + 1) ^ p))), some (.long (lI (pI (fun p => alp n a w p (mix (n + 1) n (fun _ => 0) q p)) p))), none, o8] [] := by
          intro e2
          induction e2 with
          | zero =>
            intro p h2 f2 o8 hp2 M2 F2 hf2 ho8
            subst ho8
            have m20 := M2.1
            have epn : p = n := by omega
            subst epn
            have hbd := pI_bd (g := fun i => alp p a w i (mix (p + 1) p (fun _ => 0) q i)) (n := p) (fun i hi => alp_bd Y hi (by
              show (if i < p then q / (p + 1) ^ i % (p + 1) else 0) ≤ p
              rw [if_pos hi]
              have := Nat.mod_lt (q / (p + 1) ^ i) (show p + 1 > 0 by omega)
              omega)) p (Nat.le_refl _)
            have h35 : 3 ^ p ≤ 243 := Nat.pow_le_pow_right (by decide) (show p ≤ 5 by omega)
            have nx := fun o5 o6 o8 => ih (q + 1) h2 f2 o5 o6 o8 (by omega) M2 F2
            rw [show sI (fun q => pI (fun i => alp p a w i (mix (p + 1) p (fun _ => 0) q i)) p * bI (ld p (mix (p + 1) p (fun _ => 0) q))) (q + 1) = sI (fun q => pI (fun i => alp p a w i (mix (p + 1) p (fun _ => 0) q i)) p * bI (ld p (mix (p + 1) p (fun _ => 0) q))) q + pI (fun i => alp p a w i (mix (p + 1) p (fun _ => 0) q i)) p * bI (ld p (mix (p + 1) p (fun _ => 0) q)) from rfl] at nx
            generalize sI (fun q => pI (fun i => alp p a w i (mix (p + 1) p (fun _ => 0) q i)) p * bI (ld p (mix (p + 1) p (fun _ => 0) q))) q = S at nx ⊢
            generalize hpi : pI (fun i => alp p a w i (mix (p + 1) p (fun _ => 0) q i)) p = T at nx hbd ⊢
            repeat (first | refine hZ _ _ _ _ ⟨rfl, ?_⟩ | refine hZ _ _ _ _ ⟨_, _, (by repeat (first | exact up_s | assumption | refine up_n (by omega) ?_)), adl (by omega), (by rfl), ?_⟩ | refine hZ _ _ _ _ ⟨_, _, (by repeat (first | exact up_s | assumption | refine up_n (by omega) ?_)), adl (by omega), (by first | assumption | exact vp_in_nI (by omega) (by omega)), ?_⟩ | refine hZ _ _ _ _ ⟨_, (by repeat (first | exact up_s | assumption | refine up_n (by omega) ?_)), adl (by omega), (by rfl), trivial, ?_⟩ | refine hZ _ _ _ _ ⟨trivial, ?_⟩ | refine hZ _ _ _ _ ⟨_, _, _, _, (by repeat (first | exact up_s | assumption | refine up_n (by omega) ?_)), (by first | exact Or.inr (Or.inr rfl) | exact Or.inr (Or.inl rfl) | exact Or.inl rfl), adl (by omega), (by first | assumption | exact vp_in_nI (by omega) (by omega)), (by first | exact rowsF_at (by omega) | exact shF_at (by omega)), ?_⟩ | refine hZ _ _ _ _ ?_)
            refine ⟨fun c => ?_, fun c => absurd (nI_le (by omega) (by omega)) c⟩
            repeat (first | refine hZ _ _ _ _ ⟨rfl, ?_⟩ | refine hZ _ _ _ _ ⟨_, _, (by repeat (first | exact up_s | assumption | refine up_n (by omega) ?_)), adl (by omega), (by rfl), ?_⟩ | refine hZ _ _ _ _ ⟨_, _, (by repeat (first | exact up_s | assumption | refine up_n (by omega) ?_)), adl (by omega), (by first | assumption | exact vp_in_nI (by omega) (by omega)), ?_⟩ | refine hZ _ _ _ _ ⟨_, (by repeat (first | exact up_s | assumption | refine up_n (by omega) ?_)), adl (by omega), (by rfl), trivial, ?_⟩ | refine hZ _ _ _ _ ⟨trivial, ?_⟩ | refine hZ _ _ _ _ ⟨_, _, _, _, (by repeat (first | exact up_s | assumption | refine up_n (by omega) ?_)), (by first | exact Or.inr (Or.inr rfl) | exact Or.inr (Or.inl rfl) | exact Or.inl rfl), adl (by omega), (by first | assumption | exact vp_in_nI (by omega) (by omega)), (by first | exact rowsF_at (by omega) | exact shF_at (by omega)), ?_⟩ | refine hZ _ _ _ _ ?_)
            rw [lI_0]
            by_cases hT0 : T = 0
            · rw [hT0, lcmp_eq]
              rw [hT0, Int.zero_mul, Int.add_zero] at nx
              refine ⟨fun c => ?_, fun c => absurd (by decide) c⟩
              iterate 2 (first | refine hZ _ _ _ _ ⟨rfl, ?_⟩ | refine hZ _ _ _ _ ⟨_, _, (by repeat (first | exact up_s | assumption | refine up_n (by omega) ?_)), adl (by omega), (by rfl), ?_⟩ | refine hZ _ _ _ _ ⟨_, _, (by repeat (first | exact up_s | assumption | refine up_n (by omega) ?_)), adl (by omega), (by first | assumption | exact vp_in_nI (by omega) (by omega)), ?_⟩ | refine hZ _ _ _ _ ⟨_, (by repeat (first | exact up_s | assumption | refine up_n (by omega) ?_)), adl (by omega), (by rfl), trivial, ?_⟩ | refine hZ _ _ _ _ ⟨trivial, ?_⟩ | refine hZ _ _ _ _ ⟨_, _, _, _, (by repeat (first | exact up_s | assumption | refine up_n (by omega) ?_)), (by first | exact Or.inr (Or.inr rfl) | exact Or.inr (Or.inl rfl) | exact Or.inl rfl), adl (by omega), (by first | assumption | exact vp_in_nI (by omega) (by omega)), (by first | exact rowsF_at (by omega) | exact shF_at (by omega)), ?_⟩ | refine hZ _ _ _ _ ?_)
              show Z _ 171 _ _
              rw [lI_0, lI_add, Int.add_zero]
              iterate 3 (first | refine hZ _ _ _ _ ⟨rfl, ?_⟩ | refine hZ _ _ _ _ ⟨_, _, (by repeat (first | exact up_s | assumption | refine up_n (by omega) ?_)), adl (by omega), (by rfl), ?_⟩ | refine hZ _ _ _ _ ⟨_, _, (by repeat (first | exact up_s | assumption | refine up_n (by omega) ?_)), adl (by omega), (by first | assumption | exact vp_in_nI (by omega) (by omega)), ?_⟩ | refine hZ _ _ _ _ ⟨_, (by repeat (first | exact up_s | assumption | refine up_n (by omega) ?_)), adl (by omega), (by rfl), trivial, ?_⟩ | refine hZ _ _ _ _ ⟨trivial, ?_⟩ | refine hZ _ _ _ _ ⟨_, _, _, _, (by repeat (first | exact up_s | assumption | refine up_n (by omega) ?_)), (by first | exact Or.inr (Or.inr rfl) | exact Or.inr (Or.inl rfl) | exact Or.inl rfl), adl (by omega), (by first | assumption | exact vp_in_nI (by omega) (by omega)), (by first | exact rowsF_at (by omega) | exact shF_at (by omega)), ?_⟩ | refine hZ _ _ _ _ ?_)
              show Z _ 43 _ _
              rw [nI_inc]
              exact nx _ _ _
            · refine ⟨fun c => absurd c (lcmp_pos (by omega) (by omega)), fun c => ?_⟩
              iterate 1 (first | refine hZ _ _ _ _ ⟨rfl, ?_⟩ | refine hZ _ _ _ _ ⟨_, _, (by repeat (first | exact up_s | assumption | refine up_n (by omega) ?_)), adl (by omega), (by rfl), ?_⟩ | refine hZ _ _ _ _ ⟨_, _, (by repeat (first | exact up_s | assumption | refine up_n (by omega) ?_)), adl (by omega), (by first | assumption | exact vp_in_nI (by omega) (by omega)), ?_⟩ | refine hZ _ _ _ _ ⟨_, (by repeat (first | exact up_s | assumption | refine up_n (by omega) ?_)), adl (by omega), (by rfl), trivial, ?_⟩ | refine hZ _ _ _ _ ⟨trivial, ?_⟩ | refine hZ _ _ _ _ ⟨_, _, _, _, (by repeat (first | exact up_s | assumption | refine up_n (by omega) ?_)), (by first | exact Or.inr (Or.inr rfl) | exact Or.inr (Or.inl rfl) | exact Or.inl rfl), adl (by omega), (by first | assumption | exact vp_in_nI (by omega) (by omega)), (by first | exact rowsF_at (by omega) | exact shF_at (by omega)), ?_⟩ | refine hZ _ _ _ _ ?_)
              show Z _ 158 _ _
              refine hZ _ _ _ _ ⟨⟨_, (by repeat (first | exact up_s | assumption | refine up_n (by omega) ?_))⟩, adl (by omega), rfl, ?_⟩
              refine m_allLead (f := mix (p + 1) p (fun _ => 0) q) M2 o2 (fun i hi => ?_) (fun i hi => ?_) ?_
              · rw [updA_s, hf2 i hi]
                show _ = nI (if i < p then q / (p + 1) ^ i % (p + 1) else 0)
                rw [if_pos hi]
              · show (if i < p then q / (p + 1) ^ i % (p + 1) else 0) ≤ p
                rw [if_pos hi]
                have := Nat.mod_lt (q / (p + 1) ^ i) (show p + 1 > 0 by omega)
                omega
              show Z _ 161 _ _
              cases hld : ld p (mix (p + 1) p (fun _ => 0) q) with
              | false =>
                rw [hld, show bI false = 0 from rfl, Int.mul_zero, Int.add_zero] at nx
                repeat (first | refine hZ _ _ _ _ ⟨rfl, ?_⟩ | refine hZ _ _ _ _ ⟨_, _, (by repeat (first | exact up_s | assumption | refine up_n (by omega) ?_)), adl (by omega), (by rfl), ?_⟩ | refine hZ _ _ _ _ ⟨_, _, (by repeat (first | exact up_s | assumption | refine up_n (by omega) ?_)), adl (by omega), (by first | assumption | exact vp_in_nI (by omega) (by omega)), ?_⟩ | refine hZ _ _ _ _ ⟨_, (by repeat (first | exact up_s | assumption | refine up_n (by omega) ?_)), adl (by omega), (by rfl), trivial, ?_⟩ | refine hZ _ _ _ _ ⟨trivial, ?_⟩ | refine hZ _ _ _ _ ⟨_, _, _, _, (by repeat (first | exact up_s | assumption | refine up_n (by omega) ?_)), (by first | exact Or.inr (Or.inr rfl) | exact Or.inr (Or.inl rfl) | exact Or.inl rfl), adl (by omega), (by first | assumption | exact vp_in_nI (by omega) (by omega)), (by first | exact rowsF_at (by omega) | exact shF_at (by omega)), ?_⟩ | refine hZ _ _ _ _ ?_)
                refine ⟨fun c => ?_, fun c => absurd rfl c⟩
                iterate 2 (first | refine hZ _ _ _ _ ⟨rfl, ?_⟩ | refine hZ _ _ _ _ ⟨_, _, (by repeat (first | exact up_s | assumption | refine up_n (by omega) ?_)), adl (by omega), (by rfl), ?_⟩ | refine hZ _ _ _ _ ⟨_, _, (by repeat (first | exact up_s | assumption | refine up_n (by omega) ?_)), adl (by omega), (by first | assumption | exact vp_in_nI (by omega) (by omega)), ?_⟩ | refine hZ _ _ _ _ ⟨_, (by repeat (first | exact up_s | assumption | refine up_n (by omega) ?_)), adl (by omega), (by rfl), trivial, ?_⟩ | refine hZ _ _ _ _ ⟨trivial, ?_⟩ | refine hZ _ _ _ _ ⟨_, _, _, _, (by repeat (first | exact up_s | assumption | refine up_n (by omega) ?_)), (by first | exact Or.inr (Or.inr rfl) | exact Or.inr (Or.inl rfl) | exact Or.inl rfl), adl (by omega), (by first | assumption | exact vp_in_nI (by omega) (by omega)), (by first | exact rowsF_at (by omega) | exact shF_at (by omega)), ?_⟩ | refine hZ _ _ _ _ ?_)
                show Z _ 171 _ _
                rw [lI_0, lI_add, Int.add_zero]
                iterate 3 (first | refine hZ _ _ _ _ ⟨rfl, ?_⟩ | refine hZ _ _ _ _ ⟨_, _, (by repeat (first | exact up_s | assumption | refine up_n (by omega) ?_)), adl (by omega), (by rfl), ?_⟩ | refine hZ _ _ _ _ ⟨_, _, (by repeat (first | exact up_s | assumption | refine up_n (by omega) ?_)), adl (by omega), (by first | assumption | exact vp_in_nI (by omega) (by omega)), ?_⟩ | refine hZ _ _ _ _ ⟨_, (by repeat (first | exact up_s | assumption | refine up_n (by omega) ?_)), adl (by omega), (by rfl), trivial, ?_⟩ | refine hZ _ _ _ _ ⟨trivial, ?_⟩ | refine hZ _ _ _ _ ⟨_, _, _, _, (by repeat (first | exact up_s | assumption | refine up_n (by omega) ?_)), (by first | exact Or.inr (Or.inr rfl) | exact Or.inr (Or.inl rfl) | exact Or.inl rfl), adl (by omega), (by first | assumption | exact vp_in_nI (by omega) (by omega)), (by first | exact rowsF_at (by omega) | exact shF_at (by omega)), ?_⟩ | refine hZ _ _ _ _ ?_)
                show Z _ 43 _ _
                rw [nI_inc]
                exact nx _ _ _
              | true =>
                rw [hld, show bI true = 1 from rfl, Int.mul_one] at nx
                repeat (first | refine hZ _ _ _ _ ⟨rfl, ?_⟩ | refine hZ _ _ _ _ ⟨_, _, (by repeat (first | exact up_s | assumption | refine up_n (by omega) ?_)), adl (by omega), (by rfl), ?_⟩ | refine hZ _ _ _ _ ⟨_, _, (by repeat (first | exact up_s | assumption | refine up_n (by omega) ?_)), adl (by omega), (by first | assumption | exact vp_in_nI (by omega) (by omega)), ?_⟩ | refine hZ _ _ _ _ ⟨_, (by repeat (first | exact up_s | assumption | refine up_n (by omega) ?_)), adl (by omega), (by rfl), trivial, ?_⟩ | refine hZ _ _ _ _ ⟨trivial, ?_⟩ | refine hZ _ _ _ _ ⟨_, _, _, _, (by repeat (first | exact up_s | assumption | refine up_n (by omega) ?_)), (by first | exact Or.inr (Or.inr rfl) | exact Or.inr (Or.inl rfl) | exact Or.inl rfl), adl (by omega), (by first | assumption | exact vp_in_nI (by omega) (by omega)), (by first | exact rowsF_at (by omega) | exact shF_at (by omega)), ?_⟩ | refine hZ _ _ _ _ ?_)
                refine ⟨fun c => absurd c (by decide), fun c => ?_⟩
                iterate 3 (first | refine hZ _ _ _ _ ⟨rfl, ?_⟩ | refine hZ _ _ _ _ ⟨_, _, (by repeat (first | exact up_s | assumption | refine up_n (by omega) ?_)), adl (by omega), (by rfl), ?_⟩ | refine hZ _ _ _ _ ⟨_, _, (by repeat (first | exact up_s | assumption | refine up_n (by omega) ?_)), adl (by omega), (by first | assumption | exact vp_in_nI (by omega) (by omega)), ?_⟩ | refine hZ _ _ _ _ ⟨_, (by repeat (first | exact up_s | assumption | refine up_n (by omega) ?_)), adl (by omega), (by rfl), trivial, ?_⟩ | refine hZ _ _ _ _ ⟨trivial, ?_⟩ | refine hZ _ _ _ _ ⟨_, _, _, _, (by repeat (first | exact up_s | assumption | refine up_n (by omega) ?_)), (by first | exact Or.inr (Or.inr rfl) | exact Or.inr (Or.inl rfl) | exact Or.inl rfl), adl (by omega), (by first | assumption | exact vp_in_nI (by omega) (by omega)), (by first | exact rowsF_at (by omega) | exact shF_at (by omega)), ?_⟩ | refine hZ _ _ _ _ ?_)
                show Z _ 171 _ _
                rw [lI_add]
                iterate 3 (first | refine hZ _ _ _ _ ⟨rfl, ?_⟩ | refine hZ _ _ _ _ ⟨_, _, (by repeat (first | exact up_s | assumption | refine up_n (by omega) ?_)), adl (by omega), (by rfl), ?_⟩ | refine hZ _ _ _ _ ⟨_, _, (by repeat (first | exact up_s | assumption | refine up_n (by omega) ?_)), adl (by omega), (by first | assumption | exact vp_in_nI (by omega) (by omega)), ?_⟩ | refine hZ _ _ _ _ ⟨_, (by repeat (first | exact up_s | assumption | refine up_n (by omega) ?_)), adl (by omega), (by rfl), trivial, ?_⟩ | refine hZ _ _ _ _ ⟨trivial, ?_⟩ | refine hZ _ _ _ _ ⟨_, _, _, _, (by repeat (first | exact up_s | assumption | refine up_n (by omega) ?_)), (by first | exact Or.inr (Or.inr rfl) | exact Or.inr (Or.inl rfl) | exact Or.inl rfl), adl (by omega), (by first | assumption | exact vp_in_nI (by omega) (by omega)), (by first | exact rowsF_at (by omega) | exact shF_at (by omega)), ?_⟩ | refine hZ _ _ _ _ ?_)
                show Z _ 43 _ _
                rw [nI_inc]
                exact nx _ _ _
          | succ e2 ih2 =>
            intro p h2 f2 o8 hp2 M2 F2 hf2 ho8
            subst ho8
            have m20 := M2.1
            have m277 := M2.at (j := 77) (m := 5) (by omega) (by omega) (by omega) rfl
            rw [updA_s] at m277
            have hr : q / (n + 1) ^ p < 2 ^ 31 := Nat.lt_of_le_of_lt (Nat.div_le_self _ _) (by omega)
            have hrm := Nat.mod_lt (q / (n + 1) ^ p) (show n + 1 > 0 by omega)
            repeat (first | refine hZ _ _ _ _ ⟨rfl, ?_⟩ | refine hZ _ _ _ _ ⟨_, _, (by repeat (first | exact up_s | assumption | refine up_n (by omega) ?_)), adl (by omega), (by rfl), ?_⟩ | refine hZ _ _ _ _ ⟨_, _, (by repeat (first | exact up_s | assumption | refine up_n (by omega) ?_)), adl (by omega), (by first | assumption | exact vp_in_nI (by omega) (by omega)), ?_⟩ | refine hZ _ _ _ _ ⟨_, (by repeat (first | exact up_s | assumption | refine up_n (by omega) ?_)), adl (by omega), (by rfl), trivial, ?_⟩ | refine hZ _ _ _ _ ⟨trivial, ?_⟩ | refine hZ _ _ _ _ ⟨_, _, _, _, (by repeat (first | exact up_s | assumption | refine up_n (by omega) ?_)), (by first | exact Or.inr (Or.inr rfl) | exact Or.inr (Or.inl rfl) | exact Or.inl rfl), adl (by omega), (by first | assumption | exact vp_in_nI (by omega) (by omega)), (by first | exact rowsF_at (by omega) | exact shF_at (by omega)), ?_⟩ | refine hZ _ _ _ _ ?_)
            refine ⟨fun c => absurd c (nI_ge (by omega) (by omega)), fun c => ?_⟩
            iterate 8 (first | refine hZ _ _ _ _ ⟨rfl, ?_⟩ | refine hZ _ _ _ _ ⟨_, _, (by repeat (first | exact up_s | assumption | refine up_n (by omega) ?_)), adl (by omega), (by rfl), ?_⟩ | refine hZ _ _ _ _ ⟨_, _, (by repeat (first | exact up_s | assumption | refine up_n (by omega) ?_)), adl (by omega), (by first | assumption | exact vp_in_nI (by omega) (by omega)), ?_⟩ | refine hZ _ _ _ _ ⟨_, (by repeat (first | exact up_s | assumption | refine up_n (by omega) ?_)), adl (by omega), (by rfl), trivial, ?_⟩ | refine hZ _ _ _ _ ⟨trivial, ?_⟩ | refine hZ _ _ _ _ ⟨_, _, _, _, (by repeat (first | exact up_s | assumption | refine up_n (by omega) ?_)), (by first | exact Or.inr (Or.inr rfl) | exact Or.inr (Or.inl rfl) | exact Or.inl rfl), adl (by omega), (by first | assumption | exact vp_in_nI (by omega) (by omega)), (by first | exact rowsF_at (by omega) | exact shF_at (by omega)), ?_⟩ | refine hZ _ _ _ _ ?_)
            show Z _ 82 _ _
            rw [lit_1, nI_add]
            refine hZ _ _ _ _ ⟨nI_ne0 (by omega) (by omega), ?_⟩
            rw [nI_rem hr (by omega) (by omega)]
            show Z _ 83 _ _
            iterate 1 (first | refine hZ _ _ _ _ ⟨rfl, ?_⟩ | refine hZ _ _ _ _ ⟨_, _, (by repeat (first | exact up_s | assumption | refine up_n (by omega) ?_)), adl (by omega), (by rfl), ?_⟩ | refine hZ _ _ _ _ ⟨_, _, (by repeat (first | exact up_s | assumption | refine up_n (by omega) ?_)), adl (by omega), (by first | assumption | exact vp_in_nI (by omega) (by omega)), ?_⟩ | refine hZ _ _ _ _ ⟨_, (by repeat (first | exact up_s | assumption | refine up_n (by omega) ?_)), adl (by omega), (by rfl), trivial, ?_⟩ | refine hZ _ _ _ _ ⟨trivial, ?_⟩ | refine hZ _ _ _ _ ⟨_, _, _, _, (by repeat (first | exact up_s | assumption | refine up_n (by omega) ?_)), (by first | exact Or.inr (Or.inr rfl) | exact Or.inr (Or.inl rfl) | exact Or.inl rfl), adl (by omega), (by first | assumption | exact vp_in_nI (by omega) (by omega)), (by first | exact rowsF_at (by omega) | exact shF_at (by omega)), ?_⟩ | refine hZ _ _ _ _ ?_)
            show Z _ 84 _ _
            rw [nI_clamp (by omega)]
            generalize hh3 : va_up h2 77 _ = h3
            have F3 : Fr 61 82 h h3 := by rw [← hh3]; exact F2.up (by omega) (by omega)
            have M3 := M2.arr (k := 77) (m := 5) (f := upd f2 p (nI (q / (n + 1) ^ p % (n + 1)))) (by omega) (by omega) (by omega) rfl
            rw [hh3, show updA (updA A 77 f2) 77 (upd f2 p (nI (q / (n + 1) ^ p % (n + 1)))) = updA A 77 (upd f2 p (nI (q / (n + 1) ^ p % (n + 1)))) from funext (fun j => by
              unfold updA
              split <;> rfl)] at M3
            have hf3 : ∀ i, i < p + 1 → upd f2 p (nI (q / (n + 1) ^ p % (n + 1))) i = nI (q / (n + 1) ^ i % (n + 1)) := fun i hi => by
              by_cases e9 : i = p
              · rw [upd_s e9, e9]
              · rw [pk_un e9]; exact hf2 i (by omega)
            have hfp := hf3 p (by omega)
            generalize upd f2 p (nI (q / (n + 1) ^ p % (n + 1))) = f3 at M3 hf3 hfp
            have m30 := M3.1
            have m377 := M3.at (j := 77) (m := 5) (by omega) (by omega) (by omega) rfl
            rw [updA_s] at m377
            have m366 : h3 66 = .inl (0, 5, .inl (A 66)) := M3.at (j := 66) (m := 5) (by omega) (by omega) (by omega) rfl
            have m369 : h3 69 = .inl (0, 25, .inl (A 69)) := M3.at (j := 69) (m := 25) (by omega) (by omega) (by omega) rfl
            have nx := ih2 (p + 1) h3 f3 _ (by omega) M3 F3 hf3 rfl
            rw [show q / (n + 1) ^ (p + 1) = q / (n + 1) ^ p / (n + 1) by rw [Nat.pow_succ, Nat.div_div_eq_div_mul]] at nx
            rw [show pI (fun p => alp n a w p (mix (n + 1) n (fun _ => 0) q p)) (p + 1) = pI (fun p => alp n a w p (mix (n + 1) n (fun _ => 0) q p)) p * alp n a w p (mix (n + 1) n (fun _ => 0) q p) from rfl] at nx
            rw [show mix (n + 1) n (fun _ => 0) q p = q / (n + 1) ^ p % (n + 1) from if_pos (by omega)] at nx
            iterate 5 (first | refine hZ _ _ _ _ ⟨rfl, ?_⟩ | refine hZ _ _ _ _ ⟨_, _, (by repeat (first | exact up_s | assumption | refine up_n (by omega) ?_)), adl (by omega), (by rfl), ?_⟩ | refine hZ _ _ _ _ ⟨_, _, (by repeat (first | exact up_s | assumption | refine up_n (by omega) ?_)), adl (by omega), (by first | assumption | exact vp_in_nI (by omega) (by omega)), ?_⟩ | refine hZ _ _ _ _ ⟨_, (by repeat (first | exact up_s | assumption | refine up_n (by omega) ?_)), adl (by omega), (by rfl), trivial, ?_⟩ | refine hZ _ _ _ _ ⟨trivial, ?_⟩ | refine hZ _ _ _ _ ⟨_, _, _, _, (by repeat (first | exact up_s | assumption | refine up_n (by omega) ?_)), (by first | exact Or.inr (Or.inr rfl) | exact Or.inr (Or.inl rfl) | exact Or.inl rfl), adl (by omega), (by first | assumption | exact vp_in_nI (by omega) (by omega)), (by first | exact rowsF_at (by omega) | exact shF_at (by omega)), ?_⟩ | refine hZ _ _ _ _ ?_)
            show Z _ 92 _ _
            rw [lit_1, nI_add]
            refine hZ _ _ _ _ ⟨nI_ne0 (by omega) (by omega), ?_⟩
            rw [pk_div hr (by omega) (by omega)]
            show Z _ 93 _ _
            generalize q / (n + 1) ^ p = r at hfp nx hrm hr ⊢
            generalize sI (fun q => pI (fun p => alp n a w p (mix (n + 1) n (fun _ => 0) q p)) n * bI (ld n (mix (n + 1) n (fun _ => 0) q))) q = S at nx ⊢
            generalize pI (fun p => alp n a w p (mix (n + 1) n (fun _ => 0) q p)) p = T at nx ⊢
            iterate 1 (first | refine hZ _ _ _ _ ⟨rfl, ?_⟩ | refine hZ _ _ _ _ ⟨_, _, (by repeat (first | exact up_s | assumption | refine up_n (by omega) ?_)), adl (by omega), (by rfl), ?_⟩ | refine hZ _ _ _ _ ⟨_, _, (by repeat (first | exact up_s | assumption | refine up_n (by omega) ?_)), adl (by omega), (by first | assumption | exact vp_in_nI (by omega) (by omega)), ?_⟩ | refine hZ _ _ _ _ ⟨_, (by repeat (first | exact up_s | assumption | refine up_n (by omega) ?_)), adl (by omega), (by rfl), trivial, ?_⟩ | refine hZ _ _ _ _ ⟨trivial, ?_⟩ | refine hZ _ _ _ _ ⟨_, _, _, _, (by repeat (first | exact up_s | assumption | refine up_n (by omega) ?_)), (by first | exact Or.inr (Or.inr rfl) | exact Or.inr (Or.inl rfl) | exact Or.inl rfl), adl (by omega), (by first | assumption | exact vp_in_nI (by omega) (by omega)), (by first | exact rowsF_at (by omega) | exact shF_at (by omega)), ?_⟩ | refine hZ _ _ _ _ ?_)
            show Z _ 95 _ _
            show Z h3 95 [some (.ref 61), some (.int (nI ((n + 1) ^ n))), some (.long (lI S)), none, some (.int (nI q)), some (.int (nI (r / (n + 1)))), some (.long (lI T)), none, some (.int (nI p))] []
            repeat (first | refine hZ _ _ _ _ ⟨rfl, ?_⟩ | refine hZ _ _ _ _ ⟨_, _, (by repeat (first | exact up_s | assumption | refine up_n (by omega) ?_)), adl (by omega), (by rfl), ?_⟩ | refine hZ _ _ _ _ ⟨_, _, (by repeat (first | exact up_s | assumption | refine up_n (by omega) ?_)), adl (by omega), (by first | assumption | exact vp_in_nI (by omega) (by omega)), ?_⟩ | refine hZ _ _ _ _ ⟨_, (by repeat (first | exact up_s | assumption | refine up_n (by omega) ?_)), adl (by omega), (by rfl), trivial, ?_⟩ | refine hZ _ _ _ _ ⟨trivial, ?_⟩ | refine hZ _ _ _ _ ⟨_, _, _, _, (by repeat (first | exact up_s | assumption | refine up_n (by omega) ?_)), (by first | exact Or.inr (Or.inr rfl) | exact Or.inr (Or.inl rfl) | exact Or.inl rfl), adl (by omega), (by first | assumption | exact vp_in_nI (by omega) (by omega)), (by first | exact rowsF_at (by omega) | exact shF_at (by omega)), ?_⟩ | refine hZ _ _ _ _ ?_)
            rw [nI_clamp (by omega), hfp]
            unfold alp at nx
            by_cases hc : r % (n + 1) = n
            · rw [if_pos hc] at nx
              rw [hc]
              refine ⟨fun c => absurd rfl c, fun c => ?_⟩
              iterate 6 (first | refine hZ _ _ _ _ ⟨rfl, ?_⟩ | refine hZ _ _ _ _ ⟨_, _, (by repeat (first | exact up_s | assumption | refine up_n (by omega) ?_)), adl (by omega), (by rfl), ?_⟩ | refine hZ _ _ _ _ ⟨_, _, (by repeat (first | exact up_s | assumption | refine up_n (by omega) ?_)), adl (by omega), (by first | assumption | exact vp_in_nI (by omega) (by omega)), ?_⟩ | refine hZ _ _ _ _ ⟨_, (by repeat (first | exact up_s | assumption | refine up_n (by omega) ?_)), adl (by omega), (by rfl), trivial, ?_⟩ | refine hZ _ _ _ _ ⟨trivial, ?_⟩ | refine hZ _ _ _ _ ⟨_, _, _, _, (by repeat (first | exact up_s | assumption | refine up_n (by omega) ?_)), (by first | exact Or.inr (Or.inr rfl) | exact Or.inr (Or.inl rfl) | exact Or.inl rfl), adl (by omega), (by first | assumption | exact vp_in_nI (by omega) (by omega)), (by first | exact rowsF_at (by omega) | exact shF_at (by omega)), ?_⟩ | refine hZ _ _ _ _ ?_)
              show Z _ 140 _ _
              rw [nI_clamp (by omega), G.2.1 p (by omega), i2l_n _ (by have := Y.2.2.2.2.1 p (by omega); omega)]
              iterate 1 (first | refine hZ _ _ _ _ ⟨rfl, ?_⟩ | refine hZ _ _ _ _ ⟨_, _, (by repeat (first | exact up_s | assumption | refine up_n (by omega) ?_)), adl (by omega), (by rfl), ?_⟩ | refine hZ _ _ _ _ ⟨_, _, (by repeat (first | exact up_s | assumption | refine up_n (by omega) ?_)), adl (by omega), (by first | assumption | exact vp_in_nI (by omega) (by omega)), ?_⟩ | refine hZ _ _ _ _ ⟨_, (by repeat (first | exact up_s | assumption | refine up_n (by omega) ?_)), adl (by omega), (by rfl), trivial, ?_⟩ | refine hZ _ _ _ _ ⟨trivial, ?_⟩ | refine hZ _ _ _ _ ⟨_, _, _, _, (by repeat (first | exact up_s | assumption | refine up_n (by omega) ?_)), (by first | exact Or.inr (Or.inr rfl) | exact Or.inr (Or.inl rfl) | exact Or.inl rfl), adl (by omega), (by first | assumption | exact vp_in_nI (by omega) (by omega)), (by first | exact rowsF_at (by omega) | exact shF_at (by omega)), ?_⟩ | refine hZ _ _ _ _ ?_)
              show Z _ 141 _ _
              rw [lI_mul]
              iterate 1 (first | refine hZ _ _ _ _ ⟨rfl, ?_⟩ | refine hZ _ _ _ _ ⟨_, _, (by repeat (first | exact up_s | assumption | refine up_n (by omega) ?_)), adl (by omega), (by rfl), ?_⟩ | refine hZ _ _ _ _ ⟨_, _, (by repeat (first | exact up_s | assumption | refine up_n (by omega) ?_)), adl (by omega), (by first | assumption | exact vp_in_nI (by omega) (by omega)), ?_⟩ | refine hZ _ _ _ _ ⟨_, (by repeat (first | exact up_s | assumption | refine up_n (by omega) ?_)), adl (by omega), (by rfl), trivial, ?_⟩ | refine hZ _ _ _ _ ⟨trivial, ?_⟩ | refine hZ _ _ _ _ ⟨_, _, _, _, (by repeat (first | exact up_s | assumption | refine up_n (by omega) ?_)), (by first | exact Or.inr (Or.inr rfl) | exact Or.inr (Or.inl rfl) | exact Or.inl rfl), adl (by omega), (by first | assumption | exact vp_in_nI (by omega) (by omega)), (by first | exact rowsF_at (by omega) | exact shF_at (by omega)), ?_⟩ | refine hZ _ _ _ _ ?_)
              show Z _ 143 _ _
              show Z h3 143 [some (.ref 61), some (.int (nI ((n + 1) ^ n))), some (.long (lI S)), none, some (.int (nI q)), some (.int (nI (r / (n + 1)))), some (.long (lI (T * (w p : Int)))), none, some (.int (nI p))] []
              iterate 2 (first | refine hZ _ _ _ _ ⟨rfl, ?_⟩ | refine hZ _ _ _ _ ⟨_, _, (by repeat (first | exact up_s | assumption | refine up_n (by omega) ?_)), adl (by omega), (by rfl), ?_⟩ | refine hZ _ _ _ _ ⟨_, _, (by repeat (first | exact up_s | assumption | refine up_n (by omega) ?_)), adl (by omega), (by first | assumption | exact vp_in_nI (by omega) (by omega)), ?_⟩ | refine hZ _ _ _ _ ⟨_, (by repeat (first | exact up_s | assumption | refine up_n (by omega) ?_)), adl (by omega), (by rfl), trivial, ?_⟩ | refine hZ _ _ _ _ ⟨trivial, ?_⟩ | refine hZ _ _ _ _ ⟨_, _, _, _, (by repeat (first | exact up_s | assumption | refine up_n (by omega) ?_)), (by first | exact Or.inr (Or.inr rfl) | exact Or.inr (Or.inl rfl) | exact Or.inl rfl), adl (by omega), (by first | assumption | exact vp_in_nI (by omega) (by omega)), (by first | exact rowsF_at (by omega) | exact shF_at (by omega)), ?_⟩ | refine hZ _ _ _ _ ?_)
              show Z _ 59 _ _
              rw [nI_inc]
              exact nx
            · rw [if_neg hc] at nx
              refine ⟨fun c => ?_, fun c => absurd ((nI_eq (by omega) (by omega)).mp c) hc⟩
              iterate 10 (first | refine hZ _ _ _ _ ⟨rfl, ?_⟩ | refine hZ _ _ _ _ ⟨_, _, (by repeat (first | exact up_s | assumption | refine up_n (by omega) ?_)), adl (by omega), (by rfl), ?_⟩ | refine hZ _ _ _ _ ⟨_, _, (by repeat (first | exact up_s | assumption | refine up_n (by omega) ?_)), adl (by omega), (by first | assumption | exact vp_in_nI (by omega) (by omega)), ?_⟩ | refine hZ _ _ _ _ ⟨_, (by repeat (first | exact up_s | assumption | refine up_n (by omega) ?_)), adl (by omega), (by rfl), trivial, ?_⟩ | refine hZ _ _ _ _ ⟨trivial, ?_⟩ | refine hZ _ _ _ _ ⟨_, _, _, _, (by repeat (first | exact up_s | assumption | refine up_n (by omega) ?_)), (by first | exact Or.inr (Or.inr rfl) | exact Or.inr (Or.inl rfl) | exact Or.inl rfl), adl (by omega), (by first | assumption | exact vp_in_nI (by omega) (by omega)), (by first | exact rowsF_at (by omega) | exact shF_at (by omega)), ?_⟩ | refine hZ _ _ _ _ ?_)
              show Z _ 138 _ _
              rw [nI_clamp (by omega), hfp, lit_5, pk_mul, nI_add]
              iterate 2 (first | refine hZ _ _ _ _ ⟨rfl, ?_⟩ | refine hZ _ _ _ _ ⟨_, _, (by repeat (first | exact up_s | assumption | refine up_n (by omega) ?_)), adl (by omega), (by rfl), ?_⟩ | refine hZ _ _ _ _ ⟨_, _, (by repeat (first | exact up_s | assumption | refine up_n (by omega) ?_)), adl (by omega), (by first | assumption | exact vp_in_nI (by omega) (by omega)), ?_⟩ | refine hZ _ _ _ _ ⟨_, (by repeat (first | exact up_s | assumption | refine up_n (by omega) ?_)), adl (by omega), (by rfl), trivial, ?_⟩ | refine hZ _ _ _ _ ⟨trivial, ?_⟩ | refine hZ _ _ _ _ ⟨_, _, _, _, (by repeat (first | exact up_s | assumption | refine up_n (by omega) ?_)), (by first | exact Or.inr (Or.inr rfl) | exact Or.inr (Or.inl rfl) | exact Or.inl rfl), adl (by omega), (by first | assumption | exact vp_in_nI (by omega) (by omega)), (by first | exact rowsF_at (by omega) | exact shF_at (by omega)), ?_⟩ | refine hZ _ _ _ _ ?_)
              show Z _ 140 _ _
              rw [nI_clamp (by omega), G.2.2 p _ (by omega) (by omega), i2l_n _ (by have := Y.2.2.2.1 p (r % (n + 1)) (by omega) (by omega); omega)]
              iterate 1 (first | refine hZ _ _ _ _ ⟨rfl, ?_⟩ | refine hZ _ _ _ _ ⟨_, _, (by repeat (first | exact up_s | assumption | refine up_n (by omega) ?_)), adl (by omega), (by rfl), ?_⟩ | refine hZ _ _ _ _ ⟨_, _, (by repeat (first | exact up_s | assumption | refine up_n (by omega) ?_)), adl (by omega), (by first | assumption | exact vp_in_nI (by omega) (by omega)), ?_⟩ | refine hZ _ _ _ _ ⟨_, (by repeat (first | exact up_s | assumption | refine up_n (by omega) ?_)), adl (by omega), (by rfl), trivial, ?_⟩ | refine hZ _ _ _ _ ⟨trivial, ?_⟩ | refine hZ _ _ _ _ ⟨_, _, _, _, (by repeat (first | exact up_s | assumption | refine up_n (by omega) ?_)), (by first | exact Or.inr (Or.inr rfl) | exact Or.inr (Or.inl rfl) | exact Or.inl rfl), adl (by omega), (by first | assumption | exact vp_in_nI (by omega) (by omega)), (by first | exact rowsF_at (by omega) | exact shF_at (by omega)), ?_⟩ | refine hZ _ _ _ _ ?_)
              show Z _ 141 _ _
              rw [lI_mul]
              iterate 1 (first | refine hZ _ _ _ _ ⟨rfl, ?_⟩ | refine hZ _ _ _ _ ⟨_, _, (by repeat (first | exact up_s | assumption | refine up_n (by omega) ?_)), adl (by omega), (by rfl), ?_⟩ | refine hZ _ _ _ _ ⟨_, _, (by repeat (first | exact up_s | assumption | refine up_n (by omega) ?_)), adl (by omega), (by first | assumption | exact vp_in_nI (by omega) (by omega)), ?_⟩ | refine hZ _ _ _ _ ⟨_, (by repeat (first | exact up_s | assumption | refine up_n (by omega) ?_)), adl (by omega), (by rfl), trivial, ?_⟩ | refine hZ _ _ _ _ ⟨trivial, ?_⟩ | refine hZ _ _ _ _ ⟨_, _, _, _, (by repeat (first | exact up_s | assumption | refine up_n (by omega) ?_)), (by first | exact Or.inr (Or.inr rfl) | exact Or.inr (Or.inl rfl) | exact Or.inl rfl), adl (by omega), (by first | assumption | exact vp_in_nI (by omega) (by omega)), (by first | exact rowsF_at (by omega) | exact shF_at (by omega)), ?_⟩ | refine hZ _ _ _ _ ?_)
              show Z _ 143 _ _
              show Z h3 143 [some (.ref 61), some (.int (nI ((n + 1) ^ n))), some (.long (lI S)), none, some (.int (nI q)), some (.int (nI (r / (n + 1)))), some (.long (lI (T * (a p (r % (n + 1)) : Int)))), none, some (.int (nI p))] []
              iterate 2 (first | refine hZ _ _ _ _ ⟨rfl, ?_⟩ | refine hZ _ _ _ _ ⟨_, _, (by repeat (first | exact up_s | assumption | refine up_n (by omega) ?_)), adl (by omega), (by rfl), ?_⟩ | refine hZ _ _ _ _ ⟨_, _, (by repeat (first | exact up_s | assumption | refine up_n (by omega) ?_)), adl (by omega), (by first | assumption | exact vp_in_nI (by omega) (by omega)), ?_⟩ | refine hZ _ _ _ _ ⟨_, (by repeat (first | exact up_s | assumption | refine up_n (by omega) ?_)), adl (by omega), (by rfl), trivial, ?_⟩ | refine hZ _ _ _ _ ⟨trivial, ?_⟩ | refine hZ _ _ _ _ ⟨_, _, _, _, (by repeat (first | exact up_s | assumption | refine up_n (by omega) ?_)), (by first | exact Or.inr (Or.inr rfl) | exact Or.inr (Or.inl rfl) | exact Or.inl rfl), adl (by omega), (by first | assumption | exact vp_in_nI (by omega) (by omega)), (by first | exact rowsF_at (by omega) | exact shF_at (by omega)), ?_⟩ | refine hZ _ _ _ _ ?_)
              show Z _ 59 _ _
              rw [nI_inc]
              exact nx
        repeat (first | refine hZ _ _ _ _ ⟨rfl, ?_⟩ | refine hZ _ _ _ _ ⟨_, _, (by repeat (first | exact up_s | assumption | refine up_n (by omega) ?_)), adl (by omega), (by rfl), ?_⟩ | refine hZ _ _ _ _ ⟨_, _, (by repeat (first | exact up_s | assumption | refine up_n (by omega) ?_)), adl (by omega), (by first | assumption | exact vp_in_nI (by omega) (by omega)), ?_⟩ | refine hZ _ _ _ _ ⟨_, (by repeat (first | exact up_s | assumption | refine up_n (by omega) ?_)), adl (by omega), (by rfl), trivial, ?_⟩ | refine hZ _ _ _ _ ⟨trivial, ?_⟩ | refine hZ _ _ _ _ ⟨_, _, _, _, (by repeat (first | exact up_s | assumption | refine up_n (by omega) ?_)), (by first | exact Or.inr (Or.inr rfl) | exact Or.inr (Or.inl rfl) | exact Or.inl rfl), adl (by omega), (by first | assumption | exact vp_in_nI (by omega) (by omega)), (by first | exact rowsF_at (by omega) | exact shF_at (by omega)), ?_⟩ | refine hZ _ _ _ _ ?_)
        refine ⟨fun c => absurd c (nI_ge (by omega) (by omega)), fun c => ?_⟩
        iterate 2 (first | refine hZ _ _ _ _ ⟨rfl, ?_⟩ | refine hZ _ _ _ _ ⟨_, _, (by repeat (first | exact up_s | assumption | refine up_n (by omega) ?_)), adl (by omega), (by rfl), ?_⟩ | refine hZ _ _ _ _ ⟨_, _, (by repeat (first | exact up_s | assumption | refine up_n (by omega) ?_)), adl (by omega), (by first | assumption | exact vp_in_nI (by omega) (by omega)), ?_⟩ | refine hZ _ _ _ _ ⟨_, (by repeat (first | exact up_s | assumption | refine up_n (by omega) ?_)), adl (by omega), (by rfl), trivial, ?_⟩ | refine hZ _ _ _ _ ⟨trivial, ?_⟩ | refine hZ _ _ _ _ ⟨_, _, _, _, (by repeat (first | exact up_s | assumption | refine up_n (by omega) ?_)), (by first | exact Or.inr (Or.inr rfl) | exact Or.inr (Or.inl rfl) | exact Or.inl rfl), adl (by omega), (by first | assumption | exact vp_in_nI (by omega) (by omega)), (by first | exact rowsF_at (by omega) | exact shF_at (by omega)), ?_⟩ | refine hZ _ _ _ _ ?_)
        show Z _ 53 _ _
        show Z h1 53 [some (.ref 61), some (.int (nI ((n + 1) ^ n))), some (.long (lI (sI (fun q => pI (fun p => alp n a w p (mix (n + 1) n (fun _ => 0) q p)) n * bI (ld n (mix (n + 1) n (fun _ => 0) q))) q))), none, some (.int (nI q)), some (.int (nI q)), o6, none, o8] []
        iterate 2 (first | refine hZ _ _ _ _ ⟨rfl, ?_⟩ | refine hZ _ _ _ _ ⟨_, _, (by repeat (first | exact up_s | assumption | refine up_n (by omega) ?_)), adl (by omega), (by rfl), ?_⟩ | refine hZ _ _ _ _ ⟨_, _, (by repeat (first | exact up_s | assumption | refine up_n (by omega) ?_)), adl (by omega), (by first | assumption | exact vp_in_nI (by omega) (by omega)), ?_⟩ | refine hZ _ _ _ _ ⟨_, (by repeat (first | exact up_s | assumption | refine up_n (by omega) ?_)), adl (by omega), (by rfl), trivial, ?_⟩ | refine hZ _ _ _ _ ⟨trivial, ?_⟩ | refine hZ _ _ _ _ ⟨_, _, _, _, (by repeat (first | exact up_s | assumption | refine up_n (by omega) ?_)), (by first | exact Or.inr (Or.inr rfl) | exact Or.inr (Or.inl rfl) | exact Or.inl rfl), adl (by omega), (by first | assumption | exact vp_in_nI (by omega) (by omega)), (by first | exact rowsF_at (by omega) | exact shF_at (by omega)), ?_⟩ | refine hZ _ _ _ _ ?_)
        show Z _ 56 _ _
        rw [lI_1]
        show Z h1 56 [some (.ref 61), some (.int (nI ((n + 1) ^ n))), some (.long (lI (sI (fun q => pI (fun p => alp n a w p (mix (n + 1) n (fun _ => 0) q p)) n * bI (ld n (mix (n + 1) n (fun _ => 0) q))) q))), none, some (.int (nI q)), some (.int (nI q)), some (.long (lI 1)), none, o8] []
        iterate 2 (first | refine hZ _ _ _ _ ⟨rfl, ?_⟩ | refine hZ _ _ _ _ ⟨_, _, (by repeat (first | exact up_s | assumption | refine up_n (by omega) ?_)), adl (by omega), (by rfl), ?_⟩ | refine hZ _ _ _ _ ⟨_, _, (by repeat (first | exact up_s | assumption | refine up_n (by omega) ?_)), adl (by omega), (by first | assumption | exact vp_in_nI (by omega) (by omega)), ?_⟩ | refine hZ _ _ _ _ ⟨_, (by repeat (first | exact up_s | assumption | refine up_n (by omega) ?_)), adl (by omega), (by rfl), trivial, ?_⟩ | refine hZ _ _ _ _ ⟨trivial, ?_⟩ | refine hZ _ _ _ _ ⟨_, _, _, _, (by repeat (first | exact up_s | assumption | refine up_n (by omega) ?_)), (by first | exact Or.inr (Or.inr rfl) | exact Or.inr (Or.inl rfl) | exact Or.inl rfl), adl (by omega), (by first | assumption | exact vp_in_nI (by omega) (by omega)), (by first | exact rowsF_at (by omega) | exact shF_at (by omega)), ?_⟩ | refine hZ _ _ _ _ ?_)
        show Z _ 59 _ _
        rw [lit_0]
        have nx := mul n 0 h1 f1 _ (by omega) M1 F1 (fun i hi => by omega) rfl
        rw [show q / (n + 1) ^ 0 = q by rw [Nat.pow_zero, Nat.div_one]] at nx
        exact nx
    have rows : ∀ e p, p + e = n → Z h 15 [some (.ref 61), some (.int (nI ((n + 1) ^ p))), some (.int (nI p)), none, none, none, none, none, none] [] := by
      intro e
      induction e with
      | zero =>
        intro p hpe
        repeat (first | refine hZ _ _ _ _ ⟨rfl, ?_⟩ | refine hZ _ _ _ _ ⟨_, _, (by repeat (first | exact up_s | assumption | refine up_n (by omega) ?_)), adl (by omega), (by rfl), ?_⟩ | refine hZ _ _ _ _ ⟨_, _, (by repeat (first | exact up_s | assumption | refine up_n (by omega) ?_)), adl (by omega), (by first | assumption | exact vp_in_nI (by omega) (by omega)), ?_⟩ | refine hZ _ _ _ _ ⟨_, (by repeat (first | exact up_s | assumption | refine up_n (by omega) ?_)), adl (by omega), (by rfl), trivial, ?_⟩ | refine hZ _ _ _ _ ⟨trivial, ?_⟩ | refine hZ _ _ _ _ ⟨_, _, _, _, (by repeat (first | exact up_s | assumption | refine up_n (by omega) ?_)), (by first | exact Or.inr (Or.inr rfl) | exact Or.inr (Or.inl rfl) | exact Or.inl rfl), adl (by omega), (by first | assumption | exact vp_in_nI (by omega) (by omega)), (by first | exact rowsF_at (by omega) | exact shF_at (by omega)), ?_⟩ | refine hZ _ _ _ _ ?_)
        refine ⟨fun c => ?_, fun c => absurd (nI_le (by omega) (by omega)) c⟩
        rw [show p = n by omega]
        iterate 2 (first | refine hZ _ _ _ _ ⟨rfl, ?_⟩ | refine hZ _ _ _ _ ⟨_, _, (by repeat (first | exact up_s | assumption | refine up_n (by omega) ?_)), adl (by omega), (by rfl), ?_⟩ | refine hZ _ _ _ _ ⟨_, _, (by repeat (first | exact up_s | assumption | refine up_n (by omega) ?_)), adl (by omega), (by first | assumption | exact vp_in_nI (by omega) (by omega)), ?_⟩ | refine hZ _ _ _ _ ⟨_, (by repeat (first | exact up_s | assumption | refine up_n (by omega) ?_)), adl (by omega), (by rfl), trivial, ?_⟩ | refine hZ _ _ _ _ ⟨trivial, ?_⟩ | refine hZ _ _ _ _ ⟨_, _, _, _, (by repeat (first | exact up_s | assumption | refine up_n (by omega) ?_)), (by first | exact Or.inr (Or.inr rfl) | exact Or.inr (Or.inl rfl) | exact Or.inl rfl), adl (by omega), (by first | assumption | exact vp_in_nI (by omega) (by omega)), (by first | exact rowsF_at (by omega) | exact shF_at (by omega)), ?_⟩ | refine hZ _ _ _ _ ?_)
        show Z _ 40 _ _
        rw [lI_0]
        show Z h 40 [some (.ref 61), some (.int (nI ((n + 1) ^ n))), some (.long (lI 0)), none, none, none, none, none, none] []
        iterate 2 (first | refine hZ _ _ _ _ ⟨rfl, ?_⟩ | refine hZ _ _ _ _ ⟨_, _, (by repeat (first | exact up_s | assumption | refine up_n (by omega) ?_)), adl (by omega), (by rfl), ?_⟩ | refine hZ _ _ _ _ ⟨_, _, (by repeat (first | exact up_s | assumption | refine up_n (by omega) ?_)), adl (by omega), (by first | assumption | exact vp_in_nI (by omega) (by omega)), ?_⟩ | refine hZ _ _ _ _ ⟨_, (by repeat (first | exact up_s | assumption | refine up_n (by omega) ?_)), adl (by omega), (by rfl), trivial, ?_⟩ | refine hZ _ _ _ _ ⟨trivial, ?_⟩ | refine hZ _ _ _ _ ⟨_, _, _, _, (by repeat (first | exact up_s | assumption | refine up_n (by omega) ?_)), (by first | exact Or.inr (Or.inr rfl) | exact Or.inr (Or.inl rfl) | exact Or.inl rfl), adl (by omega), (by first | assumption | exact vp_in_nI (by omega) (by omega)), (by first | exact rowsF_at (by omega) | exact shF_at (by omega)), ?_⟩ | refine hZ _ _ _ _ ?_)
        show Z _ 43 _ _
        rw [lit_0]
        refine sums ((n + 1) ^ n) 0 h (A 77) _ _ _ (by omega) ?_ Fr.rf
        rw [show updA A 77 (A 77) = A from funext (fun j => by
          unfold updA
          by_cases e9 : j = 77
          · rw [if_pos e9, e9]
          · rw [if_neg e9])]
        exact M
      | succ e ih =>
        intro p hpe
        have nx := ih (p + 1) (by omega)
        rw [Nat.pow_succ] at nx
        repeat (first | refine hZ _ _ _ _ ⟨rfl, ?_⟩ | refine hZ _ _ _ _ ⟨_, _, (by repeat (first | exact up_s | assumption | refine up_n (by omega) ?_)), adl (by omega), (by rfl), ?_⟩ | refine hZ _ _ _ _ ⟨_, _, (by repeat (first | exact up_s | assumption | refine up_n (by omega) ?_)), adl (by omega), (by first | assumption | exact vp_in_nI (by omega) (by omega)), ?_⟩ | refine hZ _ _ _ _ ⟨_, (by repeat (first | exact up_s | assumption | refine up_n (by omega) ?_)), adl (by omega), (by rfl), trivial, ?_⟩ | refine hZ _ _ _ _ ⟨trivial, ?_⟩ | refine hZ _ _ _ _ ⟨_, _, _, _, (by repeat (first | exact up_s | assumption | refine up_n (by omega) ?_)), (by first | exact Or.inr (Or.inr rfl) | exact Or.inr (Or.inl rfl) | exact Or.inl rfl), adl (by omega), (by first | assumption | exact vp_in_nI (by omega) (by omega)), (by first | exact rowsF_at (by omega) | exact shF_at (by omega)), ?_⟩ | refine hZ _ _ _ _ ?_)
        refine ⟨fun c => absurd c (nI_ge (by omega) (by omega)), fun c => ?_⟩
        iterate 9 (first | refine hZ _ _ _ _ ⟨rfl, ?_⟩ | refine hZ _ _ _ _ ⟨_, _, (by repeat (first | exact up_s | assumption | refine up_n (by omega) ?_)), adl (by omega), (by rfl), ?_⟩ | refine hZ _ _ _ _ ⟨_, _, (by repeat (first | exact up_s | assumption | refine up_n (by omega) ?_)), adl (by omega), (by first | assumption | exact vp_in_nI (by omega) (by omega)), ?_⟩ | refine hZ _ _ _ _ ⟨_, (by repeat (first | exact up_s | assumption | refine up_n (by omega) ?_)), adl (by omega), (by rfl), trivial, ?_⟩ | refine hZ _ _ _ _ ⟨trivial, ?_⟩ | refine hZ _ _ _ _ ⟨_, _, _, _, (by repeat (first | exact up_s | assumption | refine up_n (by omega) ?_)), (by first | exact Or.inr (Or.inr rfl) | exact Or.inr (Or.inl rfl) | exact Or.inl rfl), adl (by omega), (by first | assumption | exact vp_in_nI (by omega) (by omega)), (by first | exact rowsF_at (by omega) | exact shF_at (by omega)), ?_⟩ | refine hZ _ _ _ _ ?_)
        show Z _ 15 _ _
        rw [nI_inc, lit_1, nI_add, pk_mul]
        exact nx
    iterate 4 (first | refine hZ _ _ _ _ ⟨rfl, ?_⟩ | refine hZ _ _ _ _ ⟨_, _, (by repeat (first | exact up_s | assumption | refine up_n (by omega) ?_)), adl (by omega), (by rfl), ?_⟩ | refine hZ _ _ _ _ ⟨_, _, (by repeat (first | exact up_s | assumption | refine up_n (by omega) ?_)), adl (by omega), (by first | assumption | exact vp_in_nI (by omega) (by omega)), ?_⟩ | refine hZ _ _ _ _ ⟨_, (by repeat (first | exact up_s | assumption | refine up_n (by omega) ?_)), adl (by omega), (by rfl), trivial, ?_⟩ | refine hZ _ _ _ _ ⟨trivial, ?_⟩ | refine hZ _ _ _ _ ⟨_, _, _, _, (by repeat (first | exact up_s | assumption | refine up_n (by omega) ?_)), (by first | exact Or.inr (Or.inr rfl) | exact Or.inr (Or.inl rfl) | exact Or.inl rfl), adl (by omega), (by first | assumption | exact vp_in_nI (by omega) (by omega)), (by first | exact rowsF_at (by omega) | exact shF_at (by omega)), ?_⟩ | refine hZ _ _ _ _ ?_)
    show Z _ 15 _ _
    exact rows n 0 (by omega)
  · rw [if_pos ((nI_eq (b := 0) (by omega) (by omega)).mp c9)] at hp
    repeat (first | refine hZ _ _ _ _ ⟨rfl, ?_⟩ | refine hZ _ _ _ _ ⟨_, _, (by repeat (first | exact up_s | assumption | refine up_n (by omega) ?_)), adl (by omega), (by rfl), ?_⟩ | refine hZ _ _ _ _ ⟨_, _, (by repeat (first | exact up_s | assumption | refine up_n (by omega) ?_)), adl (by omega), (by first | assumption | exact vp_in_nI (by omega) (by omega)), ?_⟩ | refine hZ _ _ _ _ ⟨_, (by repeat (first | exact up_s | assumption | refine up_n (by omega) ?_)), adl (by omega), (by rfl), trivial, ?_⟩ | refine hZ _ _ _ _ ⟨trivial, ?_⟩ | refine hZ _ _ _ _ ⟨_, _, _, _, (by repeat (first | exact up_s | assumption | refine up_n (by omega) ?_)), (by first | exact Or.inr (Or.inr rfl) | exact Or.inr (Or.inl rfl) | exact Or.inl rfl), adl (by omega), (by first | assumption | exact vp_in_nI (by omega) (by omega)), (by first | exact rowsF_at (by omega) | exact shF_at (by omega)), ?_⟩ | refine hZ _ _ _ _ ?_)
    exact hp h Fr.rf M0
