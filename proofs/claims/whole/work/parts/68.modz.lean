/-! ===== the reference: reading a yard ===== -/
theorem y_fail {cd : Nat → Int32} {m n j : Nat} (hs : ySt cd m = ((false, 2), n)) (hj : j < pA n n + 4 * n) (hr : rst (ckT n) cd m (false, 2) j = (false, 2 + j)) (hc : ¬ (2 + j < m ∧ ckT n j (cd (2 + j)) = true)) : yEnd cd m = (true, 2 + j) := by
  unfold yEnd
  rw [hs]
  dsimp only
  have h1 : rst (ckT n) cd m (false, 2) (j + 1) = (true, 2 + j) := by
    rw [rst_no (by
      rw [hr]
      rintro ⟨-, z⟩
      exact hc z), hr]
  have := rst_wrong (ck := ckT n) (cd := cd) (m := m) (s0 := (false, 2)) (j := j + 1) (by rw [h1]) (pA n n + 4 * n - (j + 1))
  rw [show j + 1 + (pA n n + 4 * n - (j + 1)) = pA n n + 4 * n by omega, h1] at this
  exact this
theorem y_step {cd : Nat → Int32} {m n j : Nat} (hr : rst (ckT n) cd m (false, 2) j = (false, 2 + j)) (hc : 2 + j < m ∧ ckT n j (cd (2 + j)) = true) : rst (ckT n) cd m (false, 2) (j + 1) = (false, 2 + (j + 1)) := by
  rw [rst_ok (by rw [hr]; exact ⟨rfl, hc⟩), hr]
  rfl
/-- what a text told, as it lies in the reference's rows -/
def RdY (A : Nat → Nat → Int32) (n : Nat) (cd : Nat → Int32) : Prop := (∀ p, p < n → A 70 p = nI (yk cd n p) ∧ A 71 p = nI (yw cd n p) ∧ A 72 p = nI (yh cd n p)) ∧ ∀ p q, p < n → q < n → A 73 (5 * p + q) = nI (ya cd n p q)
set_option maxHeartbeats 8000000 in
theorem m_readYard {l : Launch} {h : AH} {F m : Nat} {cd : Nat → Int32} {fl tr pl fa to rp dF' dT dS rd : Int32} {A : Nat → Nat → Int32} {L : Nat → Int64} {P : Option Value → AH → Prop} (M : MM h fl tr pl fa to (nI F) rp dF' dT dS rd A L) (hF : F + m ≤ 240) (hm : m ≤ 60) (hcd : ∀ j, j < m → A 64 (F + j) = cd j) (h73 : ∀ p, p < 5 → A 73 (6 * p) = 0)
    (hp : ∀ h' A' rp', Fr 61 82 h h' → MM h' fl tr pl fa to (nI (F + (yEnd cd m).2)) rp' dF' dT dS rd A' L → (∀ j, ¬ (70 ≤ j ∧ j ≤ 73) → A' j = A j) → (∀ p, p < 5 → A' 73 (6 * p) = 0) → ((yEnd cd m).1 = false → rp' = nI (ySt cd m).2 ∧ RdY A' (ySt cd m).2 cd) → P (some (.int (b2i (decide ((yEnd cd m).1 = false ∧ (yEnd cd m).2 = m))))) h') : Sem l QX7_readYard 82 h [.ref 61, .int (nI (F + m))] P := by
  have m0 := M.1
  refine iX7_readYard rfl ?_
  intro Z hZ
  iterate 3 (first | refine hZ _ _ _ _ ⟨rfl, ?_⟩ | refine hZ _ _ _ _ ⟨_, _, (by repeat (first | exact up_s | assumption | refine up_n (by omega) ?_)), adl (by omega), (by rfl), ?_⟩ | refine hZ _ _ _ _ ⟨_, _, (by repeat (first | exact up_s | assumption | refine up_n (by omega) ?_)), adl (by omega), (by first | assumption | exact vp_in_nI (by omega) (by omega)), ?_⟩ | refine hZ _ _ _ _ ⟨_, (by repeat (first | exact up_s | assumption | refine up_n (by omega) ?_)), adl (by omega), (by rfl), trivial, ?_⟩ | refine hZ _ _ _ _ ⟨trivial, ?_⟩ | refine hZ _ _ _ _ ⟨_, _, _, _, (by repeat (first | exact up_s | assumption | refine up_n (by omega) ?_)), (by first | exact Or.inr (Or.inr rfl) | exact Or.inr (Or.inl rfl) | exact Or.inl rfl), adl (by omega), (by first | assumption | exact vp_in_nI (by omega) (by omega)), (by first | exact rowsF_at (by omega) | exact shF_at (by omega)), ?_⟩ | refine hZ _ _ _ _ ?_)
  show Z _ 4 _ _
  rw [lb121]
  refine hZ _ _ _ _ ⟨⟨_, (by repeat (first | exact up_s | assumption | refine up_n (by omega) ?_))⟩, adl (by omega), rfl, ?_⟩
  refine m_sign M (by omega) (by omega) (fun hc h1 F1 M1 => ?_) (fun hc => ?_)
  · show Z h1 7 [some (.ref 61), some (.int (nI (F + m))), none, none, none] [.int 1]
    have c0 : 0 < m ∧ cd 0 = nI 121 := by
      have h1 : 0 < m := by omega
      have h2 := hcd 0 h1
      rw [Nat.add_zero] at h2
      exact ⟨h1, by rw [← h2]; exact hc.2⟩
    have m10 := M1.1
    repeat (first | refine hZ _ _ _ _ ⟨rfl, ?_⟩ | refine hZ _ _ _ _ ⟨_, _, (by repeat (first | exact up_s | assumption | refine up_n (by omega) ?_)), adl (by omega), (by rfl), ?_⟩ | refine hZ _ _ _ _ ⟨_, _, (by repeat (first | exact up_s | assumption | refine up_n (by omega) ?_)), adl (by omega), (by first | assumption | exact vp_in_nI (by omega) (by omega)), ?_⟩ | refine hZ _ _ _ _ ⟨_, (by repeat (first | exact up_s | assumption | refine up_n (by omega) ?_)), adl (by omega), (by rfl), trivial, ?_⟩ | refine hZ _ _ _ _ ⟨trivial, ?_⟩ | refine hZ _ _ _ _ ⟨_, _, _, _, (by repeat (first | exact up_s | assumption | refine up_n (by omega) ?_)), (by first | exact Or.inr (Or.inr rfl) | exact Or.inr (Or.inl rfl) | exact Or.inl rfl), adl (by omega), (by first | assumption | exact vp_in_nI (by omega) (by omega)), (by first | exact rowsF_at (by omega) | exact shF_at (by omega)), ?_⟩ | refine hZ _ _ _ _ ?_)
    refine ⟨fun c => ?_, fun c => absurd c (by decide)⟩
    iterate 5 (first | refine hZ _ _ _ _ ⟨rfl, ?_⟩ | refine hZ _ _ _ _ ⟨_, _, (by repeat (first | exact up_s | assumption | refine up_n (by omega) ?_)), adl (by omega), (by rfl), ?_⟩ | refine hZ _ _ _ _ ⟨_, _, (by repeat (first | exact up_s | assumption | refine up_n (by omega) ?_)), adl (by omega), (by first | assumption | exact vp_in_nI (by omega) (by omega)), ?_⟩ | refine hZ _ _ _ _ ⟨_, (by repeat (first | exact up_s | assumption | refine up_n (by omega) ?_)), adl (by omega), (by rfl), trivial, ?_⟩ | refine hZ _ _ _ _ ⟨trivial, ?_⟩ | refine hZ _ _ _ _ ⟨_, _, _, _, (by repeat (first | exact up_s | assumption | refine up_n (by omega) ?_)), (by first | exact Or.inr (Or.inr rfl) | exact Or.inr (Or.inl rfl) | exact Or.inl rfl), adl (by omega), (by first | assumption | exact vp_in_nI (by omega) (by omega)), (by first | exact rowsF_at (by omega) | exact shF_at (by omega)), ?_⟩ | refine hZ _ _ _ _ ?_)
    show Z _ 17 _ _
    rw [lit_2, lit_5]
    refine hZ _ _ _ _ ⟨⟨_, (by repeat (first | exact up_s | assumption | refine up_n (by omega) ?_))⟩, adl (by omega), rfl, ?_⟩
    refine m_digit M1 (by omega) (by omega) (by omega) (by omega) (fun hc1 h2 F2 M2 => ?_) (fun hc1 => ?_)
    · show Z h2 20 [some (.ref 61), some (.int (nI (F + m))), none, none, none] [.int (A 64 (F + 1) - nI 48), .ref 61]
      have e1 := hcd 1 (by omega)
      have c1 : 1 < m ∧ nI 50 ≤ cd 1 ∧ cd 1 ≤ nI 53 := ⟨by omega, by rw [← e1]; exact hc1.2.1, by rw [← e1]; exact hc1.2.2⟩
      have hst : ySt cd m = ((false, 2), (cd 1).toNatClampNeg - 48) := by
        unfold ySt
        rw [if_pos c0, if_pos c1]
      have hdg : isDg 5 (cd 1) = true := (isDg_iff 5 _).mpr ⟨Int32.le_trans (by decide) c1.2.1, c1.2.2⟩
      obtain ⟨hd1, hd2⟩ := dg_val (by omega) hdg
      have hn25 := ySt_n (cd := cd) (m := m)
      rw [hst] at hn25
      dsimp only at hn25
      have hnn : (cd 1).toNatClampNeg - 48 = dgv (cd 1) := rfl
      rw [hnn] at hst hn25
      rw [e1, hd2]
      generalize dgv (cd 1) = n at *
      obtain ⟨hn2, hn5, -, -⟩ := hn25
      have m20 := M2.1
      rw [hst] at hp
      dsimp only at hp
      have fail : ∀ j h3 A3, j < pA n n + 4 * n → rst (ckT n) cd m (false, 2) j = (false, 2 + j) → ¬ (2 + j < m ∧ ckT n j (cd (2 + j)) = true) → MM h3 fl tr pl fa to (nI (F + (2 + j))) (nI n) dF' dT dS rd A3 L → Fr 61 82 h h3 → (∀ j, ¬ (70 ≤ j ∧ j ≤ 73) → A3 j = A j) → (∀ p, p < 5 → A3 73 (6 * p) = 0) → P (some (.int 0)) h3 := by
        intro j h3 A3 hj hr hc M3 F3 hA3 hd3
        have e := y_fail hst hj hr hc
        rw [e] at hp
        dsimp only at hp
        rw [decide_eq_false (fun z => absurd z.1 (by decide))] at hp
        exact hp h3 A3 _ F3 M3 hA3 hd3 (fun z => absurd z (by decide))
      have places : ∀ e p h3 A3 o3 o4, p + e = n → MM h3 fl tr pl fa to (nI (F + (2 + (pA n n + 4 * p)))) (nI n) dF' dT dS rd A3 L → Fr 61 82 h h3 → (∀ j, ¬ (70 ≤ j ∧ j ≤ 73) → A3 j = A j) → (∀ p, p < 5 → A3 73 (6 * p) = 0) → rst (ckT n) cd m (false, 2) (pA n n + 4 * p) = (false, 2 + (pA n n + 4 * p)) → (∀ q, q < p → A3 70 q = nI (yk cd n q) ∧ A3 71 q = nI (yw cd n q) ∧ A3 72 q = nI (yh cd n q)) → (∀ p q, p < n → q < n → A3 73 (5 * p + q) = nI (ya cd n p q)) → Z h3 123 [some (.ref 61), some (.int (nI (F + m))), some (.int (nI p)), o3, o4] [] := by
        intro e
        induction e with
        | zero =>
          intro p h3 A3 o3 o4 hpe M3 F3 hA3 hd3 hr hpl hpa
          have m30 := M3.1
          have epn : p = n := by omega
          subst epn
          have hple := pA_le hn5
          have hye : yEnd cd m = (false, 2 + (pA p p + 4 * p)) := by
            unfold yEnd
            rw [hst]
            exact hr
          rw [hye] at hp
          dsimp only at hp
          have hp := hp h3 A3 _ F3 M3 hA3 hd3 (fun _ => ⟨rfl, hpl, hpa⟩)
          repeat (first | refine hZ _ _ _ _ ⟨rfl, ?_⟩ | refine hZ _ _ _ _ ⟨_, _, (by repeat (first | exact up_s | assumption | refine up_n (by omega) ?_)), adl (by omega), (by rfl), ?_⟩ | refine hZ _ _ _ _ ⟨_, _, (by repeat (first | exact up_s | assumption | refine up_n (by omega) ?_)), adl (by omega), (by first | assumption | exact vp_in_nI (by omega) (by omega)), ?_⟩ | refine hZ _ _ _ _ ⟨_, (by repeat (first | exact up_s | assumption | refine up_n (by omega) ?_)), adl (by omega), (by rfl), trivial, ?_⟩ | refine hZ _ _ _ _ ⟨trivial, ?_⟩ | refine hZ _ _ _ _ ⟨_, _, _, _, (by repeat (first | exact up_s | assumption | refine up_n (by omega) ?_)), (by first | exact Or.inr (Or.inr rfl) | exact Or.inr (Or.inl rfl) | exact Or.inl rfl), adl (by omega), (by first | assumption | exact vp_in_nI (by omega) (by omega)), (by first | exact rowsF_at (by omega) | exact shF_at (by omega)), ?_⟩ | refine hZ _ _ _ _ ?_)
          refine ⟨fun c => ?_, fun c => absurd (nI_le (by omega) (by omega)) c⟩
          repeat (first | refine hZ _ _ _ _ ⟨rfl, ?_⟩ | refine hZ _ _ _ _ ⟨_, _, (by repeat (first | exact up_s | assumption | refine up_n (by omega) ?_)), adl (by omega), (by rfl), ?_⟩ | refine hZ _ _ _ _ ⟨_, _, (by repeat (first | exact up_s | assumption | refine up_n (by omega) ?_)), adl (by omega), (by first | assumption | exact vp_in_nI (by omega) (by omega)), ?_⟩ | refine hZ _ _ _ _ ⟨_, (by repeat (first | exact up_s | assumption | refine up_n (by omega) ?_)), adl (by omega), (by rfl), trivial, ?_⟩ | refine hZ _ _ _ _ ⟨trivial, ?_⟩ | refine hZ _ _ _ _ ⟨_, _, _, _, (by repeat (first | exact up_s | assumption | refine up_n (by omega) ?_)), (by first | exact Or.inr (Or.inr rfl) | exact Or.inr (Or.inl rfl) | exact Or.inl rfl), adl (by omega), (by first | assumption | exact vp_in_nI (by omega) (by omega)), (by first | exact rowsF_at (by omega) | exact shF_at (by omega)), ?_⟩ | refine hZ _ _ _ _ ?_)
          by_cases he : 2 + (pA p p + 4 * p) = m
          · rw [decide_eq_true ⟨rfl, he⟩] at hp
            refine ⟨fun c => absurd (by rw [he]) c, fun c => ?_⟩
            repeat (first | refine hZ _ _ _ _ ⟨rfl, ?_⟩ | refine hZ _ _ _ _ ⟨_, _, (by repeat (first | exact up_s | assumption | refine up_n (by omega) ?_)), adl (by omega), (by rfl), ?_⟩ | refine hZ _ _ _ _ ⟨_, _, (by repeat (first | exact up_s | assumption | refine up_n (by omega) ?_)), adl (by omega), (by first | assumption | exact vp_in_nI (by omega) (by omega)), ?_⟩ | refine hZ _ _ _ _ ⟨_, (by repeat (first | exact up_s | assumption | refine up_n (by omega) ?_)), adl (by omega), (by rfl), trivial, ?_⟩ | refine hZ _ _ _ _ ⟨trivial, ?_⟩ | refine hZ _ _ _ _ ⟨_, _, _, _, (by repeat (first | exact up_s | assumption | refine up_n (by omega) ?_)), (by first | exact Or.inr (Or.inr rfl) | exact Or.inr (Or.inl rfl) | exact Or.inl rfl), adl (by omega), (by first | assumption | exact vp_in_nI (by omega) (by omega)), (by first | exact rowsF_at (by omega) | exact shF_at (by omega)), ?_⟩ | refine hZ _ _ _ _ ?_)
            exact hp
          · rw [decide_eq_false (fun z => he z.2)] at hp
            refine ⟨fun c => ?_, fun c => absurd ((nI_eq (by omega) (by omega)).mp c) (by omega)⟩
            repeat (first | refine hZ _ _ _ _ ⟨rfl, ?_⟩ | refine hZ _ _ _ _ ⟨_, _, (by repeat (first | exact up_s | assumption | refine up_n (by omega) ?_)), adl (by omega), (by rfl), ?_⟩ | refine hZ _ _ _ _ ⟨_, _, (by repeat (first | exact up_s | assumption | refine up_n (by omega) ?_)), adl (by omega), (by first | assumption | exact vp_in_nI (by omega) (by omega)), ?_⟩ | refine hZ _ _ _ _ ⟨_, (by repeat (first | exact up_s | assumption | refine up_n (by omega) ?_)), adl (by omega), (by rfl), trivial, ?_⟩ | refine hZ _ _ _ _ ⟨trivial, ?_⟩ | refine hZ _ _ _ _ ⟨_, _, _, _, (by repeat (first | exact up_s | assumption | refine up_n (by omega) ?_)), (by first | exact Or.inr (Or.inr rfl) | exact Or.inr (Or.inl rfl) | exact Or.inl rfl), adl (by omega), (by first | assumption | exact vp_in_nI (by omega) (by omega)), (by first | exact rowsF_at (by omega) | exact shF_at (by omega)), ?_⟩ | refine hZ _ _ _ _ ?_)
            exact hp
        | succ e ih =>
          intro p h3 A3 o3 o4 hpe M3 F3 hA3 hd3 hr hpl hpa
          have m30 := M3.1
          have hple := pA_le hn5
          have e64 : A3 64 = A 64 := hA3 64 (by omega)
          repeat (first | refine hZ _ _ _ _ ⟨rfl, ?_⟩ | refine hZ _ _ _ _ ⟨_, _, (by repeat (first | exact up_s | assumption | refine up_n (by omega) ?_)), adl (by omega), (by rfl), ?_⟩ | refine hZ _ _ _ _ ⟨_, _, (by repeat (first | exact up_s | assumption | refine up_n (by omega) ?_)), adl (by omega), (by first | assumption | exact vp_in_nI (by omega) (by omega)), ?_⟩ | refine hZ _ _ _ _ ⟨_, (by repeat (first | exact up_s | assumption | refine up_n (by omega) ?_)), adl (by omega), (by rfl), trivial, ?_⟩ | refine hZ _ _ _ _ ⟨trivial, ?_⟩ | refine hZ _ _ _ _ ⟨_, _, _, _, (by repeat (first | exact up_s | assumption | refine up_n (by omega) ?_)), (by first | exact Or.inr (Or.inr rfl) | exact Or.inr (Or.inl rfl) | exact Or.inl rfl), adl (by omega), (by first | assumption | exact vp_in_nI (by omega) (by omega)), (by first | exact rowsF_at (by omega) | exact shF_at (by omega)), ?_⟩ | refine hZ _ _ _ _ ?_)
          refine ⟨fun c => absurd c (nI_ge (by omega) (by omega)), fun c => ?_⟩
          iterate 3 (first | refine hZ _ _ _ _ ⟨rfl, ?_⟩ | refine hZ _ _ _ _ ⟨_, _, (by repeat (first | exact up_s | assumption | refine up_n (by omega) ?_)), adl (by omega), (by rfl), ?_⟩ | refine hZ _ _ _ _ ⟨_, _, (by repeat (first | exact up_s | assumption | refine up_n (by omega) ?_)), adl (by omega), (by first | assumption | exact vp_in_nI (by omega) (by omega)), ?_⟩ | refine hZ _ _ _ _ ⟨_, (by repeat (first | exact up_s | assumption | refine up_n (by omega) ?_)), adl (by omega), (by rfl), trivial, ?_⟩ | refine hZ _ _ _ _ ⟨trivial, ?_⟩ | refine hZ _ _ _ _ ⟨_, _, _, _, (by repeat (first | exact up_s | assumption | refine up_n (by omega) ?_)), (by first | exact Or.inr (Or.inr rfl) | exact Or.inr (Or.inl rfl) | exact Or.inl rfl), adl (by omega), (by first | assumption | exact vp_in_nI (by omega) (by omega)), (by first | exact rowsF_at (by omega) | exact shF_at (by omega)), ?_⟩ | refine hZ _ _ _ _ ?_)
          show Z _ 135 _ _
          rw [lb59]
          refine hZ _ _ _ _ ⟨⟨_, (by repeat (first | exact up_s | assumption | refine up_n (by omega) ?_))⟩, adl (by omega), rfl, ?_⟩
          refine m_sign M3 (by omega) (by omega) (fun hc2 h4 F4 M4 => ?_) (fun hc2 => ?_)
          · show Z h4 138 [some (.ref 61), some (.int (nI (F + m))), some (.int (nI p)), o3, o4] [.int 1]
            rw [e64] at hc2
            have k0 : 2 + (pA n n + 4 * p) < m ∧ ckT n (pA n n + 4 * p) (cd (2 + (pA n n + 4 * p))) = true := by
              refine ⟨by omega, ?_⟩
              rw [ck_0, ← hcd _ (by omega)]
              exact decide_eq_true hc2.2
            have r1 := y_step hr k0
            have m40 := M4.1
            repeat (first | refine hZ _ _ _ _ ⟨rfl, ?_⟩ | refine hZ _ _ _ _ ⟨_, _, (by repeat (first | exact up_s | assumption | refine up_n (by omega) ?_)), adl (by omega), (by rfl), ?_⟩ | refine hZ _ _ _ _ ⟨_, _, (by repeat (first | exact up_s | assumption | refine up_n (by omega) ?_)), adl (by omega), (by first | assumption | exact vp_in_nI (by omega) (by omega)), ?_⟩ | refine hZ _ _ _ _ ⟨_, (by repeat (first | exact up_s | assumption | refine up_n (by omega) ?_)), adl (by omega), (by rfl), trivial, ?_⟩ | refine hZ _ _ _ _ ⟨trivial, ?_⟩ | refine hZ _ _ _ _ ⟨_, _, _, _, (by repeat (first | exact up_s | assumption | refine up_n (by omega) ?_)), (by first | exact Or.inr (Or.inr rfl) | exact Or.inr (Or.inl rfl) | exact Or.inl rfl), adl (by omega), (by first | assumption | exact vp_in_nI (by omega) (by omega)), (by first | exact rowsF_at (by omega) | exact shF_at (by omega)), ?_⟩ | refine hZ _ _ _ _ ?_)
            refine ⟨fun c => absurd c (by decide), fun c => ?_⟩
            iterate 3 (first | refine hZ _ _ _ _ ⟨rfl, ?_⟩ | refine hZ _ _ _ _ ⟨_, _, (by repeat (first | exact up_s | assumption | refine up_n (by omega) ?_)), adl (by omega), (by rfl), ?_⟩ | refine hZ _ _ _ _ ⟨_, _, (by repeat (first | exact up_s | assumption | refine up_n (by omega) ?_)), adl (by omega), (by first | assumption | exact vp_in_nI (by omega) (by omega)), ?_⟩ | refine hZ _ _ _ _ ⟨_, (by repeat (first | exact up_s | assumption | refine up_n (by omega) ?_)), adl (by omega), (by rfl), trivial, ?_⟩ | refine hZ _ _ _ _ ⟨trivial, ?_⟩ | refine hZ _ _ _ _ ⟨_, _, _, _, (by repeat (first | exact up_s | assumption | refine up_n (by omega) ?_)), (by first | exact Or.inr (Or.inr rfl) | exact Or.inr (Or.inl rfl) | exact Or.inl rfl), adl (by omega), (by first | assumption | exact vp_in_nI (by omega) (by omega)), (by first | exact rowsF_at (by omega) | exact shF_at (by omega)), ?_⟩ | refine hZ _ _ _ _ ?_)
            show Z _ 144 _ _
            refine hZ _ _ _ _ ⟨⟨_, (by repeat (first | exact up_s | assumption | refine up_n (by omega) ?_))⟩, adl (by omega), rfl, ?_⟩
            refine m_readPlace M4 (by omega) (by omega) (by omega) (fun g1 g2 g3 h5 F5 M5 => ?_) (fun h5 A5 t5 F5 M5 hA5 hcs => ?_)
            · show Z h5 147 [some (.ref 61), some (.int (nI (F + m))), some (.int (nI p)), o3, o4] [.int 1]
              rw [e64] at g1 g2 g3 M5
              have b1 := hcd (2 + (pA n n + 4 * p + 1)) (by omega)
              have b2 := hcd (2 + (pA n n + 4 * p + 2)) (by omega)
              have b3 := hcd (2 + (pA n n + 4 * p + 3)) (by omega)
              rw [show F + (2 + (pA n n + 4 * p)) + 1 = F + (2 + (pA n n + 4 * p + 1)) by omega] at g1 g2 g3 M5
              rw [show F + (2 + (pA n n + 4 * p + 1)) + 1 = F + (2 + (pA n n + 4 * p + 2)) by omega] at g2 M5
              rw [show F + (2 + (pA n n + 4 * p + 1)) + 2 = F + (2 + (pA n n + 4 * p + 3)) by omega] at g3 M5
              rw [show F + (2 + (pA n n + 4 * p + 1)) + 3 = F + (2 + (pA n n + 4 * (p + 1))) by omega] at M5
              rw [b1] at g1 M5
              rw [b2] at g2 M5
              rw [b3] at g3 M5
              have r2 := y_step r1 ⟨by omega, by rw [ck_1]; exact g1.2⟩
              have r3 := y_step r2 ⟨by omega, by rw [ck_2]; exact g2.2⟩
              have r4 := y_step r3 ⟨by omega, by rw [ck_3]; exact g3.2⟩
              repeat (first | refine hZ _ _ _ _ ⟨rfl, ?_⟩ | refine hZ _ _ _ _ ⟨_, _, (by repeat (first | exact up_s | assumption | refine up_n (by omega) ?_)), adl (by omega), (by rfl), ?_⟩ | refine hZ _ _ _ _ ⟨_, _, (by repeat (first | exact up_s | assumption | refine up_n (by omega) ?_)), adl (by omega), (by first | assumption | exact vp_in_nI (by omega) (by omega)), ?_⟩ | refine hZ _ _ _ _ ⟨_, (by repeat (first | exact up_s | assumption | refine up_n (by omega) ?_)), adl (by omega), (by rfl), trivial, ?_⟩ | refine hZ _ _ _ _ ⟨trivial, ?_⟩ | refine hZ _ _ _ _ ⟨_, _, _, _, (by repeat (first | exact up_s | assumption | refine up_n (by omega) ?_)), (by first | exact Or.inr (Or.inr rfl) | exact Or.inr (Or.inl rfl) | exact Or.inl rfl), adl (by omega), (by first | assumption | exact vp_in_nI (by omega) (by omega)), (by first | exact rowsF_at (by omega) | exact shF_at (by omega)), ?_⟩ | refine hZ _ _ _ _ ?_)
              refine ⟨fun c => ?_, fun c => absurd c (by decide)⟩
              iterate 2 (first | refine hZ _ _ _ _ ⟨rfl, ?_⟩ | refine hZ _ _ _ _ ⟨_, _, (by repeat (first | exact up_s | assumption | refine up_n (by omega) ?_)), adl (by omega), (by rfl), ?_⟩ | refine hZ _ _ _ _ ⟨_, _, (by repeat (first | exact up_s | assumption | refine up_n (by omega) ?_)), adl (by omega), (by first | assumption | exact vp_in_nI (by omega) (by omega)), ?_⟩ | refine hZ _ _ _ _ ⟨_, (by repeat (first | exact up_s | assumption | refine up_n (by omega) ?_)), adl (by omega), (by rfl), trivial, ?_⟩ | refine hZ _ _ _ _ ⟨trivial, ?_⟩ | refine hZ _ _ _ _ ⟨_, _, _, _, (by repeat (first | exact up_s | assumption | refine up_n (by omega) ?_)), (by first | exact Or.inr (Or.inr rfl) | exact Or.inr (Or.inl rfl) | exact Or.inl rfl), adl (by omega), (by first | assumption | exact vp_in_nI (by omega) (by omega)), (by first | exact rowsF_at (by omega) | exact shF_at (by omega)), ?_⟩ | refine hZ _ _ _ _ ?_)
              show Z _ 123 _ _
              rw [nI_inc]
              refine ih (p + 1) h5 _ _ _ (by omega) M5 ((F3.tr F4).tr F5) (fun j hj => ?_) hd3 r4 (fun q hq => ?_) hpa
              · rw [updA_n (by omega), updA_n (by omega), updA_n (by omega)]; exact hA3 j hj
              · show upd (A3 70) p (nI (ktL _)) q = _ ∧ upd (A3 71) p (nI (dgv _)) q = _ ∧ upd (A3 72) p (nI (dgv _)) q = _
                by_cases e9 : q = p
                · rw [upd_s e9, upd_s e9, upd_s e9, e9]
                  exact ⟨rfl, rfl, rfl⟩
                · rw [pk_un e9, pk_un e9, pk_un e9]
                  exact hpl q (by omega)
            · show Z h5 147 [some (.ref 61), some (.int (nI (F + m))), some (.int (nI p)), o3, o4] [.int 0]
              rw [e64] at hcs
              have hA5' : ∀ j, ¬ (70 ≤ j ∧ j ≤ 73) → A5 j = A j := fun j hj => (hA5 j (by omega) (by omega) (by omega)).trans (hA3 j hj)
              have hd5 : ∀ p, p < 5 → A5 73 (6 * p) = 0 := by
                rw [hA5 73 (by decide) (by decide) (by decide)]
                exact hd3
              have hfin : P (some (.int 0)) h5 := by
                rw [show F + (2 + (pA n n + 4 * p)) + 1 = F + (2 + (pA n n + 4 * p + 1)) by omega] at hcs
                rw [show F + (2 + (pA n n + 4 * p + 1)) + 1 = F + (2 + (pA n n + 4 * p + 2)) by omega] at hcs
                rw [show F + (2 + (pA n n + 4 * p + 1)) + 2 = F + (2 + (pA n n + 4 * p + 3)) by omega] at hcs
                have F15 := (F3.tr F4).tr F5
                have conv : ∀ {i : Nat} {ck : Int32 → Bool}, ¬ (F + i < F + m ∧ ck (A 64 (F + i)) = true) → ¬ (i < m ∧ ck (cd i) = true) := fun hn hz => hn ⟨by omega, by rw [hcd _ hz.1]; exact hz.2⟩
                have conv2 : ∀ {i : Nat} {ck : Int32 → Bool}, (F + i < F + m ∧ ck (A 64 (F + i)) = true) → i < m ∧ ck (cd i) = true := fun hz => ⟨by omega, by rw [← hcd _ (by omega)]; exact hz.2⟩
                rcases hcs with ⟨et, g1⟩ | ⟨et, g1, g2⟩ | ⟨et, g1, g2, g3⟩
                · subst et
                  refine fail (pA n n + 4 * p + 1) h5 A5 (by omega) r1 (fun z => conv g1 ⟨z.1, ?_⟩) M5 F15 hA5' hd5
                  rw [← ck_1 (n := n) (p := p)]; exact z.2
                · subst et
                  have g1 := conv2 g1
                  have r2 := y_step r1 ⟨g1.1, by rw [ck_1]; exact g1.2⟩
                  refine fail (pA n n + 4 * p + 2) h5 A5 (by omega) r2 (fun z => conv g2 ⟨z.1, ?_⟩) M5 F15 hA5' hd5
                  rw [← ck_2 (n := n) (p := p)]; exact z.2
                · subst et
                  have g1 := conv2 g1
                  have g2 := conv2 g2
                  have r2 := y_step r1 ⟨g1.1, by rw [ck_1]; exact g1.2⟩
                  have r3 := y_step r2 ⟨g2.1, by rw [ck_2]; exact g2.2⟩
                  refine fail (pA n n + 4 * p + 3) h5 A5 (by omega) r3 (fun z => conv g3 ⟨z.1, ?_⟩) M5 F15 hA5' hd5
                  rw [← ck_3 (n := n) (p := p)]; exact z.2
              repeat (first | refine hZ _ _ _ _ ⟨rfl, ?_⟩ | refine hZ _ _ _ _ ⟨_, _, (by repeat (first | exact up_s | assumption | refine up_n (by omega) ?_)), adl (by omega), (by rfl), ?_⟩ | refine hZ _ _ _ _ ⟨_, _, (by repeat (first | exact up_s | assumption | refine up_n (by omega) ?_)), adl (by omega), (by first | assumption | exact vp_in_nI (by omega) (by omega)), ?_⟩ | refine hZ _ _ _ _ ⟨_, (by repeat (first | exact up_s | assumption | refine up_n (by omega) ?_)), adl (by omega), (by rfl), trivial, ?_⟩ | refine hZ _ _ _ _ ⟨trivial, ?_⟩ | refine hZ _ _ _ _ ⟨_, _, _, _, (by repeat (first | exact up_s | assumption | refine up_n (by omega) ?_)), (by first | exact Or.inr (Or.inr rfl) | exact Or.inr (Or.inl rfl) | exact Or.inl rfl), adl (by omega), (by first | assumption | exact vp_in_nI (by omega) (by omega)), (by first | exact rowsF_at (by omega) | exact shF_at (by omega)), ?_⟩ | refine hZ _ _ _ _ ?_)
              refine ⟨fun c => absurd rfl c, fun c => ?_⟩
              repeat (first | refine hZ _ _ _ _ ⟨rfl, ?_⟩ | refine hZ _ _ _ _ ⟨_, _, (by repeat (first | exact up_s | assumption | refine up_n (by omega) ?_)), adl (by omega), (by rfl), ?_⟩ | refine hZ _ _ _ _ ⟨_, _, (by repeat (first | exact up_s | assumption | refine up_n (by omega) ?_)), adl (by omega), (by first | assumption | exact vp_in_nI (by omega) (by omega)), ?_⟩ | refine hZ _ _ _ _ ⟨_, (by repeat (first | exact up_s | assumption | refine up_n (by omega) ?_)), adl (by omega), (by rfl), trivial, ?_⟩ | refine hZ _ _ _ _ ⟨trivial, ?_⟩ | refine hZ _ _ _ _ ⟨_, _, _, _, (by repeat (first | exact up_s | assumption | refine up_n (by omega) ?_)), (by first | exact Or.inr (Or.inr rfl) | exact Or.inr (Or.inl rfl) | exact Or.inl rfl), adl (by omega), (by first | assumption | exact vp_in_nI (by omega) (by omega)), (by first | exact rowsF_at (by omega) | exact shF_at (by omega)), ?_⟩ | refine hZ _ _ _ _ ?_)
              exact hfin
          · show Z h3 138 [some (.ref 61), some (.int (nI (F + m))), some (.int (nI p)), o3, o4] [.int 0]
            rw [e64] at hc2
            have hfin := fail (pA n n + 4 * p) h3 A3 (by omega) hr (fun z => hc2 ⟨by omega, by
              have := z.2
              rw [ck_0, ← hcd _ z.1] at this
              exact of_decide_eq_true this⟩) M3 F3 hA3 hd3
            repeat (first | refine hZ _ _ _ _ ⟨rfl, ?_⟩ | refine hZ _ _ _ _ ⟨_, _, (by repeat (first | exact up_s | assumption | refine up_n (by omega) ?_)), adl (by omega), (by rfl), ?_⟩ | refine hZ _ _ _ _ ⟨_, _, (by repeat (first | exact up_s | assumption | refine up_n (by omega) ?_)), adl (by omega), (by first | assumption | exact vp_in_nI (by omega) (by omega)), ?_⟩ | refine hZ _ _ _ _ ⟨_, (by repeat (first | exact up_s | assumption | refine up_n (by omega) ?_)), adl (by omega), (by rfl), trivial, ?_⟩ | refine hZ _ _ _ _ ⟨trivial, ?_⟩ | refine hZ _ _ _ _ ⟨_, _, _, _, (by repeat (first | exact up_s | assumption | refine up_n (by omega) ?_)), (by first | exact Or.inr (Or.inr rfl) | exact Or.inr (Or.inl rfl) | exact Or.inl rfl), adl (by omega), (by first | assumption | exact vp_in_nI (by omega) (by omega)), (by first | exact rowsF_at (by omega) | exact shF_at (by omega)), ?_⟩ | refine hZ _ _ _ _ ?_)
            refine ⟨fun c => ?_, fun c => absurd rfl c⟩
            repeat (first | refine hZ _ _ _ _ ⟨rfl, ?_⟩ | refine hZ _ _ _ _ ⟨_, _, (by repeat (first | exact up_s | assumption | refine up_n (by omega) ?_)), adl (by omega), (by rfl), ?_⟩ | refine hZ _ _ _ _ ⟨_, _, (by repeat (first | exact up_s | assumption | refine up_n (by omega) ?_)), adl (by omega), (by first | assumption | exact vp_in_nI (by omega) (by omega)), ?_⟩ | refine hZ _ _ _ _ ⟨_, (by repeat (first | exact up_s | assumption | refine up_n (by omega) ?_)), adl (by omega), (by rfl), trivial, ?_⟩ | refine hZ _ _ _ _ ⟨trivial, ?_⟩ | refine hZ _ _ _ _ ⟨_, _, _, _, (by repeat (first | exact up_s | assumption | refine up_n (by omega) ?_)), (by first | exact Or.inr (Or.inr rfl) | exact Or.inr (Or.inl rfl) | exact Or.inl rfl), adl (by omega), (by first | assumption | exact vp_in_nI (by omega) (by omega)), (by first | exact rowsF_at (by omega) | exact shF_at (by omega)), ?_⟩ | refine hZ _ _ _ _ ?_)
            exact hfin
      have pairs : ∀ e a h3 A3 o3 o4, a + e = n → MM h3 fl tr pl fa to (nI (F + (2 + pA n a))) (nI n) dF' dT dS rd A3 L → Fr 61 82 h h3 → (∀ j, ¬ (70 ≤ j ∧ j ≤ 73) → A3 j = A j) → (∀ p, p < 5 → A3 73 (6 * p) = 0) → rst (ckT n) cd m (false, 2) (pA n a) = (false, 2 + pA n a) → (∀ p q, p < n → q < n → (p < a ∨ q < a) → A3 73 (5 * p + q) = nI (ya cd n p q)) → Z h3 36 [some (.ref 61), some (.int (nI (F + m))), some (.int (nI a)), o3, o4] [] := by
        intro e
        induction e with
        | zero =>
          intro a h3 A3 o3 o4 hae M3 F3 hA3 hd3 hr hpa
          have m30 := M3.1
          repeat (first | refine hZ _ _ _ _ ⟨rfl, ?_⟩ | refine hZ _ _ _ _ ⟨_, _, (by repeat (first | exact up_s | assumption | refine up_n (by omega) ?_)), adl (by omega), (by rfl), ?_⟩ | refine hZ _ _ _ _ ⟨_, _, (by repeat (first | exact up_s | assumption | refine up_n (by omega) ?_)), adl (by omega), (by first | assumption | exact vp_in_nI (by omega) (by omega)), ?_⟩ | refine hZ _ _ _ _ ⟨_, (by repeat (first | exact up_s | assumption | refine up_n (by omega) ?_)), adl (by omega), (by rfl), trivial, ?_⟩ | refine hZ _ _ _ _ ⟨trivial, ?_⟩ | refine hZ _ _ _ _ ⟨_, _, _, _, (by repeat (first | exact up_s | assumption | refine up_n (by omega) ?_)), (by first | exact Or.inr (Or.inr rfl) | exact Or.inr (Or.inl rfl) | exact Or.inl rfl), adl (by omega), (by first | assumption | exact vp_in_nI (by omega) (by omega)), (by first | exact rowsF_at (by omega) | exact shF_at (by omega)), ?_⟩ | refine hZ _ _ _ _ ?_)
          refine ⟨fun c => ?_, fun c => absurd (nI_le (by omega) (by omega)) c⟩
          iterate 2 (first | refine hZ _ _ _ _ ⟨rfl, ?_⟩ | refine hZ _ _ _ _ ⟨_, _, (by repeat (first | exact up_s | assumption | refine up_n (by omega) ?_)), adl (by omega), (by rfl), ?_⟩ | refine hZ _ _ _ _ ⟨_, _, (by repeat (first | exact up_s | assumption | refine up_n (by omega) ?_)), adl (by omega), (by first | assumption | exact vp_in_nI (by omega) (by omega)), ?_⟩ | refine hZ _ _ _ _ ⟨_, (by repeat (first | exact up_s | assumption | refine up_n (by omega) ?_)), adl (by omega), (by rfl), trivial, ?_⟩ | refine hZ _ _ _ _ ⟨trivial, ?_⟩ | refine hZ _ _ _ _ ⟨_, _, _, _, (by repeat (first | exact up_s | assumption | refine up_n (by omega) ?_)), (by first | exact Or.inr (Or.inr rfl) | exact Or.inr (Or.inl rfl) | exact Or.inl rfl), adl (by omega), (by first | assumption | exact vp_in_nI (by omega) (by omega)), (by first | exact rowsF_at (by omega) | exact shF_at (by omega)), ?_⟩ | refine hZ _ _ _ _ ?_)
          show Z _ 123 _ _
          rw [lit_0]
          have ean : a = n := by omega
          subst ean
          exact places a 0 h3 A3 _ _ (by omega) M3 F3 hA3 hd3 hr (fun q hq => by omega) (fun p q h1 h2 => hpa p q h1 h2 (Or.inl h1))
        | succ e ih =>
          intro a h3 A3 o3 o4 hae M3 F3 hA3 hd3 hr hpa
          have m30 := M3.1
          have m373 := M3.at (j := 73) (m := 25) (by omega) (by omega) (by omega) rfl
          have hple := pA_le hn5
          have inner : ∀ e2 b h4 A4 o4, b + e2 = n → a < b → MM h4 fl tr pl fa to (nI (F + (2 + (pA n a + (b - a - 1))))) (nI n) dF' dT dS rd A4 L → Fr 61 82 h h4 → (∀ j, ¬ (70 ≤ j ∧ j ≤ 73) → A4 j = A j) → (∀ p, p < 5 → A4 73 (6 * p) = 0) → rst (ckT n) cd m (false, 2) (pA n a + (b - a - 1)) = (false, 2 + (pA n a + (b - a - 1))) → (∀ p q, p < n → q < n → (p < a ∨ q < a ∨ (p = a ∧ q < b) ∨ (q = a ∧ p < b)) → A4 73 (5 * p + q) = nI (ya cd n p q)) → Z h4 59 [some (.ref 61), some (.int (nI (F + m))), some (.int (nI a)), some (.int (nI b)), o4] [] := by
            intro e2
            induction e2 with
            | zero =>
              intro b h4 A4 o4 hbe hab M4 F4 hA4 hd4 hr4 hpa4
              have m40 := M4.1
              rw [show pA n a + (b - a - 1) = pA n (a + 1) by show _ = pA n a + (n - 1 - a); omega] at M4 hr4
              repeat (first | refine hZ _ _ _ _ ⟨rfl, ?_⟩ | refine hZ _ _ _ _ ⟨_, _, (by repeat (first | exact up_s | assumption | refine up_n (by omega) ?_)), adl (by omega), (by rfl), ?_⟩ | refine hZ _ _ _ _ ⟨_, _, (by repeat (first | exact up_s | assumption | refine up_n (by omega) ?_)), adl (by omega), (by first | assumption | exact vp_in_nI (by omega) (by omega)), ?_⟩ | refine hZ _ _ _ _ ⟨_, (by repeat (first | exact up_s | assumption | refine up_n (by omega) ?_)), adl (by omega), (by rfl), trivial, ?_⟩ | refine hZ _ _ _ _ ⟨trivial, ?_⟩ | refine hZ _ _ _ _ ⟨_, _, _, _, (by repeat (first | exact up_s | assumption | refine up_n (by omega) ?_)), (by first | exact Or.inr (Or.inr rfl) | exact Or.inr (Or.inl rfl) | exact Or.inl rfl), adl (by omega), (by first | assumption | exact vp_in_nI (by omega) (by omega)), (by first | exact rowsF_at (by omega) | exact shF_at (by omega)), ?_⟩ | refine hZ _ _ _ _ ?_)
              refine ⟨fun c => ?_, fun c => absurd (nI_le (by omega) (by omega)) c⟩
              iterate 2 (first | refine hZ _ _ _ _ ⟨rfl, ?_⟩ | refine hZ _ _ _ _ ⟨_, _, (by repeat (first | exact up_s | assumption | refine up_n (by omega) ?_)), adl (by omega), (by rfl), ?_⟩ | refine hZ _ _ _ _ ⟨_, _, (by repeat (first | exact up_s | assumption | refine up_n (by omega) ?_)), adl (by omega), (by first | assumption | exact vp_in_nI (by omega) (by omega)), ?_⟩ | refine hZ _ _ _ _ ⟨_, (by repeat (first | exact up_s | assumption | refine up_n (by omega) ?_)), adl (by omega), (by rfl), trivial, ?_⟩ | refine hZ _ _ _ _ ⟨trivial, ?_⟩ | refine hZ _ _ _ _ ⟨_, _, _, _, (by repeat (first | exact up_s | assumption | refine up_n (by omega) ?_)), (by first | exact Or.inr (Or.inr rfl) | exact Or.inr (Or.inl rfl) | exact Or.inl rfl), adl (by omega), (by first | assumption | exact vp_in_nI (by omega) (by omega)), (by first | exact rowsF_at (by omega) | exact shF_at (by omega)), ?_⟩ | refine hZ _ _ _ _ ?_)
              show Z _ 36 _ _
              rw [nI_inc]
              refine ih (a + 1) h4 A4 _ _ (by omega) M4 F4 hA4 hd4 hr4 (fun p q h1 h2 h3 => hpa4 p q h1 h2 ?_)
              omega
            | succ e2 ih2 =>
              intro b h4 A4 o4 hbe hab M4 F4 hA4 hd4 hr4 hpa4
              have m40 := M4.1
              have hin := pA_in hab (show b < n by omega)
              have e64 : A4 64 = A 64 := hA4 64 (by omega)
              repeat (first | refine hZ _ _ _ _ ⟨rfl, ?_⟩ | refine hZ _ _ _ _ ⟨_, _, (by repeat (first | exact up_s | assumption | refine up_n (by omega) ?_)), adl (by omega), (by rfl), ?_⟩ | refine hZ _ _ _ _ ⟨_, _, (by repeat (first | exact up_s | assumption | refine up_n (by omega) ?_)), adl (by omega), (by first | assumption | exact vp_in_nI (by omega) (by omega)), ?_⟩ | refine hZ _ _ _ _ ⟨_, (by repeat (first | exact up_s | assumption | refine up_n (by omega) ?_)), adl (by omega), (by rfl), trivial, ?_⟩ | refine hZ _ _ _ _ ⟨trivial, ?_⟩ | refine hZ _ _ _ _ ⟨_, _, _, _, (by repeat (first | exact up_s | assumption | refine up_n (by omega) ?_)), (by first | exact Or.inr (Or.inr rfl) | exact Or.inr (Or.inl rfl) | exact Or.inl rfl), adl (by omega), (by first | assumption | exact vp_in_nI (by omega) (by omega)), (by first | exact rowsF_at (by omega) | exact shF_at (by omega)), ?_⟩ | refine hZ _ _ _ _ ?_)
              refine ⟨fun c => absurd c (nI_ge (by omega) (by omega)), fun c => ?_⟩
              iterate 4 (first | refine hZ _ _ _ _ ⟨rfl, ?_⟩ | refine hZ _ _ _ _ ⟨_, _, (by repeat (first | exact up_s | assumption | refine up_n (by omega) ?_)), adl (by omega), (by rfl), ?_⟩ | refine hZ _ _ _ _ ⟨_, _, (by repeat (first | exact up_s | assumption | refine up_n (by omega) ?_)), adl (by omega), (by first | assumption | exact vp_in_nI (by omega) (by omega)), ?_⟩ | refine hZ _ _ _ _ ⟨_, (by repeat (first | exact up_s | assumption | refine up_n (by omega) ?_)), adl (by omega), (by rfl), trivial, ?_⟩ | refine hZ _ _ _ _ ⟨trivial, ?_⟩ | refine hZ _ _ _ _ ⟨_, _, _, _, (by repeat (first | exact up_s | assumption | refine up_n (by omega) ?_)), (by first | exact Or.inr (Or.inr rfl) | exact Or.inr (Or.inl rfl) | exact Or.inl rfl), adl (by omega), (by first | assumption | exact vp_in_nI (by omega) (by omega)), (by first | exact rowsF_at (by omega) | exact shF_at (by omega)), ?_⟩ | refine hZ _ _ _ _ ?_)
              show Z _ 71 _ _
              rw [lit_0, lit_3]
              refine hZ _ _ _ _ ⟨⟨_, (by repeat (first | exact up_s | assumption | refine up_n (by omega) ?_))⟩, adl (by omega), rfl, ?_⟩
              refine m_dg M4 (by omega) (by omega) (by omega) (fun g1 h5 F5 M5 => ?_) (fun g1 => ?_)
              · show Z h5 74 [some (.ref 61), some (.int (nI (F + m))), some (.int (nI a)), some (.int (nI b)), o4] [.int (nI (dgv (A4 64 (F + (2 + (pA n a + (b - a - 1)))))))]
                rw [e64] at g1
                rw [e64, hcd _ (by omega)]
                rw [hcd _ (by omega)] at g1
                have hdv := (dg_val (by omega) g1.2).1
                have r2 := y_step hr4 ⟨by omega, by rw [ck_pair hin]; exact g1.2⟩
                have hyab : ya cd n a b = dgv (cd (2 + (pA n a + (b - a - 1)))) := by
                  unfold ya
                  rw [if_pos hab]
                  unfold yp
                  rw [Nat.add_assoc]
                generalize hD : dgv (cd (2 + (pA n a + (b - a - 1)))) = D at hdv hyab ⊢
                have m50 := M5.1
                have m573 := M5.at (j := 73) (m := 25) (by omega) (by omega) (by omega) rfl
                iterate 1 (first | refine hZ _ _ _ _ ⟨rfl, ?_⟩ | refine hZ _ _ _ _ ⟨_, _, (by repeat (first | exact up_s | assumption | refine up_n (by omega) ?_)), adl (by omega), (by rfl), ?_⟩ | refine hZ _ _ _ _ ⟨_, _, (by repeat (first | exact up_s | assumption | refine up_n (by omega) ?_)), adl (by omega), (by first | assumption | exact vp_in_nI (by omega) (by omega)), ?_⟩ | refine hZ _ _ _ _ ⟨_, (by repeat (first | exact up_s | assumption | refine up_n (by omega) ?_)), adl (by omega), (by rfl), trivial, ?_⟩ | refine hZ _ _ _ _ ⟨trivial, ?_⟩ | refine hZ _ _ _ _ ⟨_, _, _, _, (by repeat (first | exact up_s | assumption | refine up_n (by omega) ?_)), (by first | exact Or.inr (Or.inr rfl) | exact Or.inr (Or.inl rfl) | exact Or.inl rfl), adl (by omega), (by first | assumption | exact vp_in_nI (by omega) (by omega)), (by first | exact rowsF_at (by omega) | exact shF_at (by omega)), ?_⟩ | refine hZ _ _ _ _ ?_)
                show Z _ 76 _ _
                show Z h5 76 [some (.ref 61), some (.int (nI (F + m))), some (.int (nI a)), some (.int (nI b)), some (.int (nI D))] []
                repeat (first | refine hZ _ _ _ _ ⟨rfl, ?_⟩ | refine hZ _ _ _ _ ⟨_, _, (by repeat (first | exact up_s | assumption | refine up_n (by omega) ?_)), adl (by omega), (by rfl), ?_⟩ | refine hZ _ _ _ _ ⟨_, _, (by repeat (first | exact up_s | assumption | refine up_n (by omega) ?_)), adl (by omega), (by first | assumption | exact vp_in_nI (by omega) (by omega)), ?_⟩ | refine hZ _ _ _ _ ⟨_, (by repeat (first | exact up_s | assumption | refine up_n (by omega) ?_)), adl (by omega), (by rfl), trivial, ?_⟩ | refine hZ _ _ _ _ ⟨trivial, ?_⟩ | refine hZ _ _ _ _ ⟨_, _, _, _, (by repeat (first | exact up_s | assumption | refine up_n (by omega) ?_)), (by first | exact Or.inr (Or.inr rfl) | exact Or.inr (Or.inl rfl) | exact Or.inl rfl), adl (by omega), (by first | assumption | exact vp_in_nI (by omega) (by omega)), (by first | exact rowsF_at (by omega) | exact shF_at (by omega)), ?_⟩ | refine hZ _ _ _ _ ?_)
                rw [lbm9]
                refine ⟨fun c => ?_, fun c => absurd c (nI_m9 (by omega))⟩
                iterate 7 (first | refine hZ _ _ _ _ ⟨rfl, ?_⟩ | refine hZ _ _ _ _ ⟨_, _, (by repeat (first | exact up_s | assumption | refine up_n (by omega) ?_)), adl (by omega), (by rfl), ?_⟩ | refine hZ _ _ _ _ ⟨_, _, (by repeat (first | exact up_s | assumption | refine up_n (by omega) ?_)), adl (by omega), (by first | assumption | exact vp_in_nI (by omega) (by omega)), ?_⟩ | refine hZ _ _ _ _ ⟨_, (by repeat (first | exact up_s | assumption | refine up_n (by omega) ?_)), adl (by omega), (by rfl), trivial, ?_⟩ | refine hZ _ _ _ _ ⟨trivial, ?_⟩ | refine hZ _ _ _ _ ⟨_, _, _, _, (by repeat (first | exact up_s | assumption | refine up_n (by omega) ?_)), (by first | exact Or.inr (Or.inr rfl) | exact Or.inr (Or.inl rfl) | exact Or.inl rfl), adl (by omega), (by first | assumption | exact vp_in_nI (by omega) (by omega)), (by first | exact rowsF_at (by omega) | exact shF_at (by omega)), ?_⟩ | refine hZ _ _ _ _ ?_)
                show Z _ 94 _ _
                rw [lit_5, pk_mul, nI_add]
                iterate 2 (first | refine hZ _ _ _ _ ⟨rfl, ?_⟩ | refine hZ _ _ _ _ ⟨_, _, (by repeat (first | exact up_s | assumption | refine up_n (by omega) ?_)), adl (by omega), (by rfl), ?_⟩ | refine hZ _ _ _ _ ⟨_, _, (by repeat (first | exact up_s | assumption | refine up_n (by omega) ?_)), adl (by omega), (by first | assumption | exact vp_in_nI (by omega) (by omega)), ?_⟩ | refine hZ _ _ _ _ ⟨_, (by repeat (first | exact up_s | assumption | refine up_n (by omega) ?_)), adl (by omega), (by rfl), trivial, ?_⟩ | refine hZ _ _ _ _ ⟨trivial, ?_⟩ | refine hZ _ _ _ _ ⟨_, _, _, _, (by repeat (first | exact up_s | assumption | refine up_n (by omega) ?_)), (by first | exact Or.inr (Or.inr rfl) | exact Or.inr (Or.inl rfl) | exact Or.inl rfl), adl (by omega), (by first | assumption | exact vp_in_nI (by omega) (by omega)), (by first | exact rowsF_at (by omega) | exact shF_at (by omega)), ?_⟩ | refine hZ _ _ _ _ ?_)
                show Z _ 97 _ _
                rw [nI_clamp (show 5 * a + b < 2 ^ 31 by omega)]
                have M6 := M5.arr (k := 73) (m := 25) (f := upd (A4 73) (5 * a + b) (nI D)) (by omega) (by omega) (by omega) rfl
                generalize hh6 : va_up h5 73 _ = h6 at M6 ⊢
                have F6 : Fr 61 82 h h6 := by rw [← hh6]; exact (F4.tr F5).up (by omega) (by omega)
                have m60 := M6.1
                have m673 := M6.at (j := 73) (m := 25) (by omega) (by omega) (by omega) rfl
                rw [updA_s] at m673
                iterate 7 (first | refine hZ _ _ _ _ ⟨rfl, ?_⟩ | refine hZ _ _ _ _ ⟨_, _, (by repeat (first | exact up_s | assumption | refine up_n (by omega) ?_)), adl (by omega), (by rfl), ?_⟩ | refine hZ _ _ _ _ ⟨_, _, (by repeat (first | exact up_s | assumption | refine up_n (by omega) ?_)), adl (by omega), (by first | assumption | exact vp_in_nI (by omega) (by omega)), ?_⟩ | refine hZ _ _ _ _ ⟨_, (by repeat (first | exact up_s | assumption | refine up_n (by omega) ?_)), adl (by omega), (by rfl), trivial, ?_⟩ | refine hZ _ _ _ _ ⟨trivial, ?_⟩ | refine hZ _ _ _ _ ⟨_, _, _, _, (by repeat (first | exact up_s | assumption | refine up_n (by omega) ?_)), (by first | exact Or.inr (Or.inr rfl) | exact Or.inr (Or.inl rfl) | exact Or.inl rfl), adl (by omega), (by first | assumption | exact vp_in_nI (by omega) (by omega)), (by first | exact rowsF_at (by omega) | exact shF_at (by omega)), ?_⟩ | refine hZ _ _ _ _ ?_)
                show Z _ 106 _ _
                rw [lit_5, pk_mul, nI_add]
                iterate 4 (first | refine hZ _ _ _ _ ⟨rfl, ?_⟩ | refine hZ _ _ _ _ ⟨_, _, (by repeat (first | exact up_s | assumption | refine up_n (by omega) ?_)), adl (by omega), (by rfl), ?_⟩ | refine hZ _ _ _ _ ⟨_, _, (by repeat (first | exact up_s | assumption | refine up_n (by omega) ?_)), adl (by omega), (by first | assumption | exact vp_in_nI (by omega) (by omega)), ?_⟩ | refine hZ _ _ _ _ ⟨_, (by repeat (first | exact up_s | assumption | refine up_n (by omega) ?_)), adl (by omega), (by rfl), trivial, ?_⟩ | refine hZ _ _ _ _ ⟨trivial, ?_⟩ | refine hZ _ _ _ _ ⟨_, _, _, _, (by repeat (first | exact up_s | assumption | refine up_n (by omega) ?_)), (by first | exact Or.inr (Or.inr rfl) | exact Or.inr (Or.inl rfl) | exact Or.inl rfl), adl (by omega), (by first | assumption | exact vp_in_nI (by omega) (by omega)), (by first | exact rowsF_at (by omega) | exact shF_at (by omega)), ?_⟩ | refine hZ _ _ _ _ ?_)
                show Z _ 59 _ _
                rw [nI_inc, nI_clamp (show 5 * b + a < 2 ^ 31 by omega)]
                have M7 := M6.arr (k := 73) (m := 25) (f := upd (upd (A4 73) (5 * a + b) (nI D)) (5 * b + a) (nI D)) (by omega) (by omega) (by omega) rfl
                rw [show F + (2 + (pA n a + (b - a - 1))) + 1 = F + (2 + (pA n a + (b + 1 - a - 1))) by omega] at M7
                rw [show pA n a + (b - a - 1) + 1 = pA n a + (b + 1 - a - 1) by omega] at r2
                refine ih2 (b + 1) _ _ _ (by omega) (by omega) M7 (F6.up (by omega) (by omega)) (fun j hj => ?_) (fun p hp5 => ?_) r2 (fun p q h1 h2 h3 => ?_)
                · rw [updA_n (by omega), updA_n (by omega)]; exact hA4 j hj
                · rw [updA_s, pk_un (by omega), pk_un (by omega)]; exact hd4 p hp5
                · rw [updA_s]
                  by_cases q1 : p = b ∧ q = a
                  · rw [upd_s (by omega), q1.1, q1.2, ya_sym, hyab]
                  · rw [pk_un (by omega)]
                    by_cases q2 : p = a ∧ q = b
                    · rw [upd_s (by omega), q2.1, q2.2, hyab]
                    · rw [pk_un (by omega)]
                      exact hpa4 p q h1 h2 (by omega)
              · show Z h4 74 [some (.ref 61), some (.int (nI (F + m))), some (.int (nI a)), some (.int (nI b)), o4] [.int (-9)]
                rw [e64] at g1
                have hfin := fail (pA n a + (b - a - 1)) h4 A4 (by omega) hr4 (fun z => g1 ⟨by omega, by
                  have := z.2
                  rw [ck_pair hin, ← hcd _ z.1] at this
                  exact this⟩) M4 F4 hA4 hd4
                iterate 1 (first | refine hZ _ _ _ _ ⟨rfl, ?_⟩ | refine hZ _ _ _ _ ⟨_, _, (by repeat (first | exact up_s | assumption | refine up_n (by omega) ?_)), adl (by omega), (by rfl), ?_⟩ | refine hZ _ _ _ _ ⟨_, _, (by repeat (first | exact up_s | assumption | refine up_n (by omega) ?_)), adl (by omega), (by first | assumption | exact vp_in_nI (by omega) (by omega)), ?_⟩ | refine hZ _ _ _ _ ⟨_, (by repeat (first | exact up_s | assumption | refine up_n (by omega) ?_)), adl (by omega), (by rfl), trivial, ?_⟩ | refine hZ _ _ _ _ ⟨trivial, ?_⟩ | refine hZ _ _ _ _ ⟨_, _, _, _, (by repeat (first | exact up_s | assumption | refine up_n (by omega) ?_)), (by first | exact Or.inr (Or.inr rfl) | exact Or.inr (Or.inl rfl) | exact Or.inl rfl), adl (by omega), (by first | assumption | exact vp_in_nI (by omega) (by omega)), (by first | exact rowsF_at (by omega) | exact shF_at (by omega)), ?_⟩ | refine hZ _ _ _ _ ?_)
                show Z _ 76 _ _
                show Z h4 76 [some (.ref 61), some (.int (nI (F + m))), some (.int (nI a)), some (.int (nI b)), some (.int (-9))] []
                repeat (first | refine hZ _ _ _ _ ⟨rfl, ?_⟩ | refine hZ _ _ _ _ ⟨_, _, (by repeat (first | exact up_s | assumption | refine up_n (by omega) ?_)), adl (by omega), (by rfl), ?_⟩ | refine hZ _ _ _ _ ⟨_, _, (by repeat (first | exact up_s | assumption | refine up_n (by omega) ?_)), adl (by omega), (by first | assumption | exact vp_in_nI (by omega) (by omega)), ?_⟩ | refine hZ _ _ _ _ ⟨_, (by repeat (first | exact up_s | assumption | refine up_n (by omega) ?_)), adl (by omega), (by rfl), trivial, ?_⟩ | refine hZ _ _ _ _ ⟨trivial, ?_⟩ | refine hZ _ _ _ _ ⟨_, _, _, _, (by repeat (first | exact up_s | assumption | refine up_n (by omega) ?_)), (by first | exact Or.inr (Or.inr rfl) | exact Or.inr (Or.inl rfl) | exact Or.inl rfl), adl (by omega), (by first | assumption | exact vp_in_nI (by omega) (by omega)), (by first | exact rowsF_at (by omega) | exact shF_at (by omega)), ?_⟩ | refine hZ _ _ _ _ ?_)
                rw [lbm9]
                refine ⟨fun c => absurd rfl c, fun c => ?_⟩
                repeat (first | refine hZ _ _ _ _ ⟨rfl, ?_⟩ | refine hZ _ _ _ _ ⟨_, _, (by repeat (first | exact up_s | assumption | refine up_n (by omega) ?_)), adl (by omega), (by rfl), ?_⟩ | refine hZ _ _ _ _ ⟨_, _, (by repeat (first | exact up_s | assumption | refine up_n (by omega) ?_)), adl (by omega), (by first | assumption | exact vp_in_nI (by omega) (by omega)), ?_⟩ | refine hZ _ _ _ _ ⟨_, (by repeat (first | exact up_s | assumption | refine up_n (by omega) ?_)), adl (by omega), (by rfl), trivial, ?_⟩ | refine hZ _ _ _ _ ⟨trivial, ?_⟩ | refine hZ _ _ _ _ ⟨_, _, _, _, (by repeat (first | exact up_s | assumption | refine up_n (by omega) ?_)), (by first | exact Or.inr (Or.inr rfl) | exact Or.inr (Or.inl rfl) | exact Or.inl rfl), adl (by omega), (by first | assumption | exact vp_in_nI (by omega) (by omega)), (by first | exact rowsF_at (by omega) | exact shF_at (by omega)), ?_⟩ | refine hZ _ _ _ _ ?_)
                exact hfin
          repeat (first | refine hZ _ _ _ _ ⟨rfl, ?_⟩ | refine hZ _ _ _ _ ⟨_, _, (by repeat (first | exact up_s | assumption | refine up_n (by omega) ?_)), adl (by omega), (by rfl), ?_⟩ | refine hZ _ _ _ _ ⟨_, _, (by repeat (first | exact up_s | assumption | refine up_n (by omega) ?_)), adl (by omega), (by first | assumption | exact vp_in_nI (by omega) (by omega)), ?_⟩ | refine hZ _ _ _ _ ⟨_, (by repeat (first | exact up_s | assumption | refine up_n (by omega) ?_)), adl (by omega), (by rfl), trivial, ?_⟩ | refine hZ _ _ _ _ ⟨trivial, ?_⟩ | refine hZ _ _ _ _ ⟨_, _, _, _, (by repeat (first | exact up_s | assumption | refine up_n (by omega) ?_)), (by first | exact Or.inr (Or.inr rfl) | exact Or.inr (Or.inl rfl) | exact Or.inl rfl), adl (by omega), (by first | assumption | exact vp_in_nI (by omega) (by omega)), (by first | exact rowsF_at (by omega) | exact shF_at (by omega)), ?_⟩ | refine hZ _ _ _ _ ?_)
          refine ⟨fun c => absurd c (nI_ge (by omega) (by omega)), fun c => ?_⟩
          iterate 7 (first | refine hZ _ _ _ _ ⟨rfl, ?_⟩ | refine hZ _ _ _ _ ⟨_, _, (by repeat (first | exact up_s | assumption | refine up_n (by omega) ?_)), adl (by omega), (by rfl), ?_⟩ | refine hZ _ _ _ _ ⟨_, _, (by repeat (first | exact up_s | assumption | refine up_n (by omega) ?_)), adl (by omega), (by first | assumption | exact vp_in_nI (by omega) (by omega)), ?_⟩ | refine hZ _ _ _ _ ⟨_, (by repeat (first | exact up_s | assumption | refine up_n (by omega) ?_)), adl (by omega), (by rfl), trivial, ?_⟩ | refine hZ _ _ _ _ ⟨trivial, ?_⟩ | refine hZ _ _ _ _ ⟨_, _, _, _, (by repeat (first | exact up_s | assumption | refine up_n (by omega) ?_)), (by first | exact Or.inr (Or.inr rfl) | exact Or.inr (Or.inl rfl) | exact Or.inl rfl), adl (by omega), (by first | assumption | exact vp_in_nI (by omega) (by omega)), (by first | exact rowsF_at (by omega) | exact shF_at (by omega)), ?_⟩ | refine hZ _ _ _ _ ?_)
          show Z _ 53 _ _
          rw [lit_5, pk_mul, nI_add]
          iterate 2 (first | refine hZ _ _ _ _ ⟨rfl, ?_⟩ | refine hZ _ _ _ _ ⟨_, _, (by repeat (first | exact up_s | assumption | refine up_n (by omega) ?_)), adl (by omega), (by rfl), ?_⟩ | refine hZ _ _ _ _ ⟨_, _, (by repeat (first | exact up_s | assumption | refine up_n (by omega) ?_)), adl (by omega), (by first | assumption | exact vp_in_nI (by omega) (by omega)), ?_⟩ | refine hZ _ _ _ _ ⟨_, (by repeat (first | exact up_s | assumption | refine up_n (by omega) ?_)), adl (by omega), (by rfl), trivial, ?_⟩ | refine hZ _ _ _ _ ⟨trivial, ?_⟩ | refine hZ _ _ _ _ ⟨_, _, _, _, (by repeat (first | exact up_s | assumption | refine up_n (by omega) ?_)), (by first | exact Or.inr (Or.inr rfl) | exact Or.inr (Or.inl rfl) | exact Or.inl rfl), adl (by omega), (by first | assumption | exact vp_in_nI (by omega) (by omega)), (by first | exact rowsF_at (by omega) | exact shF_at (by omega)), ?_⟩ | refine hZ _ _ _ _ ?_)
          show Z _ 55 _ _
          rw [nI_clamp (show 5 * a + a < 2 ^ 31 by omega), lit_0]
          have M4 := M3.arr (k := 73) (m := 25) (f := upd (A3 73) (5 * a + a) (nI 0)) (by omega) (by omega) (by omega) rfl
          generalize hh4 : va_up h3 73 _ = h4 at M4 ⊢
          have F4 : Fr 61 82 h h4 := by rw [← hh4]; exact F3.up (by omega) (by omega)
          have m40 := M4.1
          iterate 4 (first | refine hZ _ _ _ _ ⟨rfl, ?_⟩ | refine hZ _ _ _ _ ⟨_, _, (by repeat (first | exact up_s | assumption | refine up_n (by omega) ?_)), adl (by omega), (by rfl), ?_⟩ | refine hZ _ _ _ _ ⟨_, _, (by repeat (first | exact up_s | assumption | refine up_n (by omega) ?_)), adl (by omega), (by first | assumption | exact vp_in_nI (by omega) (by omega)), ?_⟩ | refine hZ _ _ _ _ ⟨_, (by repeat (first | exact up_s | assumption | refine up_n (by omega) ?_)), adl (by omega), (by rfl), trivial, ?_⟩ | refine hZ _ _ _ _ ⟨trivial, ?_⟩ | refine hZ _ _ _ _ ⟨_, _, _, _, (by repeat (first | exact up_s | assumption | refine up_n (by omega) ?_)), (by first | exact Or.inr (Or.inr rfl) | exact Or.inr (Or.inl rfl) | exact Or.inl rfl), adl (by omega), (by first | assumption | exact vp_in_nI (by omega) (by omega)), (by first | exact rowsF_at (by omega) | exact shF_at (by omega)), ?_⟩ | refine hZ _ _ _ _ ?_)
          show Z _ 59 _ _
          rw [lit_1, nI_add]
          rw [show F + (2 + pA n a) = F + (2 + (pA n a + (a + 1 - a - 1))) by omega] at M4
          rw [show pA n a = pA n a + (a + 1 - a - 1) by omega] at hr
          refine inner (n - (a + 1)) (a + 1) h4 _ _ (by omega) (by omega) M4 F4 (fun j hj => ?_) (fun p hp5 => ?_) hr (fun p q h1 h2 h3 => ?_)
          · rw [updA_n (by omega)]; exact hA3 j hj
          · rw [updA_s]
            by_cases e9 : p = a
            · rw [upd_s (by omega)]; rfl
            · rw [pk_un (by omega)]; exact hd3 p hp5
          · rw [updA_s]
            by_cases e9 : p = a ∧ q = a
            · rw [upd_s (by omega), e9.1, e9.2, ya_dg]
            · rw [pk_un (by omega)]; exact hpa p q h1 h2 (by omega)
      iterate 1 (first | refine hZ _ _ _ _ ⟨rfl, ?_⟩ | refine hZ _ _ _ _ ⟨_, _, (by repeat (first | exact up_s | assumption | refine up_n (by omega) ?_)), adl (by omega), (by rfl), ?_⟩ | refine hZ _ _ _ _ ⟨_, _, (by repeat (first | exact up_s | assumption | refine up_n (by omega) ?_)), adl (by omega), (by first | assumption | exact vp_in_nI (by omega) (by omega)), ?_⟩ | refine hZ _ _ _ _ ⟨_, (by repeat (first | exact up_s | assumption | refine up_n (by omega) ?_)), adl (by omega), (by rfl), trivial, ?_⟩ | refine hZ _ _ _ _ ⟨trivial, ?_⟩ | refine hZ _ _ _ _ ⟨_, _, _, _, (by repeat (first | exact up_s | assumption | refine up_n (by omega) ?_)), (by first | exact Or.inr (Or.inr rfl) | exact Or.inr (Or.inl rfl) | exact Or.inl rfl), adl (by omega), (by first | assumption | exact vp_in_nI (by omega) (by omega)), (by first | exact rowsF_at (by omega) | exact shF_at (by omega)), ?_⟩ | refine hZ _ _ _ _ ?_)
      show Z _ 23 _ _
      generalize hh3 : va_up h2 61 _ = h3
      have F3 : Fr 61 82 h h3 := by rw [← hh3]; exact (F1.tr F2).up (by omega) (by omega)
      have M3 : MM h3 fl tr pl fa to (nI (F + 1 + 1)) (nI n) dF' dT dS rd A L := by rw [← hh3]; exact M2.obj
      have m30 := M3.1
      repeat (first | refine hZ _ _ _ _ ⟨rfl, ?_⟩ | refine hZ _ _ _ _ ⟨_, _, (by repeat (first | exact up_s | assumption | refine up_n (by omega) ?_)), adl (by omega), (by rfl), ?_⟩ | refine hZ _ _ _ _ ⟨_, _, (by repeat (first | exact up_s | assumption | refine up_n (by omega) ?_)), adl (by omega), (by first | assumption | exact vp_in_nI (by omega) (by omega)), ?_⟩ | refine hZ _ _ _ _ ⟨_, (by repeat (first | exact up_s | assumption | refine up_n (by omega) ?_)), adl (by omega), (by rfl), trivial, ?_⟩ | refine hZ _ _ _ _ ⟨trivial, ?_⟩ | refine hZ _ _ _ _ ⟨_, _, _, _, (by repeat (first | exact up_s | assumption | refine up_n (by omega) ?_)), (by first | exact Or.inr (Or.inr rfl) | exact Or.inr (Or.inl rfl) | exact Or.inl rfl), adl (by omega), (by first | assumption | exact vp_in_nI (by omega) (by omega)), (by first | exact rowsF_at (by omega) | exact shF_at (by omega)), ?_⟩ | refine hZ _ _ _ _ ?_)
      rw [lbm9]
      refine ⟨fun c => ?_, fun c => absurd c (nI_m9 (by omega))⟩
      iterate 2 (first | refine hZ _ _ _ _ ⟨rfl, ?_⟩ | refine hZ _ _ _ _ ⟨_, _, (by repeat (first | exact up_s | assumption | refine up_n (by omega) ?_)), adl (by omega), (by rfl), ?_⟩ | refine hZ _ _ _ _ ⟨_, _, (by repeat (first | exact up_s | assumption | refine up_n (by omega) ?_)), adl (by omega), (by first | assumption | exact vp_in_nI (by omega) (by omega)), ?_⟩ | refine hZ _ _ _ _ ⟨_, (by repeat (first | exact up_s | assumption | refine up_n (by omega) ?_)), adl (by omega), (by rfl), trivial, ?_⟩ | refine hZ _ _ _ _ ⟨trivial, ?_⟩ | refine hZ _ _ _ _ ⟨_, _, _, _, (by repeat (first | exact up_s | assumption | refine up_n (by omega) ?_)), (by first | exact Or.inr (Or.inr rfl) | exact Or.inr (Or.inl rfl) | exact Or.inl rfl), adl (by omega), (by first | assumption | exact vp_in_nI (by omega) (by omega)), (by first | exact rowsF_at (by omega) | exact shF_at (by omega)), ?_⟩ | refine hZ _ _ _ _ ?_)
      show Z _ 36 _ _
      rw [lit_0]
      exact pairs n 0 h3 A _ _ (by omega) M3 F3 (fun _ _ => rfl) h73 rfl (fun p q h1 h2 h3 => by omega)
    · show Z h1 20 [some (.ref 61), some (.int (nI (F + m))), none, none, none] [.int (-9), .ref 61]
      have c1 : ¬ (1 < m ∧ nI 50 ≤ cd 1 ∧ cd 1 ≤ nI 53) := fun z => hc1 ⟨by omega, by rw [hcd 1 z.1]; exact z.2⟩
      have hst : ySt cd m = ((true, 1), 2) := by
        unfold ySt
        rw [if_pos c0, if_neg c1]
      have hye : yEnd cd m = (true, 1) := by
        unfold yEnd
        rw [hst]
        have := rst_wrong (ck := ckT 2) (cd := cd) (m := m) (s0 := (true, 1)) (j := 0) rfl (pA 2 2 + 4 * 2)
        rw [Nat.zero_add] at this
        exact this
      rw [hye] at hp
      dsimp only at hp
      rw [decide_eq_false (fun z => absurd z.1 (by decide))] at hp
      iterate 1 (first | refine hZ _ _ _ _ ⟨rfl, ?_⟩ | refine hZ _ _ _ _ ⟨_, _, (by repeat (first | exact up_s | assumption | refine up_n (by omega) ?_)), adl (by omega), (by rfl), ?_⟩ | refine hZ _ _ _ _ ⟨_, _, (by repeat (first | exact up_s | assumption | refine up_n (by omega) ?_)), adl (by omega), (by first | assumption | exact vp_in_nI (by omega) (by omega)), ?_⟩ | refine hZ _ _ _ _ ⟨_, (by repeat (first | exact up_s | assumption | refine up_n (by omega) ?_)), adl (by omega), (by rfl), trivial, ?_⟩ | refine hZ _ _ _ _ ⟨trivial, ?_⟩ | refine hZ _ _ _ _ ⟨_, _, _, _, (by repeat (first | exact up_s | assumption | refine up_n (by omega) ?_)), (by first | exact Or.inr (Or.inr rfl) | exact Or.inr (Or.inl rfl) | exact Or.inl rfl), adl (by omega), (by first | assumption | exact vp_in_nI (by omega) (by omega)), (by first | exact rowsF_at (by omega) | exact shF_at (by omega)), ?_⟩ | refine hZ _ _ _ _ ?_)
      show Z _ 23 _ _
      generalize hh3 : va_up h1 61 _ = h3
      have F3 : Fr 61 82 h h3 := by rw [← hh3]; exact F1.up (by omega) (by omega)
      have M3 : MM h3 fl tr pl fa to (nI (F + 1)) (-9) dF' dT dS rd A L := by rw [← hh3]; exact M1.obj
      have m30 := M3.1
      repeat (first | refine hZ _ _ _ _ ⟨rfl, ?_⟩ | refine hZ _ _ _ _ ⟨_, _, (by repeat (first | exact up_s | assumption | refine up_n (by omega) ?_)), adl (by omega), (by rfl), ?_⟩ | refine hZ _ _ _ _ ⟨_, _, (by repeat (first | exact up_s | assumption | refine up_n (by omega) ?_)), adl (by omega), (by first | assumption | exact vp_in_nI (by omega) (by omega)), ?_⟩ | refine hZ _ _ _ _ ⟨_, (by repeat (first | exact up_s | assumption | refine up_n (by omega) ?_)), adl (by omega), (by rfl), trivial, ?_⟩ | refine hZ _ _ _ _ ⟨trivial, ?_⟩ | refine hZ _ _ _ _ ⟨_, _, _, _, (by repeat (first | exact up_s | assumption | refine up_n (by omega) ?_)), (by first | exact Or.inr (Or.inr rfl) | exact Or.inr (Or.inl rfl) | exact Or.inl rfl), adl (by omega), (by first | assumption | exact vp_in_nI (by omega) (by omega)), (by first | exact rowsF_at (by omega) | exact shF_at (by omega)), ?_⟩ | refine hZ _ _ _ _ ?_)
      rw [lbm9]
      refine ⟨fun c => absurd rfl c, fun c => ?_⟩
      repeat (first | refine hZ _ _ _ _ ⟨rfl, ?_⟩ | refine hZ _ _ _ _ ⟨_, _, (by repeat (first | exact up_s | assumption | refine up_n (by omega) ?_)), adl (by omega), (by rfl), ?_⟩ | refine hZ _ _ _ _ ⟨_, _, (by repeat (first | exact up_s | assumption | refine up_n (by omega) ?_)), adl (by omega), (by first | assumption | exact vp_in_nI (by omega) (by omega)), ?_⟩ | refine hZ _ _ _ _ ⟨_, (by repeat (first | exact up_s | assumption | refine up_n (by omega) ?_)), adl (by omega), (by rfl), trivial, ?_⟩ | refine hZ _ _ _ _ ⟨trivial, ?_⟩ | refine hZ _ _ _ _ ⟨_, _, _, _, (by repeat (first | exact up_s | assumption | refine up_n (by omega) ?_)), (by first | exact Or.inr (Or.inr rfl) | exact Or.inr (Or.inl rfl) | exact Or.inl rfl), adl (by omega), (by first | assumption | exact vp_in_nI (by omega) (by omega)), (by first | exact rowsF_at (by omega) | exact shF_at (by omega)), ?_⟩ | refine hZ _ _ _ _ ?_)
      exact hp h3 A _ F3 M3 (fun _ _ => rfl) h73 (fun z => absurd z (by decide))
  · show Z h 7 [some (.ref 61), some (.int (nI (F + m))), none, none, none] [.int 0]
    have c0 : ¬ (0 < m ∧ cd 0 = nI 121) := fun z => hc ⟨by omega, by
      have := hcd 0 z.1
      rw [Nat.add_zero] at this
      rw [this]; exact z.2⟩
    have hst : ySt cd m = ((true, 0), 2) := by
      unfold ySt
      rw [if_neg c0]
    have hye : yEnd cd m = (true, 0) := by
      unfold yEnd
      rw [hst]
      have := rst_wrong (ck := ckT 2) (cd := cd) (m := m) (s0 := (true, 0)) (j := 0) rfl (pA 2 2 + 4 * 2)
      rw [Nat.zero_add] at this
      exact this
    rw [hye] at hp
    dsimp only at hp
    rw [decide_eq_false (fun z => absurd z.1 (by decide))] at hp
    repeat (first | refine hZ _ _ _ _ ⟨rfl, ?_⟩ | refine hZ _ _ _ _ ⟨_, _, (by repeat (first | exact up_s | assumption | refine up_n (by omega) ?_)), adl (by omega), (by rfl), ?_⟩ | refine hZ _ _ _ _ ⟨_, _, (by repeat (first | exact up_s | assumption | refine up_n (by omega) ?_)), adl (by omega), (by first | assumption | exact vp_in_nI (by omega) (by omega)), ?_⟩ | refine hZ _ _ _ _ ⟨_, (by repeat (first | exact up_s | assumption | refine up_n (by omega) ?_)), adl (by omega), (by rfl), trivial, ?_⟩ | refine hZ _ _ _ _ ⟨trivial, ?_⟩ | refine hZ _ _ _ _ ⟨_, _, _, _, (by repeat (first | exact up_s | assumption | refine up_n (by omega) ?_)), (by first | exact Or.inr (Or.inr rfl) | exact Or.inr (Or.inl rfl) | exact Or.inl rfl), adl (by omega), (by first | assumption | exact vp_in_nI (by omega) (by omega)), (by first | exact rowsF_at (by omega) | exact shF_at (by omega)), ?_⟩ | refine hZ _ _ _ _ ?_)
    refine ⟨fun c => absurd rfl c, fun c => ?_⟩
    repeat (first | refine hZ _ _ _ _ ⟨rfl, ?_⟩ | refine hZ _ _ _ _ ⟨_, _, (by repeat (first | exact up_s | assumption | refine up_n (by omega) ?_)), adl (by omega), (by rfl), ?_⟩ | refine hZ _ _ _ _ ⟨_, _, (by repeat (first | exact up_s | assumption | refine up_n (by omega) ?_)), adl (by omega), (by first | assumption | exact vp_in_nI (by omega) (by omega)), ?_⟩ | refine hZ _ _ _ _ ⟨_, (by repeat (first | exact up_s | assumption | refine up_n (by omega) ?_)), adl (by omega), (by rfl), trivial, ?_⟩ | refine hZ _ _ _ _ ⟨trivial, ?_⟩ | refine hZ _ _ _ _ ⟨_, _, _, _, (by repeat (first | exact up_s | assumption | refine up_n (by omega) ?_)), (by first | exact Or.inr (Or.inr rfl) | exact Or.inr (Or.inl rfl) | exact Or.inl rfl), adl (by omega), (by first | assumption | exact vp_in_nI (by omega) (by omega)), (by first | exact rowsF_at (by omega) | exact shF_at (by omega)), ?_⟩ | refine hZ _ _ _ _ ?_)
    exact hp h A _ Fr.rf M (fun _ _ => rfl) h73 (fun z => absurd z (by decide))
