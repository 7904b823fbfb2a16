/-! ===== the reference: determinants ===== -/
set_option maxHeartbeats 4000000 in
theorem m_findColumns {l : Launch} {h : AH} {n m : Nat} {fl tr fa to at' rp dF' dT dS rd : Int32} {A : Nat → Nat → Int32} {L : Nat → Int64} {P : Option Value → AH → Prop} (M : MM h fl tr (nI n) fa to at' rp dF' dT dS rd A L) (h2 : 2 ≤ n) (hn : n ≤ 5) (hm : m < fct n)
    (hp : ∀ h' f, Fr 61 82 h h' → MM h' fl tr (nI n) fa to at' rp dF' dT dS rd (updA A 79 f) L → (∀ i, i < n → f i = nI (fcl n m i)) → P (some (.int (b2i (decide ((fst n m n).2.2.2 % 2 = 0))))) h') : Sem l QX7_findColumns 82 h [.ref 61, .int (nI m)] P := by
  have m0 := M.1
  have hm120 := fct_le (n := n) (k := n) hn
  refine iX7_findColumns rfl ?_
  intro Z hZ
  have outer : ∀ e k h1 f1 r s u o o7 o8, k + e = n → fst n m k = (r, s, u, o) → MM h1 fl tr (nI n) fa to at' rp dF' dT dS rd (updA A 79 f1) L → Fr 61 82 h h1 → (∀ i, i < k → f1 i = nI (fcl n m i)) → Z h1 36 [some (.ref 61), some (.int (nI m)), some (.int (nI r)), some (.int (nI s)), some (.int (nI u)), some (.int (nI o)), some (.int (nI k)), o7, o8] [] := by
    intro e
    induction e with
    | zero =>
      intro k h1 f1 r s u o o7 o8 hk hst M1 F1 hf1
      have m10 := M1.1
      have hkn : k = n := by omega
      subst hkn
      have ho := fendA h2 hn hm
      have hp := hp h1 f1 F1 M1 hf1
      rw [hst] at hp ho
      dsimp only at hp ho
      repeat (first | refine hZ _ _ _ _ ⟨rfl, ?_⟩ | refine hZ _ _ _ _ ⟨_, _, (by repeat (first | exact up_s | assumption | refine up_n (by omega) ?_)), adl (by omega), (by rfl), ?_⟩ | refine hZ _ _ _ _ ⟨_, _, (by repeat (first | exact up_s | assumption | refine up_n (by omega) ?_)), adl (by omega), (by first | assumption | exact vp_in_nI (by omega) (by omega)), ?_⟩ | refine hZ _ _ _ _ ⟨_, (by repeat (first | exact up_s | assumption | refine up_n (by omega) ?_)), adl (by omega), (by rfl), trivial, ?_⟩ | refine hZ _ _ _ _ ⟨trivial, ?_⟩ | refine hZ _ _ _ _ ⟨_, _, _, _, (by repeat (first | exact up_s | assumption | refine up_n (by omega) ?_)), (by first | exact Or.inr (Or.inr rfl) | exact Or.inr (Or.inl rfl) | exact Or.inl rfl), adl (by omega), (by first | assumption | exact vp_in_nI (by omega) (by omega)), (by first | exact rowsF_at (by omega) | exact shF_at (by omega)), ?_⟩ | refine hZ _ _ _ _ ?_)
      refine ⟨fun c => ?_, fun c => absurd (nI_le (by omega) (by omega)) c⟩
      iterate 2 (first | refine hZ _ _ _ _ ⟨rfl, ?_⟩ | refine hZ _ _ _ _ ⟨_, _, (by repeat (first | exact up_s | assumption | refine up_n (by omega) ?_)), adl (by omega), (by rfl), ?_⟩ | refine hZ _ _ _ _ ⟨_, _, (by repeat (first | exact up_s | assumption | refine up_n (by omega) ?_)), adl (by omega), (by first | assumption | exact vp_in_nI (by omega) (by omega)), ?_⟩ | refine hZ _ _ _ _ ⟨_, (by repeat (first | exact up_s | assumption | refine up_n (by omega) ?_)), adl (by omega), (by rfl), trivial, ?_⟩ | refine hZ _ _ _ _ ⟨trivial, ?_⟩ | refine hZ _ _ _ _ ⟨_, _, _, _, (by repeat (first | exact up_s | assumption | refine up_n (by omega) ?_)), (by first | exact Or.inr (Or.inr rfl) | exact Or.inr (Or.inl rfl) | exact Or.inl rfl), adl (by omega), (by first | assumption | exact vp_in_nI (by omega) (by omega)), (by first | exact rowsF_at (by omega) | exact shF_at (by omega)), ?_⟩ | refine hZ _ _ _ _ ?_)
      show Z _ 161 _ _
      rw [lit_2]
      refine hZ _ _ _ _ ⟨nI_ne0 (by omega) (by omega), ?_⟩
      rw [nI_rem (by omega) (by omega) (by omega)]
      show Z _ 162 _ _
      repeat (first | refine hZ _ _ _ _ ⟨rfl, ?_⟩ | refine hZ _ _ _ _ ⟨_, _, (by repeat (first | exact up_s | assumption | refine up_n (by omega) ?_)), adl (by omega), (by rfl), ?_⟩ | refine hZ _ _ _ _ ⟨_, _, (by repeat (first | exact up_s | assumption | refine up_n (by omega) ?_)), adl (by omega), (by first | assumption | exact vp_in_nI (by omega) (by omega)), ?_⟩ | refine hZ _ _ _ _ ⟨_, (by repeat (first | exact up_s | assumption | refine up_n (by omega) ?_)), adl (by omega), (by rfl), trivial, ?_⟩ | refine hZ _ _ _ _ ⟨trivial, ?_⟩ | refine hZ _ _ _ _ ⟨_, _, _, _, (by repeat (first | exact up_s | assumption | refine up_n (by omega) ?_)), (by first | exact Or.inr (Or.inr rfl) | exact Or.inr (Or.inl rfl) | exact Or.inl rfl), adl (by omega), (by first | assumption | exact vp_in_nI (by omega) (by omega)), (by first | exact rowsF_at (by omega) | exact shF_at (by omega)), ?_⟩ | refine hZ _ _ _ _ ?_)
      by_cases h0 : o % 2 = 0
      · rw [decide_eq_true h0] at hp
        refine ⟨fun c => absurd (by rw [h0]; rfl) c, fun c => ?_⟩
        repeat (first | refine hZ _ _ _ _ ⟨rfl, ?_⟩ | refine hZ _ _ _ _ ⟨_, _, (by repeat (first | exact up_s | assumption | refine up_n (by omega) ?_)), adl (by omega), (by rfl), ?_⟩ | refine hZ _ _ _ _ ⟨_, _, (by repeat (first | exact up_s | assumption | refine up_n (by omega) ?_)), adl (by omega), (by first | assumption | exact vp_in_nI (by omega) (by omega)), ?_⟩ | refine hZ _ _ _ _ ⟨_, (by repeat (first | exact up_s | assumption | refine up_n (by omega) ?_)), adl (by omega), (by rfl), trivial, ?_⟩ | refine hZ _ _ _ _ ⟨trivial, ?_⟩ | refine hZ _ _ _ _ ⟨_, _, _, _, (by repeat (first | exact up_s | assumption | refine up_n (by omega) ?_)), (by first | exact Or.inr (Or.inr rfl) | exact Or.inr (Or.inl rfl) | exact Or.inl rfl), adl (by omega), (by first | assumption | exact vp_in_nI (by omega) (by omega)), (by first | exact rowsF_at (by omega) | exact shF_at (by omega)), ?_⟩ | refine hZ _ _ _ _ ?_)
        exact hp
      · rw [decide_eq_false h0] at hp
        refine ⟨fun c => ?_, fun c => absurd ((nI_eq (b := 0) (by omega) (by omega)).mp c) h0⟩
        repeat (first | refine hZ _ _ _ _ ⟨rfl, ?_⟩ | refine hZ _ _ _ _ ⟨_, _, (by repeat (first | exact up_s | assumption | refine up_n (by omega) ?_)), adl (by omega), (by rfl), ?_⟩ | refine hZ _ _ _ _ ⟨_, _, (by repeat (first | exact up_s | assumption | refine up_n (by omega) ?_)), adl (by omega), (by first | assumption | exact vp_in_nI (by omega) (by omega)), ?_⟩ | refine hZ _ _ _ _ ⟨_, (by repeat (first | exact up_s | assumption | refine up_n (by omega) ?_)), adl (by omega), (by rfl), trivial, ?_⟩ | refine hZ _ _ _ _ ⟨trivial, ?_⟩ | refine hZ _ _ _ _ ⟨_, _, _, _, (by repeat (first | exact up_s | assumption | refine up_n (by omega) ?_)), (by first | exact Or.inr (Or.inr rfl) | exact Or.inr (Or.inl rfl) | exact Or.inl rfl), adl (by omega), (by first | assumption | exact vp_in_nI (by omega) (by omega)), (by first | exact rowsF_at (by omega) | exact shF_at (by omega)), ?_⟩ | refine hZ _ _ _ _ ?_)
        exact hp
    | succ e ih =>
      intro k h1 f1 r s u o o7 o8 hk hst M1 F1 hf1
      have m10 := M1.1
      have m179 := M1.at (j := 79) (m := 5) (by omega) (by omega) (by omega) rfl
      rw [updA_s] at m179
      have hok := fokA h2 hn hm (show k < n by omega)
      unfold fok at hok
      rw [hst] at hok
      dsimp only at hok
      cases hw : whl 8 u (r / s) 0 with
      | none =>
        rw [hw] at hok
        simp at hok
      | some q =>
        rw [hw] at hok
        simp only [Bool.and_eq_true, Nat.blt_eq] at hok
        obtain ⟨⟨⟨⟨⟨a1, a2⟩, a3⟩, a4⟩, a5⟩, a6⟩ := hok
        have hcl : fcl n m k = q := by
          unfold fcl
          rw [hst]
          dsimp only
          rw [hw]
          rfl
        have hnx : fst n m (k + 1) = (r % s, if 1 < n - k - 1 then s / (n - k - 1) else 1, u ||| 2 ^ q, o + r / s) := by
          show (match fst n m k with
            | (r, s, u, o) => (r % s, if 1 < n - k - 1 then s / (n - k - 1) else 1, u ||| 2 ^ ((whl 8 u (r / s) 0).getD 0), o + r / s)) = _
          rw [hst]
          dsimp only
          rw [hw]
          rfl
        have hrs : r / s ≤ r := Nat.div_le_self _ _
        have last : ∀ sk, Z h1 105 [some (.ref 61), some (.int (nI m)), some (.int (nI (r % s))), some (.int (nI s)), some (.int (nI u)), some (.int (nI (o + r / s))), some (.int (nI k)), some (.int (nI sk)), some (.int (nI q))] [] := by
          intro sk
          iterate 5 (first | refine hZ _ _ _ _ ⟨rfl, ?_⟩ | refine hZ _ _ _ _ ⟨_, _, (by repeat (first | exact up_s | assumption | refine up_n (by omega) ?_)), adl (by omega), (by rfl), ?_⟩ | refine hZ _ _ _ _ ⟨_, _, (by repeat (first | exact up_s | assumption | refine up_n (by omega) ?_)), adl (by omega), (by first | assumption | exact vp_in_nI (by omega) (by omega)), ?_⟩ | refine hZ _ _ _ _ ⟨_, (by repeat (first | exact up_s | assumption | refine up_n (by omega) ?_)), adl (by omega), (by rfl), trivial, ?_⟩ | refine hZ _ _ _ _ ⟨trivial, ?_⟩ | refine hZ _ _ _ _ ⟨_, _, _, _, (by repeat (first | exact up_s | assumption | refine up_n (by omega) ?_)), (by first | exact Or.inr (Or.inr rfl) | exact Or.inr (Or.inl rfl) | exact Or.inl rfl), adl (by omega), (by first | assumption | exact vp_in_nI (by omega) (by omega)), (by first | exact rowsF_at (by omega) | exact shF_at (by omega)), ?_⟩ | refine hZ _ _ _ _ ?_)
          show Z _ 114 _ _
          rw [nI_clamp (show k < 2 ^ 31 by omega)]
          have M2 := M1.arr (k := 79) (m := 5) (f := upd f1 k (nI q)) (by omega) (by omega) (by omega) rfl
          rw [show updA (updA A 79 f1) 79 (upd f1 k (nI q)) = updA A 79 (upd f1 k (nI q)) from funext (fun j => by
            unfold updA
            split <;> rfl)] at M2
          generalize hh2 : va_up h1 79 _ = h3
          rw [hh2] at M2
          have F2 : Fr 61 82 h h3 := by rw [← hh2]; exact F1.up (by omega) (by omega)
          have m20 := M2.1
          have hf2 : ∀ i, i < k + 1 → upd f1 k (nI q) i = nI (fcl n m i) := fun i hi => by
            by_cases e9 : i = k
            · rw [upd_s e9, e9, hcl]
            · rw [pk_un e9]; exact hf1 i (by omega)
          iterate 6 (first | refine hZ _ _ _ _ ⟨rfl, ?_⟩ | refine hZ _ _ _ _ ⟨_, _, (by repeat (first | exact up_s | assumption | refine up_n (by omega) ?_)), adl (by omega), (by rfl), ?_⟩ | refine hZ _ _ _ _ ⟨_, _, (by repeat (first | exact up_s | assumption | refine up_n (by omega) ?_)), adl (by omega), (by first | assumption | exact vp_in_nI (by omega) (by omega)), ?_⟩ | refine hZ _ _ _ _ ⟨_, (by repeat (first | exact up_s | assumption | refine up_n (by omega) ?_)), adl (by omega), (by rfl), trivial, ?_⟩ | refine hZ _ _ _ _ ⟨trivial, ?_⟩ | refine hZ _ _ _ _ ⟨_, _, _, _, (by repeat (first | exact up_s | assumption | refine up_n (by omega) ?_)), (by first | exact Or.inr (Or.inr rfl) | exact Or.inr (Or.inl rfl) | exact Or.inl rfl), adl (by omega), (by first | assumption | exact vp_in_nI (by omega) (by omega)), (by first | exact rowsF_at (by omega) | exact shF_at (by omega)), ?_⟩ | refine hZ _ _ _ _ ?_)
          show Z _ 123 _ _
          rw [lit_1, shl_bit (by omega), nI_or]
          show Z h3 123 [some (.ref 61), some (.int (nI m)), some (.int (nI (r % s))), some (.int (nI s)), some (.int (nI (u ||| 2 ^ q))), some (.int (nI (o + r / s))), some (.int (nI k)), some (.int (nI sk)), some (.int (nI q))] []
          repeat (first | refine hZ _ _ _ _ ⟨rfl, ?_⟩ | refine hZ _ _ _ _ ⟨_, _, (by repeat (first | exact up_s | assumption | refine up_n (by omega) ?_)), adl (by omega), (by rfl), ?_⟩ | refine hZ _ _ _ _ ⟨_, _, (by repeat (first | exact up_s | assumption | refine up_n (by omega) ?_)), adl (by omega), (by first | assumption | exact vp_in_nI (by omega) (by omega)), ?_⟩ | refine hZ _ _ _ _ ⟨_, (by repeat (first | exact up_s | assumption | refine up_n (by omega) ?_)), adl (by omega), (by rfl), trivial, ?_⟩ | refine hZ _ _ _ _ ⟨trivial, ?_⟩ | refine hZ _ _ _ _ ⟨_, _, _, _, (by repeat (first | exact up_s | assumption | refine up_n (by omega) ?_)), (by first | exact Or.inr (Or.inr rfl) | exact Or.inr (Or.inl rfl) | exact Or.inl rfl), adl (by omega), (by first | assumption | exact vp_in_nI (by omega) (by omega)), (by first | exact rowsF_at (by omega) | exact shF_at (by omega)), ?_⟩ | refine hZ _ _ _ _ ?_)
          rw [pk_sub (by omega), lit_1, pk_sub (by omega)]
          by_cases hc : 1 < n - k - 1
          · rw [if_pos hc] at hnx
            refine ⟨fun c => absurd c (nI_ge hc (by omega)), fun c => ?_⟩
            iterate 7 (first | refine hZ _ _ _ _ ⟨rfl, ?_⟩ | refine hZ _ _ _ _ ⟨_, _, (by repeat (first | exact up_s | assumption | refine up_n (by omega) ?_)), adl (by omega), (by rfl), ?_⟩ | refine hZ _ _ _ _ ⟨_, _, (by repeat (first | exact up_s | assumption | refine up_n (by omega) ?_)), adl (by omega), (by first | assumption | exact vp_in_nI (by omega) (by omega)), ?_⟩ | refine hZ _ _ _ _ ⟨_, (by repeat (first | exact up_s | assumption | refine up_n (by omega) ?_)), adl (by omega), (by rfl), trivial, ?_⟩ | refine hZ _ _ _ _ ⟨trivial, ?_⟩ | refine hZ _ _ _ _ ⟨_, _, _, _, (by repeat (first | exact up_s | assumption | refine up_n (by omega) ?_)), (by first | exact Or.inr (Or.inr rfl) | exact Or.inr (Or.inl rfl) | exact Or.inl rfl), adl (by omega), (by first | assumption | exact vp_in_nI (by omega) (by omega)), (by first | exact rowsF_at (by omega) | exact shF_at (by omega)), ?_⟩ | refine hZ _ _ _ _ ?_)
            show Z _ 146 _ _
            rw [pk_sub (by omega), lit_1, pk_sub (by omega)]
            refine hZ _ _ _ _ ⟨nI_ne0 (by omega) (by omega), ?_⟩
            rw [pk_div (by omega) (by omega) (by omega)]
            show Z _ 147 _ _
            iterate 4 (first | refine hZ _ _ _ _ ⟨rfl, ?_⟩ | refine hZ _ _ _ _ ⟨_, _, (by repeat (first | exact up_s | assumption | refine up_n (by omega) ?_)), adl (by omega), (by rfl), ?_⟩ | refine hZ _ _ _ _ ⟨_, _, (by repeat (first | exact up_s | assumption | refine up_n (by omega) ?_)), adl (by omega), (by first | assumption | exact vp_in_nI (by omega) (by omega)), ?_⟩ | refine hZ _ _ _ _ ⟨_, (by repeat (first | exact up_s | assumption | refine up_n (by omega) ?_)), adl (by omega), (by rfl), trivial, ?_⟩ | refine hZ _ _ _ _ ⟨trivial, ?_⟩ | refine hZ _ _ _ _ ⟨_, _, _, _, (by repeat (first | exact up_s | assumption | refine up_n (by omega) ?_)), (by first | exact Or.inr (Or.inr rfl) | exact Or.inr (Or.inl rfl) | exact Or.inl rfl), adl (by omega), (by first | assumption | exact vp_in_nI (by omega) (by omega)), (by first | exact rowsF_at (by omega) | exact shF_at (by omega)), ?_⟩ | refine hZ _ _ _ _ ?_)
            show Z _ 36 _ _
            rw [nI_inc]
            exact ih (k + 1) h3 _ _ _ _ _ _ _ (by omega) hnx M2 F2 hf2
          · rw [if_neg hc] at hnx
            refine ⟨fun c => ?_, fun c => absurd (nI_le (by omega) (by omega)) c⟩
            iterate 4 (first | refine hZ _ _ _ _ ⟨rfl, ?_⟩ | refine hZ _ _ _ _ ⟨_, _, (by repeat (first | exact up_s | assumption | refine up_n (by omega) ?_)), adl (by omega), (by rfl), ?_⟩ | refine hZ _ _ _ _ ⟨_, _, (by repeat (first | exact up_s | assumption | refine up_n (by omega) ?_)), adl (by omega), (by first | assumption | exact vp_in_nI (by omega) (by omega)), ?_⟩ | refine hZ _ _ _ _ ⟨_, (by repeat (first | exact up_s | assumption | refine up_n (by omega) ?_)), adl (by omega), (by rfl), trivial, ?_⟩ | refine hZ _ _ _ _ ⟨trivial, ?_⟩ | refine hZ _ _ _ _ ⟨_, _, _, _, (by repeat (first | exact up_s | assumption | refine up_n (by omega) ?_)), (by first | exact Or.inr (Or.inr rfl) | exact Or.inr (Or.inl rfl) | exact Or.inl rfl), adl (by omega), (by first | assumption | exact vp_in_nI (by omega) (by omega)), (by first | exact rowsF_at (by omega) | exact shF_at (by omega)), ?_⟩ | refine hZ _ _ _ _ ?_)
            show Z _ 36 _ _
            rw [nI_inc]
            exact ih (k + 1) h3 _ _ _ _ _ _ _ (by omega) hnx M2 F2 hf2
        have loop : ∀ f sk q0, whl f u sk q0 = some q → q0 + f ≤ 20 → sk < 2 ^ 30 → Z h1 64 [some (.ref 61), some (.int (nI m)), some (.int (nI (r % s))), some (.int (nI s)), some (.int (nI u)), some (.int (nI (o + r / s))), some (.int (nI k)), some (.int (nI sk)), some (.int (nI q0))] [] := by
          intro f
          induction f with
          | zero => intro sk q0 hwl; cases hwl
          | succ f ihf =>
            intro sk q0 hwl hq0 hsk
            have hwl : (if bt1 u q0 = 1 then whl f u sk (q0 + 1) else if 0 < sk then whl f u (sk - 1) (q0 + 1) else some q0) = some q := hwl
            iterate 2 (first | refine hZ _ _ _ _ ⟨rfl, ?_⟩ | refine hZ _ _ _ _ ⟨_, _, (by repeat (first | exact up_s | assumption | refine up_n (by omega) ?_)), adl (by omega), (by rfl), ?_⟩ | refine hZ _ _ _ _ ⟨_, _, (by repeat (first | exact up_s | assumption | refine up_n (by omega) ?_)), adl (by omega), (by first | assumption | exact vp_in_nI (by omega) (by omega)), ?_⟩ | refine hZ _ _ _ _ ⟨_, (by repeat (first | exact up_s | assumption | refine up_n (by omega) ?_)), adl (by omega), (by rfl), trivial, ?_⟩ | refine hZ _ _ _ _ ⟨trivial, ?_⟩ | refine hZ _ _ _ _ ⟨_, _, _, _, (by repeat (first | exact up_s | assumption | refine up_n (by omega) ?_)), (by first | exact Or.inr (Or.inr rfl) | exact Or.inr (Or.inl rfl) | exact Or.inl rfl), adl (by omega), (by first | assumption | exact vp_in_nI (by omega) (by omega)), (by first | exact rowsF_at (by omega) | exact shF_at (by omega)), ?_⟩ | refine hZ _ _ _ _ ?_)
            show Z _ 68 _ _
            refine hZ _ _ _ _ ⟨rfl, rfl, ?_⟩
            refine m_isOf (by omega) (by omega) ?_
            show Z _ 71 _ _
            by_cases hb : bt1 u q0 = 1
            · rw [if_pos hb] at hwl
              rw [decide_eq_true hb]
              repeat (first | refine hZ _ _ _ _ ⟨rfl, ?_⟩ | refine hZ _ _ _ _ ⟨_, _, (by repeat (first | exact up_s | assumption | refine up_n (by omega) ?_)), adl (by omega), (by rfl), ?_⟩ | refine hZ _ _ _ _ ⟨_, _, (by repeat (first | exact up_s | assumption | refine up_n (by omega) ?_)), adl (by omega), (by first | assumption | exact vp_in_nI (by omega) (by omega)), ?_⟩ | refine hZ _ _ _ _ ⟨_, (by repeat (first | exact up_s | assumption | refine up_n (by omega) ?_)), adl (by omega), (by rfl), trivial, ?_⟩ | refine hZ _ _ _ _ ⟨trivial, ?_⟩ | refine hZ _ _ _ _ ⟨_, _, _, _, (by repeat (first | exact up_s | assumption | refine up_n (by omega) ?_)), (by first | exact Or.inr (Or.inr rfl) | exact Or.inr (Or.inl rfl) | exact Or.inl rfl), adl (by omega), (by first | assumption | exact vp_in_nI (by omega) (by omega)), (by first | exact rowsF_at (by omega) | exact shF_at (by omega)), ?_⟩ | refine hZ _ _ _ _ ?_)
              refine ⟨fun c => ?_, fun c => absurd c (by decide)⟩
              iterate 3 (first | refine hZ _ _ _ _ ⟨rfl, ?_⟩ | refine hZ _ _ _ _ ⟨_, _, (by repeat (first | exact up_s | assumption | refine up_n (by omega) ?_)), adl (by omega), (by rfl), ?_⟩ | refine hZ _ _ _ _ ⟨_, _, (by repeat (first | exact up_s | assumption | refine up_n (by omega) ?_)), adl (by omega), (by first | assumption | exact vp_in_nI (by omega) (by omega)), ?_⟩ | refine hZ _ _ _ _ ⟨_, (by repeat (first | exact up_s | assumption | refine up_n (by omega) ?_)), adl (by omega), (by rfl), trivial, ?_⟩ | refine hZ _ _ _ _ ⟨trivial, ?_⟩ | refine hZ _ _ _ _ ⟨_, _, _, _, (by repeat (first | exact up_s | assumption | refine up_n (by omega) ?_)), (by first | exact Or.inr (Or.inr rfl) | exact Or.inr (Or.inl rfl) | exact Or.inl rfl), adl (by omega), (by first | assumption | exact vp_in_nI (by omega) (by omega)), (by first | exact rowsF_at (by omega) | exact shF_at (by omega)), ?_⟩ | refine hZ _ _ _ _ ?_)
              show Z _ 85 _ _
              refine hZ _ _ _ _ ⟨rfl, rfl, ?_⟩
              refine m_isOf (by omega) (by omega) ?_
              rw [decide_eq_true hb]
              show Z _ 88 _ _
              repeat (first | refine hZ _ _ _ _ ⟨rfl, ?_⟩ | refine hZ _ _ _ _ ⟨_, _, (by repeat (first | exact up_s | assumption | refine up_n (by omega) ?_)), adl (by omega), (by rfl), ?_⟩ | refine hZ _ _ _ _ ⟨_, _, (by repeat (first | exact up_s | assumption | refine up_n (by omega) ?_)), adl (by omega), (by first | assumption | exact vp_in_nI (by omega) (by omega)), ?_⟩ | refine hZ _ _ _ _ ⟨_, (by repeat (first | exact up_s | assumption | refine up_n (by omega) ?_)), adl (by omega), (by rfl), trivial, ?_⟩ | refine hZ _ _ _ _ ⟨trivial, ?_⟩ | refine hZ _ _ _ _ ⟨_, _, _, _, (by repeat (first | exact up_s | assumption | refine up_n (by omega) ?_)), (by first | exact Or.inr (Or.inr rfl) | exact Or.inr (Or.inl rfl) | exact Or.inl rfl), adl (by omega), (by first | assumption | exact vp_in_nI (by omega) (by omega)), (by first | exact rowsF_at (by omega) | exact shF_at (by omega)), ?_⟩ | refine hZ _ _ _ _ ?_)
              refine ⟨fun c => absurd c (by decide), fun c => ?_⟩
              iterate 3 (first | refine hZ _ _ _ _ ⟨rfl, ?_⟩ | refine hZ _ _ _ _ ⟨_, _, (by repeat (first | exact up_s | assumption | refine up_n (by omega) ?_)), adl (by omega), (by rfl), ?_⟩ | refine hZ _ _ _ _ ⟨_, _, (by repeat (first | exact up_s | assumption | refine up_n (by omega) ?_)), adl (by omega), (by first | assumption | exact vp_in_nI (by omega) (by omega)), ?_⟩ | refine hZ _ _ _ _ ⟨_, (by repeat (first | exact up_s | assumption | refine up_n (by omega) ?_)), adl (by omega), (by rfl), trivial, ?_⟩ | refine hZ _ _ _ _ ⟨trivial, ?_⟩ | refine hZ _ _ _ _ ⟨_, _, _, _, (by repeat (first | exact up_s | assumption | refine up_n (by omega) ?_)), (by first | exact Or.inr (Or.inr rfl) | exact Or.inr (Or.inl rfl) | exact Or.inl rfl), adl (by omega), (by first | assumption | exact vp_in_nI (by omega) (by omega)), (by first | exact rowsF_at (by omega) | exact shF_at (by omega)), ?_⟩ | refine hZ _ _ _ _ ?_)
              show Z _ 97 _ _
              rw [lit_0, pk_sub (by omega), Nat.sub_zero]
              iterate 3 (first | refine hZ _ _ _ _ ⟨rfl, ?_⟩ | refine hZ _ _ _ _ ⟨_, _, (by repeat (first | exact up_s | assumption | refine up_n (by omega) ?_)), adl (by omega), (by rfl), ?_⟩ | refine hZ _ _ _ _ ⟨_, _, (by repeat (first | exact up_s | assumption | refine up_n (by omega) ?_)), adl (by omega), (by first | assumption | exact vp_in_nI (by omega) (by omega)), ?_⟩ | refine hZ _ _ _ _ ⟨_, (by repeat (first | exact up_s | assumption | refine up_n (by omega) ?_)), adl (by omega), (by rfl), trivial, ?_⟩ | refine hZ _ _ _ _ ⟨trivial, ?_⟩ | refine hZ _ _ _ _ ⟨_, _, _, _, (by repeat (first | exact up_s | assumption | refine up_n (by omega) ?_)), (by first | exact Or.inr (Or.inr rfl) | exact Or.inr (Or.inl rfl) | exact Or.inl rfl), adl (by omega), (by first | assumption | exact vp_in_nI (by omega) (by omega)), (by first | exact rowsF_at (by omega) | exact shF_at (by omega)), ?_⟩ | refine hZ _ _ _ _ ?_)
              show Z _ 64 _ _
              rw [nI_inc]
              exact ihf sk (q0 + 1) hwl (by omega) hsk
            · rw [if_neg hb] at hwl
              rw [decide_eq_false hb]
              repeat (first | refine hZ _ _ _ _ ⟨rfl, ?_⟩ | refine hZ _ _ _ _ ⟨_, _, (by repeat (first | exact up_s | assumption | refine up_n (by omega) ?_)), adl (by omega), (by rfl), ?_⟩ | refine hZ _ _ _ _ ⟨_, _, (by repeat (first | exact up_s | assumption | refine up_n (by omega) ?_)), adl (by omega), (by first | assumption | exact vp_in_nI (by omega) (by omega)), ?_⟩ | refine hZ _ _ _ _ ⟨_, (by repeat (first | exact up_s | assumption | refine up_n (by omega) ?_)), adl (by omega), (by rfl), trivial, ?_⟩ | refine hZ _ _ _ _ ⟨trivial, ?_⟩ | refine hZ _ _ _ _ ⟨_, _, _, _, (by repeat (first | exact up_s | assumption | refine up_n (by omega) ?_)), (by first | exact Or.inr (Or.inr rfl) | exact Or.inr (Or.inl rfl) | exact Or.inl rfl), adl (by omega), (by first | assumption | exact vp_in_nI (by omega) (by omega)), (by first | exact rowsF_at (by omega) | exact shF_at (by omega)), ?_⟩ | refine hZ _ _ _ _ ?_)
              refine ⟨fun c => absurd rfl c, fun c => ?_⟩
              repeat (first | refine hZ _ _ _ _ ⟨rfl, ?_⟩ | refine hZ _ _ _ _ ⟨_, _, (by repeat (first | exact up_s | assumption | refine up_n (by omega) ?_)), adl (by omega), (by rfl), ?_⟩ | refine hZ _ _ _ _ ⟨_, _, (by repeat (first | exact up_s | assumption | refine up_n (by omega) ?_)), adl (by omega), (by first | assumption | exact vp_in_nI (by omega) (by omega)), ?_⟩ | refine hZ _ _ _ _ ⟨_, (by repeat (first | exact up_s | assumption | refine up_n (by omega) ?_)), adl (by omega), (by rfl), trivial, ?_⟩ | refine hZ _ _ _ _ ⟨trivial, ?_⟩ | refine hZ _ _ _ _ ⟨_, _, _, _, (by repeat (first | exact up_s | assumption | refine up_n (by omega) ?_)), (by first | exact Or.inr (Or.inr rfl) | exact Or.inr (Or.inl rfl) | exact Or.inl rfl), adl (by omega), (by first | assumption | exact vp_in_nI (by omega) (by omega)), (by first | exact rowsF_at (by omega) | exact shF_at (by omega)), ?_⟩ | refine hZ _ _ _ _ ?_)
              by_cases hs0 : 0 < sk
              · rw [if_pos hs0] at hwl
                refine ⟨fun c => absurd ((nI_le0 (by omega)).mp c) (by omega), fun c => ?_⟩
                iterate 3 (first | refine hZ _ _ _ _ ⟨rfl, ?_⟩ | refine hZ _ _ _ _ ⟨_, _, (by repeat (first | exact up_s | assumption | refine up_n (by omega) ?_)), adl (by omega), (by rfl), ?_⟩ | refine hZ _ _ _ _ ⟨_, _, (by repeat (first | exact up_s | assumption | refine up_n (by omega) ?_)), adl (by omega), (by first | assumption | exact vp_in_nI (by omega) (by omega)), ?_⟩ | refine hZ _ _ _ _ ⟨_, (by repeat (first | exact up_s | assumption | refine up_n (by omega) ?_)), adl (by omega), (by rfl), trivial, ?_⟩ | refine hZ _ _ _ _ ⟨trivial, ?_⟩ | refine hZ _ _ _ _ ⟨_, _, _, _, (by repeat (first | exact up_s | assumption | refine up_n (by omega) ?_)), (by first | exact Or.inr (Or.inr rfl) | exact Or.inr (Or.inl rfl) | exact Or.inl rfl), adl (by omega), (by first | assumption | exact vp_in_nI (by omega) (by omega)), (by first | exact rowsF_at (by omega) | exact shF_at (by omega)), ?_⟩ | refine hZ _ _ _ _ ?_)
                show Z _ 85 _ _
                refine hZ _ _ _ _ ⟨rfl, rfl, ?_⟩
                refine m_isOf (by omega) (by omega) ?_
                rw [decide_eq_false hb]
                show Z _ 88 _ _
                repeat (first | refine hZ _ _ _ _ ⟨rfl, ?_⟩ | refine hZ _ _ _ _ ⟨_, _, (by repeat (first | exact up_s | assumption | refine up_n (by omega) ?_)), adl (by omega), (by rfl), ?_⟩ | refine hZ _ _ _ _ ⟨_, _, (by repeat (first | exact up_s | assumption | refine up_n (by omega) ?_)), adl (by omega), (by first | assumption | exact vp_in_nI (by omega) (by omega)), ?_⟩ | refine hZ _ _ _ _ ⟨_, (by repeat (first | exact up_s | assumption | refine up_n (by omega) ?_)), adl (by omega), (by rfl), trivial, ?_⟩ | refine hZ _ _ _ _ ⟨trivial, ?_⟩ | refine hZ _ _ _ _ ⟨_, _, _, _, (by repeat (first | exact up_s | assumption | refine up_n (by omega) ?_)), (by first | exact Or.inr (Or.inr rfl) | exact Or.inr (Or.inl rfl) | exact Or.inl rfl), adl (by omega), (by first | assumption | exact vp_in_nI (by omega) (by omega)), (by first | exact rowsF_at (by omega) | exact shF_at (by omega)), ?_⟩ | refine hZ _ _ _ _ ?_)
                refine ⟨fun c => ?_, fun c => absurd rfl c⟩
                iterate 2 (first | refine hZ _ _ _ _ ⟨rfl, ?_⟩ | refine hZ _ _ _ _ ⟨_, _, (by repeat (first | exact up_s | assumption | refine up_n (by omega) ?_)), adl (by omega), (by rfl), ?_⟩ | refine hZ _ _ _ _ ⟨_, _, (by repeat (first | exact up_s | assumption | refine up_n (by omega) ?_)), adl (by omega), (by first | assumption | exact vp_in_nI (by omega) (by omega)), ?_⟩ | refine hZ _ _ _ _ ⟨_, (by repeat (first | exact up_s | assumption | refine up_n (by omega) ?_)), adl (by omega), (by rfl), trivial, ?_⟩ | refine hZ _ _ _ _ ⟨trivial, ?_⟩ | refine hZ _ _ _ _ ⟨_, _, _, _, (by repeat (first | exact up_s | assumption | refine up_n (by omega) ?_)), (by first | exact Or.inr (Or.inr rfl) | exact Or.inr (Or.inl rfl) | exact Or.inl rfl), adl (by omega), (by first | assumption | exact vp_in_nI (by omega) (by omega)), (by first | exact rowsF_at (by omega) | exact shF_at (by omega)), ?_⟩ | refine hZ _ _ _ _ ?_)
                show Z _ 97 _ _
                rw [lit_1, pk_sub (by omega)]
                iterate 3 (first | refine hZ _ _ _ _ ⟨rfl, ?_⟩ | refine hZ _ _ _ _ ⟨_, _, (by repeat (first | exact up_s | assumption | refine up_n (by omega) ?_)), adl (by omega), (by rfl), ?_⟩ | refine hZ _ _ _ _ ⟨_, _, (by repeat (first | exact up_s | assumption | refine up_n (by omega) ?_)), adl (by omega), (by first | assumption | exact vp_in_nI (by omega) (by omega)), ?_⟩ | refine hZ _ _ _ _ ⟨_, (by repeat (first | exact up_s | assumption | refine up_n (by omega) ?_)), adl (by omega), (by rfl), trivial, ?_⟩ | refine hZ _ _ _ _ ⟨trivial, ?_⟩ | refine hZ _ _ _ _ ⟨_, _, _, _, (by repeat (first | exact up_s | assumption | refine up_n (by omega) ?_)), (by first | exact Or.inr (Or.inr rfl) | exact Or.inr (Or.inl rfl) | exact Or.inl rfl), adl (by omega), (by first | assumption | exact vp_in_nI (by omega) (by omega)), (by first | exact rowsF_at (by omega) | exact shF_at (by omega)), ?_⟩ | refine hZ _ _ _ _ ?_)
                show Z _ 64 _ _
                rw [nI_inc]
                exact ihf (sk - 1) (q0 + 1) hwl (by omega) (by omega)
              · rw [if_neg hs0] at hwl
                refine ⟨fun c => ?_, fun c => absurd ((nI_le0 (by omega)).mpr (by omega)) c⟩
                cases hwl
                exact last sk
        repeat (first | refine hZ _ _ _ _ ⟨rfl, ?_⟩ | refine hZ _ _ _ _ ⟨_, _, (by repeat (first | exact up_s | assumption | refine up_n (by omega) ?_)), adl (by omega), (by rfl), ?_⟩ | refine hZ _ _ _ _ ⟨_, _, (by repeat (first | exact up_s | assumption | refine up_n (by omega) ?_)), adl (by omega), (by first | assumption | exact vp_in_nI (by omega) (by omega)), ?_⟩ | refine hZ _ _ _ _ ⟨_, (by repeat (first | exact up_s | assumption | refine up_n (by omega) ?_)), adl (by omega), (by rfl), trivial, ?_⟩ | refine hZ _ _ _ _ ⟨trivial, ?_⟩ | refine hZ _ _ _ _ ⟨_, _, _, _, (by repeat (first | exact up_s | assumption | refine up_n (by omega) ?_)), (by first | exact Or.inr (Or.inr rfl) | exact Or.inr (Or.inl rfl) | exact Or.inl rfl), adl (by omega), (by first | assumption | exact vp_in_nI (by omega) (by omega)), (by first | exact rowsF_at (by omega) | exact shF_at (by omega)), ?_⟩ | refine hZ _ _ _ _ ?_)
        refine ⟨fun c => absurd c (nI_ge (by omega) (by omega)), fun c => ?_⟩
        iterate 2 (first | refine hZ _ _ _ _ ⟨rfl, ?_⟩ | refine hZ _ _ _ _ ⟨_, _, (by repeat (first | exact up_s | assumption | refine up_n (by omega) ?_)), adl (by omega), (by rfl), ?_⟩ | refine hZ _ _ _ _ ⟨_, _, (by repeat (first | exact up_s | assumption | refine up_n (by omega) ?_)), adl (by omega), (by first | assumption | exact vp_in_nI (by omega) (by omega)), ?_⟩ | refine hZ _ _ _ _ ⟨_, (by repeat (first | exact up_s | assumption | refine up_n (by omega) ?_)), adl (by omega), (by rfl), trivial, ?_⟩ | refine hZ _ _ _ _ ⟨trivial, ?_⟩ | refine hZ _ _ _ _ ⟨_, _, _, _, (by repeat (first | exact up_s | assumption | refine up_n (by omega) ?_)), (by first | exact Or.inr (Or.inr rfl) | exact Or.inr (Or.inl rfl) | exact Or.inl rfl), adl (by omega), (by first | assumption | exact vp_in_nI (by omega) (by omega)), (by first | exact rowsF_at (by omega) | exact shF_at (by omega)), ?_⟩ | refine hZ _ _ _ _ ?_)
        show Z _ 47 _ _
        refine hZ _ _ _ _ ⟨nI_ne0 (by omega) (by omega), ?_⟩
        rw [pk_div (by omega) (by omega) (by omega)]
        show Z _ 48 _ _
        iterate 1 (first | refine hZ _ _ _ _ ⟨rfl, ?_⟩ | refine hZ _ _ _ _ ⟨_, _, (by repeat (first | exact up_s | assumption | refine up_n (by omega) ?_)), adl (by omega), (by rfl), ?_⟩ | refine hZ _ _ _ _ ⟨_, _, (by repeat (first | exact up_s | assumption | refine up_n (by omega) ?_)), adl (by omega), (by first | assumption | exact vp_in_nI (by omega) (by omega)), ?_⟩ | refine hZ _ _ _ _ ⟨_, (by repeat (first | exact up_s | assumption | refine up_n (by omega) ?_)), adl (by omega), (by rfl), trivial, ?_⟩ | refine hZ _ _ _ _ ⟨trivial, ?_⟩ | refine hZ _ _ _ _ ⟨_, _, _, _, (by repeat (first | exact up_s | assumption | refine up_n (by omega) ?_)), (by first | exact Or.inr (Or.inr rfl) | exact Or.inr (Or.inl rfl) | exact Or.inl rfl), adl (by omega), (by first | assumption | exact vp_in_nI (by omega) (by omega)), (by first | exact rowsF_at (by omega) | exact shF_at (by omega)), ?_⟩ | refine hZ _ _ _ _ ?_)
        show Z _ 50 _ _
        show Z h1 50 [some (.ref 61), some (.int (nI m)), some (.int (nI r)), some (.int (nI s)), some (.int (nI u)), some (.int (nI o)), some (.int (nI k)), some (.int (nI (r / s))), o8] []
        iterate 2 (first | refine hZ _ _ _ _ ⟨rfl, ?_⟩ | refine hZ _ _ _ _ ⟨_, _, (by repeat (first | exact up_s | assumption | refine up_n (by omega) ?_)), adl (by omega), (by rfl), ?_⟩ | refine hZ _ _ _ _ ⟨_, _, (by repeat (first | exact up_s | assumption | refine up_n (by omega) ?_)), adl (by omega), (by first | assumption | exact vp_in_nI (by omega) (by omega)), ?_⟩ | refine hZ _ _ _ _ ⟨_, (by repeat (first | exact up_s | assumption | refine up_n (by omega) ?_)), adl (by omega), (by rfl), trivial, ?_⟩ | refine hZ _ _ _ _ ⟨trivial, ?_⟩ | refine hZ _ _ _ _ ⟨_, _, _, _, (by repeat (first | exact up_s | assumption | refine up_n (by omega) ?_)), (by first | exact Or.inr (Or.inr rfl) | exact Or.inr (Or.inl rfl) | exact Or.inl rfl), adl (by omega), (by first | assumption | exact vp_in_nI (by omega) (by omega)), (by first | exact rowsF_at (by omega) | exact shF_at (by omega)), ?_⟩ | refine hZ _ _ _ _ ?_)
        show Z _ 52 _ _
        refine hZ _ _ _ _ ⟨nI_ne0 (by omega) (by omega), ?_⟩
        rw [nI_rem (by omega) (by omega) (by omega)]
        show Z _ 53 _ _
        iterate 1 (first | refine hZ _ _ _ _ ⟨rfl, ?_⟩ | refine hZ _ _ _ _ ⟨_, _, (by repeat (first | exact up_s | assumption | refine up_n (by omega) ?_)), adl (by omega), (by rfl), ?_⟩ | refine hZ _ _ _ _ ⟨_, _, (by repeat (first | exact up_s | assumption | refine up_n (by omega) ?_)), adl (by omega), (by first | assumption | exact vp_in_nI (by omega) (by omega)), ?_⟩ | refine hZ _ _ _ _ ⟨_, (by repeat (first | exact up_s | assumption | refine up_n (by omega) ?_)), adl (by omega), (by rfl), trivial, ?_⟩ | refine hZ _ _ _ _ ⟨trivial, ?_⟩ | refine hZ _ _ _ _ ⟨_, _, _, _, (by repeat (first | exact up_s | assumption | refine up_n (by omega) ?_)), (by first | exact Or.inr (Or.inr rfl) | exact Or.inr (Or.inl rfl) | exact Or.inl rfl), adl (by omega), (by first | assumption | exact vp_in_nI (by omega) (by omega)), (by first | exact rowsF_at (by omega) | exact shF_at (by omega)), ?_⟩ | refine hZ _ _ _ _ ?_)
        show Z _ 54 _ _
        show Z h1 54 [some (.ref 61), some (.int (nI m)), some (.int (nI (r % s))), some (.int (nI s)), some (.int (nI u)), some (.int (nI o)), some (.int (nI k)), some (.int (nI (r / s))), o8] []
        iterate 4 (first | refine hZ _ _ _ _ ⟨rfl, ?_⟩ | refine hZ _ _ _ _ ⟨_, _, (by repeat (first | exact up_s | assumption | refine up_n (by omega) ?_)), adl (by omega), (by rfl), ?_⟩ | refine hZ _ _ _ _ ⟨_, _, (by repeat (first | exact up_s | assumption | refine up_n (by omega) ?_)), adl (by omega), (by first | assumption | exact vp_in_nI (by omega) (by omega)), ?_⟩ | refine hZ _ _ _ _ ⟨_, (by repeat (first | exact up_s | assumption | refine up_n (by omega) ?_)), adl (by omega), (by rfl), trivial, ?_⟩ | refine hZ _ _ _ _ ⟨trivial, ?_⟩ | refine hZ _ _ _ _ ⟨_, _, _, _, (by repeat (first | exact up_s | assumption | refine up_n (by omega) ?_)), (by first | exact Or.inr (Or.inr rfl) | exact Or.inr (Or.inl rfl) | exact Or.inl rfl), adl (by omega), (by first | assumption | exact vp_in_nI (by omega) (by omega)), (by first | exact rowsF_at (by omega) | exact shF_at (by omega)), ?_⟩ | refine hZ _ _ _ _ ?_)
        show Z _ 61 _ _
        rw [nI_add]
        show Z h1 61 [some (.ref 61), some (.int (nI m)), some (.int (nI (r % s))), some (.int (nI s)), some (.int (nI u)), some (.int (nI (o + r / s))), some (.int (nI k)), some (.int (nI (r / s))), o8] []
        iterate 2 (first | refine hZ _ _ _ _ ⟨rfl, ?_⟩ | refine hZ _ _ _ _ ⟨_, _, (by repeat (first | exact up_s | assumption | refine up_n (by omega) ?_)), adl (by omega), (by rfl), ?_⟩ | refine hZ _ _ _ _ ⟨_, _, (by repeat (first | exact up_s | assumption | refine up_n (by omega) ?_)), adl (by omega), (by first | assumption | exact vp_in_nI (by omega) (by omega)), ?_⟩ | refine hZ _ _ _ _ ⟨_, (by repeat (first | exact up_s | assumption | refine up_n (by omega) ?_)), adl (by omega), (by rfl), trivial, ?_⟩ | refine hZ _ _ _ _ ⟨trivial, ?_⟩ | refine hZ _ _ _ _ ⟨_, _, _, _, (by repeat (first | exact up_s | assumption | refine up_n (by omega) ?_)), (by first | exact Or.inr (Or.inr rfl) | exact Or.inr (Or.inl rfl) | exact Or.inl rfl), adl (by omega), (by first | assumption | exact vp_in_nI (by omega) (by omega)), (by first | exact rowsF_at (by omega) | exact shF_at (by omega)), ?_⟩ | refine hZ _ _ _ _ ?_)
        show Z _ 64 _ _
        rw [lit_0]
        exact loop 8 (r / s) 0 hw (by omega) (by omega)
  have scale : ∀ e k, k + e = n → 2 ≤ k → Z h 7 [some (.ref 61), some (.int (nI m)), some (.int (nI m)), some (.int (nI (fct (k - 1)))), some (.int (nI k)), none, none, none, none] [] := by
    intro e
    induction e with
    | zero =>
      intro k hk hk2
      repeat (first | refine hZ _ _ _ _ ⟨rfl, ?_⟩ | refine hZ _ _ _ _ ⟨_, _, (by repeat (first | exact up_s | assumption | refine up_n (by omega) ?_)), adl (by omega), (by rfl), ?_⟩ | refine hZ _ _ _ _ ⟨_, _, (by repeat (first | exact up_s | assumption | refine up_n (by omega) ?_)), adl (by omega), (by first | assumption | exact vp_in_nI (by omega) (by omega)), ?_⟩ | refine hZ _ _ _ _ ⟨_, (by repeat (first | exact up_s | assumption | refine up_n (by omega) ?_)), adl (by omega), (by rfl), trivial, ?_⟩ | refine hZ _ _ _ _ ⟨trivial, ?_⟩ | refine hZ _ _ _ _ ⟨_, _, _, _, (by repeat (first | exact up_s | assumption | refine up_n (by omega) ?_)), (by first | exact Or.inr (Or.inr rfl) | exact Or.inr (Or.inl rfl) | exact Or.inl rfl), adl (by omega), (by first | assumption | exact vp_in_nI (by omega) (by omega)), (by first | exact rowsF_at (by omega) | exact shF_at (by omega)), ?_⟩ | refine hZ _ _ _ _ ?_)
      refine ⟨fun c => ?_, fun c => absurd (nI_le (by omega) (by omega)) c⟩
      rw [show k = n by omega]
      iterate 2 (first | refine hZ _ _ _ _ ⟨rfl, ?_⟩ | refine hZ _ _ _ _ ⟨_, _, (by repeat (first | exact up_s | assumption | refine up_n (by omega) ?_)), adl (by omega), (by rfl), ?_⟩ | refine hZ _ _ _ _ ⟨_, _, (by repeat (first | exact up_s | assumption | refine up_n (by omega) ?_)), adl (by omega), (by first | assumption | exact vp_in_nI (by omega) (by omega)), ?_⟩ | refine hZ _ _ _ _ ⟨_, (by repeat (first | exact up_s | assumption | refine up_n (by omega) ?_)), adl (by omega), (by rfl), trivial, ?_⟩ | refine hZ _ _ _ _ ⟨trivial, ?_⟩ | refine hZ _ _ _ _ ⟨_, _, _, _, (by repeat (first | exact up_s | assumption | refine up_n (by omega) ?_)), (by first | exact Or.inr (Or.inr rfl) | exact Or.inr (Or.inl rfl) | exact Or.inl rfl), adl (by omega), (by first | assumption | exact vp_in_nI (by omega) (by omega)), (by first | exact rowsF_at (by omega) | exact shF_at (by omega)), ?_⟩ | refine hZ _ _ _ _ ?_)
      show Z _ 30 _ _
      show Z h 30 [some (.ref 61), some (.int (nI m)), some (.int (nI m)), some (.int (nI (fct (n - 1)))), some (.int (Int32.ofInt 0)), none, none, none, none] []
      iterate 2 (first | refine hZ _ _ _ _ ⟨rfl, ?_⟩ | refine hZ _ _ _ _ ⟨_, _, (by repeat (first | exact up_s | assumption | refine up_n (by omega) ?_)), adl (by omega), (by rfl), ?_⟩ | refine hZ _ _ _ _ ⟨_, _, (by repeat (first | exact up_s | assumption | refine up_n (by omega) ?_)), adl (by omega), (by first | assumption | exact vp_in_nI (by omega) (by omega)), ?_⟩ | refine hZ _ _ _ _ ⟨_, (by repeat (first | exact up_s | assumption | refine up_n (by omega) ?_)), adl (by omega), (by rfl), trivial, ?_⟩ | refine hZ _ _ _ _ ⟨trivial, ?_⟩ | refine hZ _ _ _ _ ⟨_, _, _, _, (by repeat (first | exact up_s | assumption | refine up_n (by omega) ?_)), (by first | exact Or.inr (Or.inr rfl) | exact Or.inr (Or.inl rfl) | exact Or.inl rfl), adl (by omega), (by first | assumption | exact vp_in_nI (by omega) (by omega)), (by first | exact rowsF_at (by omega) | exact shF_at (by omega)), ?_⟩ | refine hZ _ _ _ _ ?_)
      show Z _ 33 _ _
      show Z h 33 [some (.ref 61), some (.int (nI m)), some (.int (nI m)), some (.int (nI (fct (n - 1)))), some (.int (Int32.ofInt 0)), some (.int (Int32.ofInt 0)), none, none, none] []
      iterate 2 (first | refine hZ _ _ _ _ ⟨rfl, ?_⟩ | refine hZ _ _ _ _ ⟨_, _, (by repeat (first | exact up_s | assumption | refine up_n (by omega) ?_)), adl (by omega), (by rfl), ?_⟩ | refine hZ _ _ _ _ ⟨_, _, (by repeat (first | exact up_s | assumption | refine up_n (by omega) ?_)), adl (by omega), (by first | assumption | exact vp_in_nI (by omega) (by omega)), ?_⟩ | refine hZ _ _ _ _ ⟨_, (by repeat (first | exact up_s | assumption | refine up_n (by omega) ?_)), adl (by omega), (by rfl), trivial, ?_⟩ | refine hZ _ _ _ _ ⟨trivial, ?_⟩ | refine hZ _ _ _ _ ⟨_, _, _, _, (by repeat (first | exact up_s | assumption | refine up_n (by omega) ?_)), (by first | exact Or.inr (Or.inr rfl) | exact Or.inr (Or.inl rfl) | exact Or.inl rfl), adl (by omega), (by first | assumption | exact vp_in_nI (by omega) (by omega)), (by first | exact rowsF_at (by omega) | exact shF_at (by omega)), ?_⟩ | refine hZ _ _ _ _ ?_)
      show Z _ 36 _ _
      rw [lit_0]
      refine outer n 0 h (A 79) _ _ _ _ _ _ (by omega) rfl ?_ Fr.rf (fun i hi => by omega)
      rw [show updA A 79 (A 79) = A from funext (fun j => by
        unfold updA
        by_cases e9 : j = 79
        · rw [if_pos e9, e9]
        · rw [if_neg e9])]
      exact M
    | succ e ih =>
      intro k hk hk2
      have nx := ih (k + 1) (by omega) (by omega)
      obtain ⟨k', rfl⟩ : ∃ k', k = k' + 1 := ⟨k - 1, by omega⟩
      rw [show fct (k' + 1 + 1 - 1) = fct (k' + 1 - 1) * (k' + 1) from rfl] at nx
      repeat (first | refine hZ _ _ _ _ ⟨rfl, ?_⟩ | refine hZ _ _ _ _ ⟨_, _, (by repeat (first | exact up_s | assumption | refine up_n (by omega) ?_)), adl (by omega), (by rfl), ?_⟩ | refine hZ _ _ _ _ ⟨_, _, (by repeat (first | exact up_s | assumption | refine up_n (by omega) ?_)), adl (by omega), (by first | assumption | exact vp_in_nI (by omega) (by omega)), ?_⟩ | refine hZ _ _ _ _ ⟨_, (by repeat (first | exact up_s | assumption | refine up_n (by omega) ?_)), adl (by omega), (by rfl), trivial, ?_⟩ | refine hZ _ _ _ _ ⟨trivial, ?_⟩ | refine hZ _ _ _ _ ⟨_, _, _, _, (by repeat (first | exact up_s | assumption | refine up_n (by omega) ?_)), (by first | exact Or.inr (Or.inr rfl) | exact Or.inr (Or.inl rfl) | exact Or.inl rfl), adl (by omega), (by first | assumption | exact vp_in_nI (by omega) (by omega)), (by first | exact rowsF_at (by omega) | exact shF_at (by omega)), ?_⟩ | refine hZ _ _ _ _ ?_)
      refine ⟨fun c => absurd c (nI_ge (by omega) (by omega)), fun c => ?_⟩
      iterate 6 (first | refine hZ _ _ _ _ ⟨rfl, ?_⟩ | refine hZ _ _ _ _ ⟨_, _, (by repeat (first | exact up_s | assumption | refine up_n (by omega) ?_)), adl (by omega), (by rfl), ?_⟩ | refine hZ _ _ _ _ ⟨_, _, (by repeat (first | exact up_s | assumption | refine up_n (by omega) ?_)), adl (by omega), (by first | assumption | exact vp_in_nI (by omega) (by omega)), ?_⟩ | refine hZ _ _ _ _ ⟨_, (by repeat (first | exact up_s | assumption | refine up_n (by omega) ?_)), adl (by omega), (by rfl), trivial, ?_⟩ | refine hZ _ _ _ _ ⟨trivial, ?_⟩ | refine hZ _ _ _ _ ⟨_, _, _, _, (by repeat (first | exact up_s | assumption | refine up_n (by omega) ?_)), (by first | exact Or.inr (Or.inr rfl) | exact Or.inr (Or.inl rfl) | exact Or.inl rfl), adl (by omega), (by first | assumption | exact vp_in_nI (by omega) (by omega)), (by first | exact rowsF_at (by omega) | exact shF_at (by omega)), ?_⟩ | refine hZ _ _ _ _ ?_)
      show Z _ 7 _ _
      rw [nI_inc, pk_mul]
      exact nx
  iterate 6 (first | refine hZ _ _ _ _ ⟨rfl, ?_⟩ | refine hZ _ _ _ _ ⟨_, _, (by repeat (first | exact up_s | assumption | refine up_n (by omega) ?_)), adl (by omega), (by rfl), ?_⟩ | refine hZ _ _ _ _ ⟨_, _, (by repeat (first | exact up_s | assumption | refine up_n (by omega) ?_)), adl (by omega), (by first | assumption | exact vp_in_nI (by omega) (by omega)), ?_⟩ | refine hZ _ _ _ _ ⟨_, (by repeat (first | exact up_s | assumption | refine up_n (by omega) ?_)), adl (by omega), (by rfl), trivial, ?_⟩ | refine hZ _ _ _ _ ⟨trivial, ?_⟩ | refine hZ _ _ _ _ ⟨_, _, _, _, (by repeat (first | exact up_s | assumption | refine up_n (by omega) ?_)), (by first | exact Or.inr (Or.inr rfl) | exact Or.inr (Or.inl rfl) | exact Or.inl rfl), adl (by omega), (by first | assumption | exact vp_in_nI (by omega) (by omega)), (by first | exact rowsF_at (by omega) | exact shF_at (by omega)), ?_⟩ | refine hZ _ _ _ _ ?_)
  show Z _ 7 _ _
  rw [lit_1, lit_2]
  exact scale (n - 2) 2 (by omega) (by omega)
theorem lI_m1 : Int64.ofNat 18446744073709551615 = lI (-1) := by decide
set_option maxHeartbeats 4000000 in
theorem m_det {l : Launch} {h : AH} {n : Nat} {R : Nat → Nat → Int} {fl tr fa to at' rp dF' dT dS rd : Int32} {A : Nat → Nat → Int32} {L : Nat → Int64} {P : Option Value → AH → Prop} (M : MM h fl tr (nI n) fa to at' rp dF' dT dS rd A L) (h2 : 2 ≤ n) (hn : n ≤ 5) (hR : ∀ p q, p < n → q < n → L (5 * p + q) = lI (R p q))
    (hp : ∀ h' f, Fr 61 82 h h' → MM h' fl tr (nI n) fa to at' rp dF' dT dS rd (updA A 79 f) L → P (some (.long (lI (dF n R)))) h') : Sem l QX7_determinant 82 h [.ref 61] P := by
  have m0 := M.1
  have hm120 := fct_le (n := n) (k := n) hn
  refine iX7_determinant rfl ?_
  intro Z hZ
  have sums : ∀ e q h1 f1 o5 o6 o8, q + e = fct n → MM h1 fl tr (nI n) fa to at' rp dF' dT dS rd (updA A 79 f1) L → Fr 61 82 h h1 → Z h1 27 [some (.ref 61), some (.int (nI (fct n))), some (.long (lI (sI (dtm n R) q))), none, some (.int (nI q)), o5, o6, none, o8] [] := by
    intro e
    induction e with
    | zero =>
      intro q h1 f1 o5 o6 o8 hq M1 F1
      have m10 := M1.1
      repeat (first | refine hZ _ _ _ _ ⟨rfl, ?_⟩ | refine hZ _ _ _ _ ⟨_, _, (by repeat (first | exact up_s | assumption | refine up_n (by omega) ?_)), adl (by omega), (by rfl), ?_⟩ | refine hZ _ _ _ _ ⟨_, _, (by repeat (first | exact up_s | assumption | refine up_n (by omega) ?_)), adl (by omega), (by first | assumption | exact vp_in_nI (by omega) (by omega)), ?_⟩ | refine hZ _ _ _ _ ⟨_, (by repeat (first | exact up_s | assumption | refine up_n (by omega) ?_)), adl (by omega), (by rfl), trivial, ?_⟩ | refine hZ _ _ _ _ ⟨trivial, ?_⟩ | refine hZ _ _ _ _ ⟨_, _, _, _, (by repeat (first | exact up_s | assumption | refine up_n (by omega) ?_)), (by first | exact Or.inr (Or.inr rfl) | exact Or.inr (Or.inl rfl) | exact Or.inl rfl), adl (by omega), (by first | assumption | exact vp_in_nI (by omega) (by omega)), (by first | exact rowsF_at (by omega) | exact shF_at (by omega)), ?_⟩ | refine hZ _ _ _ _ ?_)
      refine ⟨fun c => ?_, fun c => absurd (nI_le (by omega) (by omega)) c⟩
      rw [show q = fct n by omega, pdet h2 hn]
      repeat (first | refine hZ _ _ _ _ ⟨rfl, ?_⟩ | refine hZ _ _ _ _ ⟨_, _, (by repeat (first | exact up_s | assumption | refine up_n (by omega) ?_)), adl (by omega), (by rfl), ?_⟩ | refine hZ _ _ _ _ ⟨_, _, (by repeat (first | exact up_s | assumption | refine up_n (by omega) ?_)), adl (by omega), (by first | assumption | exact vp_in_nI (by omega) (by omega)), ?_⟩ | refine hZ _ _ _ _ ⟨_, (by repeat (first | exact up_s | assumption | refine up_n (by omega) ?_)), adl (by omega), (by rfl), trivial, ?_⟩ | refine hZ _ _ _ _ ⟨trivial, ?_⟩ | refine hZ _ _ _ _ ⟨_, _, _, _, (by repeat (first | exact up_s | assumption | refine up_n (by omega) ?_)), (by first | exact Or.inr (Or.inr rfl) | exact Or.inr (Or.inl rfl) | exact Or.inl rfl), adl (by omega), (by first | assumption | exact vp_in_nI (by omega) (by omega)), (by first | exact rowsF_at (by omega) | exact shF_at (by omega)), ?_⟩ | refine hZ _ _ _ _ ?_)
      exact hp h1 f1 F1 M1
    | succ e ih =>
      intro q h1 f1 o5 o6 o8 hq M1 F1
      have m10 := M1.1
      repeat (first | refine hZ _ _ _ _ ⟨rfl, ?_⟩ | refine hZ _ _ _ _ ⟨_, _, (by repeat (first | exact up_s | assumption | refine up_n (by omega) ?_)), adl (by omega), (by rfl), ?_⟩ | refine hZ _ _ _ _ ⟨_, _, (by repeat (first | exact up_s | assumption | refine up_n (by omega) ?_)), adl (by omega), (by first | assumption | exact vp_in_nI (by omega) (by omega)), ?_⟩ | refine hZ _ _ _ _ ⟨_, (by repeat (first | exact up_s | assumption | refine up_n (by omega) ?_)), adl (by omega), (by rfl), trivial, ?_⟩ | refine hZ _ _ _ _ ⟨trivial, ?_⟩ | refine hZ _ _ _ _ ⟨_, _, _, _, (by repeat (first | exact up_s | assumption | refine up_n (by omega) ?_)), (by first | exact Or.inr (Or.inr rfl) | exact Or.inr (Or.inl rfl) | exact Or.inl rfl), adl (by omega), (by first | assumption | exact vp_in_nI (by omega) (by omega)), (by first | exact rowsF_at (by omega) | exact shF_at (by omega)), ?_⟩ | refine hZ _ _ _ _ ?_)
      refine ⟨fun c => absurd c (nI_ge (by omega) (by omega)), fun c => ?_⟩
      iterate 2 (first | refine hZ _ _ _ _ ⟨rfl, ?_⟩ | refine hZ _ _ _ _ ⟨_, _, (by repeat (first | exact up_s | assumption | refine up_n (by omega) ?_)), adl (by omega), (by rfl), ?_⟩ | refine hZ _ _ _ _ ⟨_, _, (by repeat (first | exact up_s | assumption | refine up_n (by omega) ?_)), adl (by omega), (by first | assumption | exact vp_in_nI (by omega) (by omega)), ?_⟩ | refine hZ _ _ _ _ ⟨_, (by repeat (first | exact up_s | assumption | refine up_n (by omega) ?_)), adl (by omega), (by rfl), trivial, ?_⟩ | refine hZ _ _ _ _ ⟨trivial, ?_⟩ | refine hZ _ _ _ _ ⟨_, _, _, _, (by repeat (first | exact up_s | assumption | refine up_n (by omega) ?_)), (by first | exact Or.inr (Or.inr rfl) | exact Or.inr (Or.inl rfl) | exact Or.inl rfl), adl (by omega), (by first | assumption | exact vp_in_nI (by omega) (by omega)), (by first | exact rowsF_at (by omega) | exact shF_at (by omega)), ?_⟩ | refine hZ _ _ _ _ ?_)
      show Z _ 36 _ _
      refine hZ _ _ _ _ ⟨⟨_, (by repeat (first | exact up_s | assumption | refine up_n (by omega) ?_))⟩, adl (by omega), rfl, ?_⟩
      refine m_findColumns M1 h2 hn (show q < fct n by omega) (fun h3 f3 F3 M3 hf3 => ?_)
      show Z _ 39 _ _
      rw [show updA (updA A 79 f1) 79 f3 = updA A 79 f3 from funext (fun j => by
        unfold updA
        split <;> rfl)] at M3
      have F13 := F1.tr F3
      have m30 := M3.1
      have m378 := M3.2.1
      have m379 := M3.at (j := 79) (m := 5) (by omega) (by omega) (by omega) rfl
      rw [updA_s] at m379
      have mul : ∀ (b : Int32) e2 p, p + e2 = n → Z h3 58 [some (.ref 61), some (.int (nI (fct n))), some (.long (lI (sI (dtm n R) q))), none, some (.int (nI q)), some (.int b), some (.long (lI (dpr (sgn n q) R n q p))), none, some (.int (nI p))] [] := by
        intro b e2
        induction e2 with
        | zero =>
          intro p hpe
          have nx := fun o5 o6 o8 => ih (q + 1) h3 f3 o5 o6 o8 (by omega) M3 F13
          rw [show sI (dtm n R) (q + 1) = sI (dtm n R) q + dpr (sgn n q) R n q n from rfl] at nx
          repeat (first | refine hZ _ _ _ _ ⟨rfl, ?_⟩ | refine hZ _ _ _ _ ⟨_, _, (by repeat (first | exact up_s | assumption | refine up_n (by omega) ?_)), adl (by omega), (by rfl), ?_⟩ | refine hZ _ _ _ _ ⟨_, _, (by repeat (first | exact up_s | assumption | refine up_n (by omega) ?_)), adl (by omega), (by first | assumption | exact vp_in_nI (by omega) (by omega)), ?_⟩ | refine hZ _ _ _ _ ⟨_, (by repeat (first | exact up_s | assumption | refine up_n (by omega) ?_)), adl (by omega), (by rfl), trivial, ?_⟩ | refine hZ _ _ _ _ ⟨trivial, ?_⟩ | refine hZ _ _ _ _ ⟨_, _, _, _, (by repeat (first | exact up_s | assumption | refine up_n (by omega) ?_)), (by first | exact Or.inr (Or.inr rfl) | exact Or.inr (Or.inl rfl) | exact Or.inl rfl), adl (by omega), (by first | assumption | exact vp_in_nI (by omega) (by omega)), (by first | exact rowsF_at (by omega) | exact shF_at (by omega)), ?_⟩ | refine hZ _ _ _ _ ?_)
          refine ⟨fun c => ?_, fun c => absurd (nI_le (by omega) (by omega)) c⟩
          rw [show p = n by omega]
          iterate 3 (first | refine hZ _ _ _ _ ⟨rfl, ?_⟩ | refine hZ _ _ _ _ ⟨_, _, (by repeat (first | exact up_s | assumption | refine up_n (by omega) ?_)), adl (by omega), (by rfl), ?_⟩ | refine hZ _ _ _ _ ⟨_, _, (by repeat (first | exact up_s | assumption | refine up_n (by omega) ?_)), adl (by omega), (by first | assumption | exact vp_in_nI (by omega) (by omega)), ?_⟩ | refine hZ _ _ _ _ ⟨_, (by repeat (first | exact up_s | assumption | refine up_n (by omega) ?_)), adl (by omega), (by rfl), trivial, ?_⟩ | refine hZ _ _ _ _ ⟨trivial, ?_⟩ | refine hZ _ _ _ _ ⟨_, _, _, _, (by repeat (first | exact up_s | assumption | refine up_n (by omega) ?_)), (by first | exact Or.inr (Or.inr rfl) | exact Or.inr (Or.inl rfl) | exact Or.inl rfl), adl (by omega), (by first | assumption | exact vp_in_nI (by omega) (by omega)), (by first | exact rowsF_at (by omega) | exact shF_at (by omega)), ?_⟩ | refine hZ _ _ _ _ ?_)
          show Z _ 99 _ _
          rw [lI_add]
          iterate 1 (first | refine hZ _ _ _ _ ⟨rfl, ?_⟩ | refine hZ _ _ _ _ ⟨_, _, (by repeat (first | exact up_s | assumption | refine up_n (by omega) ?_)), adl (by omega), (by rfl), ?_⟩ | refine hZ _ _ _ _ ⟨_, _, (by repeat (first | exact up_s | assumption | refine up_n (by omega) ?_)), adl (by omega), (by first | assumption | exact vp_in_nI (by omega) (by omega)), ?_⟩ | refine hZ _ _ _ _ ⟨_, (by repeat (first | exact up_s | assumption | refine up_n (by omega) ?_)), adl (by omega), (by rfl), trivial, ?_⟩ | refine hZ _ _ _ _ ⟨trivial, ?_⟩ | refine hZ _ _ _ _ ⟨_, _, _, _, (by repeat (first | exact up_s | assumption | refine up_n (by omega) ?_)), (by first | exact Or.inr (Or.inr rfl) | exact Or.inr (Or.inl rfl) | exact Or.inl rfl), adl (by omega), (by first | assumption | exact vp_in_nI (by omega) (by omega)), (by first | exact rowsF_at (by omega) | exact shF_at (by omega)), ?_⟩ | refine hZ _ _ _ _ ?_)
          show Z _ 100 _ _
          show Z h3 100 [some (.ref 61), some (.int (nI (fct n))), some (.long (lI (sI (dtm n R) q + dpr (sgn n q) R n q n))), none, some (.int (nI q)), some (.int b), some (.long (lI (dpr (sgn n q) R n q n))), none, some (.int (nI n))] []
          iterate 2 (first | refine hZ _ _ _ _ ⟨rfl, ?_⟩ | refine hZ _ _ _ _ ⟨_, _, (by repeat (first | exact up_s | assumption | refine up_n (by omega) ?_)), adl (by omega), (by rfl), ?_⟩ | refine hZ _ _ _ _ ⟨_, _, (by repeat (first | exact up_s | assumption | refine up_n (by omega) ?_)), adl (by omega), (by first | assumption | exact vp_in_nI (by omega) (by omega)), ?_⟩ | refine hZ _ _ _ _ ⟨_, (by repeat (first | exact up_s | assumption | refine up_n (by omega) ?_)), adl (by omega), (by rfl), trivial, ?_⟩ | refine hZ _ _ _ _ ⟨trivial, ?_⟩ | refine hZ _ _ _ _ ⟨_, _, _, _, (by repeat (first | exact up_s | assumption | refine up_n (by omega) ?_)), (by first | exact Or.inr (Or.inr rfl) | exact Or.inr (Or.inl rfl) | exact Or.inl rfl), adl (by omega), (by first | assumption | exact vp_in_nI (by omega) (by omega)), (by first | exact rowsF_at (by omega) | exact shF_at (by omega)), ?_⟩ | refine hZ _ _ _ _ ?_)
          show Z _ 27 _ _
          rw [nI_inc]
          exact nx _ _ _
        | succ e2 ih2 =>
          intro p hpe
          have nx := ih2 (p + 1) (by omega)
          rw [show dpr (sgn n q) R n q (p + 1) = dpr (sgn n q) R n q p * R p (fcl n q p) from rfl] at nx
          have hok := fokA h2 hn (show q < fct n by omega) (show p < n by omega)
          have hcl : fcl n q p < n := by
            unfold fok at hok
            unfold fcl
            revert hok
            generalize fst n q p = T
            obtain ⟨r, s, u, o⟩ := T
            intro hok
            dsimp only at hok ⊢
            cases hw : whl 8 u (r / s) 0 with
            | none => rw [hw] at hok; simp at hok
            | some q' =>
              rw [hw] at hok
              simp only [Bool.and_eq_true, Nat.blt_eq] at hok
              exact hok.2
          repeat (first | refine hZ _ _ _ _ ⟨rfl, ?_⟩ | refine hZ _ _ _ _ ⟨_, _, (by repeat (first | exact up_s | assumption | refine up_n (by omega) ?_)), adl (by omega), (by rfl), ?_⟩ | refine hZ _ _ _ _ ⟨_, _, (by repeat (first | exact up_s | assumption | refine up_n (by omega) ?_)), adl (by omega), (by first | assumption | exact vp_in_nI (by omega) (by omega)), ?_⟩ | refine hZ _ _ _ _ ⟨_, (by repeat (first | exact up_s | assumption | refine up_n (by omega) ?_)), adl (by omega), (by rfl), trivial, ?_⟩ | refine hZ _ _ _ _ ⟨trivial, ?_⟩ | refine hZ _ _ _ _ ⟨_, _, _, _, (by repeat (first | exact up_s | assumption | refine up_n (by omega) ?_)), (by first | exact Or.inr (Or.inr rfl) | exact Or.inr (Or.inl rfl) | exact Or.inl rfl), adl (by omega), (by first | assumption | exact vp_in_nI (by omega) (by omega)), (by first | exact rowsF_at (by omega) | exact shF_at (by omega)), ?_⟩ | refine hZ _ _ _ _ ?_)
          refine ⟨fun c => absurd c (nI_ge (by omega) (by omega)), fun c => ?_⟩
          iterate 11 (first | refine hZ _ _ _ _ ⟨rfl, ?_⟩ | refine hZ _ _ _ _ ⟨_, _, (by repeat (first | exact up_s | assumption | refine up_n (by omega) ?_)), adl (by omega), (by rfl), ?_⟩ | refine hZ _ _ _ _ ⟨_, _, (by repeat (first | exact up_s | assumption | refine up_n (by omega) ?_)), adl (by omega), (by first | assumption | exact vp_in_nI (by omega) (by omega)), ?_⟩ | refine hZ _ _ _ _ ⟨_, (by repeat (first | exact up_s | assumption | refine up_n (by omega) ?_)), adl (by omega), (by rfl), trivial, ?_⟩ | refine hZ _ _ _ _ ⟨trivial, ?_⟩ | refine hZ _ _ _ _ ⟨_, _, _, _, (by repeat (first | exact up_s | assumption | refine up_n (by omega) ?_)), (by first | exact Or.inr (Or.inr rfl) | exact Or.inr (Or.inl rfl) | exact Or.inl rfl), adl (by omega), (by first | assumption | exact vp_in_nI (by omega) (by omega)), (by first | exact rowsF_at (by omega) | exact shF_at (by omega)), ?_⟩ | refine hZ _ _ _ _ ?_)
          show Z _ 85 _ _
          rw [nI_clamp (by omega), hf3 p (by omega), lit_5, pk_mul, nI_add]
          iterate 1 (first | refine hZ _ _ _ _ ⟨rfl, ?_⟩ | refine hZ _ _ _ _ ⟨_, _, (by repeat (first | exact up_s | assumption | refine up_n (by omega) ?_)), adl (by omega), (by rfl), ?_⟩ | refine hZ _ _ _ _ ⟨_, _, (by repeat (first | exact up_s | assumption | refine up_n (by omega) ?_)), adl (by omega), (by first | assumption | exact vp_in_nI (by omega) (by omega)), ?_⟩ | refine hZ _ _ _ _ ⟨_, (by repeat (first | exact up_s | assumption | refine up_n (by omega) ?_)), adl (by omega), (by rfl), trivial, ?_⟩ | refine hZ _ _ _ _ ⟨trivial, ?_⟩ | refine hZ _ _ _ _ ⟨_, _, _, _, (by repeat (first | exact up_s | assumption | refine up_n (by omega) ?_)), (by first | exact Or.inr (Or.inr rfl) | exact Or.inr (Or.inl rfl) | exact Or.inl rfl), adl (by omega), (by first | assumption | exact vp_in_nI (by omega) (by omega)), (by first | exact rowsF_at (by omega) | exact shF_at (by omega)), ?_⟩ | refine hZ _ _ _ _ ?_)
          show Z _ 86 _ _
          rw [nI_clamp (by omega), hR p _ (by omega) hcl]
          iterate 1 (first | refine hZ _ _ _ _ ⟨rfl, ?_⟩ | refine hZ _ _ _ _ ⟨_, _, (by repeat (first | exact up_s | assumption | refine up_n (by omega) ?_)), adl (by omega), (by rfl), ?_⟩ | refine hZ _ _ _ _ ⟨_, _, (by repeat (first | exact up_s | assumption | refine up_n (by omega) ?_)), adl (by omega), (by first | assumption | exact vp_in_nI (by omega) (by omega)), ?_⟩ | refine hZ _ _ _ _ ⟨_, (by repeat (first | exact up_s | assumption | refine up_n (by omega) ?_)), adl (by omega), (by rfl), trivial, ?_⟩ | refine hZ _ _ _ _ ⟨trivial, ?_⟩ | refine hZ _ _ _ _ ⟨_, _, _, _, (by repeat (first | exact up_s | assumption | refine up_n (by omega) ?_)), (by first | exact Or.inr (Or.inr rfl) | exact Or.inr (Or.inl rfl) | exact Or.inl rfl), adl (by omega), (by first | assumption | exact vp_in_nI (by omega) (by omega)), (by first | exact rowsF_at (by omega) | exact shF_at (by omega)), ?_⟩ | refine hZ _ _ _ _ ?_)
          show Z _ 87 _ _
          rw [lI_mul]
          iterate 1 (first | refine hZ _ _ _ _ ⟨rfl, ?_⟩ | refine hZ _ _ _ _ ⟨_, _, (by repeat (first | exact up_s | assumption | refine up_n (by omega) ?_)), adl (by omega), (by rfl), ?_⟩ | refine hZ _ _ _ _ ⟨_, _, (by repeat (first | exact up_s | assumption | refine up_n (by omega) ?_)), adl (by omega), (by first | assumption | exact vp_in_nI (by omega) (by omega)), ?_⟩ | refine hZ _ _ _ _ ⟨_, (by repeat (first | exact up_s | assumption | refine up_n (by omega) ?_)), adl (by omega), (by rfl), trivial, ?_⟩ | refine hZ _ _ _ _ ⟨trivial, ?_⟩ | refine hZ _ _ _ _ ⟨_, _, _, _, (by repeat (first | exact up_s | assumption | refine up_n (by omega) ?_)), (by first | exact Or.inr (Or.inr rfl) | exact Or.inr (Or.inl rfl) | exact Or.inl rfl), adl (by omega), (by first | assumption | exact vp_in_nI (by omega) (by omega)), (by first | exact rowsF_at (by omega) | exact shF_at (by omega)), ?_⟩ | refine hZ _ _ _ _ ?_)
          show Z _ 89 _ _
          show Z h3 89 [some (.ref 61), some (.int (nI (fct n))), some (.long (lI (sI (dtm n R) q))), none, some (.int (nI q)), some (.int b), some (.long (lI (dpr (sgn n q) R n q p * R p (fcl n q p)))), none, some (.int (nI p))] []
          iterate 2 (first | refine hZ _ _ _ _ ⟨rfl, ?_⟩ | refine hZ _ _ _ _ ⟨_, _, (by repeat (first | exact up_s | assumption | refine up_n (by omega) ?_)), adl (by omega), (by rfl), ?_⟩ | refine hZ _ _ _ _ ⟨_, _, (by repeat (first | exact up_s | assumption | refine up_n (by omega) ?_)), adl (by omega), (by first | assumption | exact vp_in_nI (by omega) (by omega)), ?_⟩ | refine hZ _ _ _ _ ⟨_, (by repeat (first | exact up_s | assumption | refine up_n (by omega) ?_)), adl (by omega), (by rfl), trivial, ?_⟩ | refine hZ _ _ _ _ ⟨trivial, ?_⟩ | refine hZ _ _ _ _ ⟨_, _, _, _, (by repeat (first | exact up_s | assumption | refine up_n (by omega) ?_)), (by first | exact Or.inr (Or.inr rfl) | exact Or.inr (Or.inl rfl) | exact Or.inl rfl), adl (by omega), (by first | assumption | exact vp_in_nI (by omega) (by omega)), (by first | exact rowsF_at (by omega) | exact shF_at (by omega)), ?_⟩ | refine hZ _ _ _ _ ?_)
          show Z _ 58 _ _
          rw [nI_inc]
          exact nx
      have at53 : ∀ b, Z h3 53 [some (.ref 61), some (.int (nI (fct n))), some (.long (lI (sI (dtm n R) q))), none, some (.int (nI q)), some (.int b), o6, none, o8] [.long (lI (sgn n q))] := by
        intro b
        iterate 1 (first | refine hZ _ _ _ _ ⟨rfl, ?_⟩ | refine hZ _ _ _ _ ⟨_, _, (by repeat (first | exact up_s | assumption | refine up_n (by omega) ?_)), adl (by omega), (by rfl), ?_⟩ | refine hZ _ _ _ _ ⟨_, _, (by repeat (first | exact up_s | assumption | refine up_n (by omega) ?_)), adl (by omega), (by first | assumption | exact vp_in_nI (by omega) (by omega)), ?_⟩ | refine hZ _ _ _ _ ⟨_, (by repeat (first | exact up_s | assumption | refine up_n (by omega) ?_)), adl (by omega), (by rfl), trivial, ?_⟩ | refine hZ _ _ _ _ ⟨trivial, ?_⟩ | refine hZ _ _ _ _ ⟨_, _, _, _, (by repeat (first | exact up_s | assumption | refine up_n (by omega) ?_)), (by first | exact Or.inr (Or.inr rfl) | exact Or.inr (Or.inl rfl) | exact Or.inl rfl), adl (by omega), (by first | assumption | exact vp_in_nI (by omega) (by omega)), (by first | exact rowsF_at (by omega) | exact shF_at (by omega)), ?_⟩ | refine hZ _ _ _ _ ?_)
        show Z _ 55 _ _
        show Z h3 55 [some (.ref 61), some (.int (nI (fct n))), some (.long (lI (sI (dtm n R) q))), none, some (.int (nI q)), some (.int b), some (.long (lI (sgn n q))), none, o8] []
        iterate 2 (first | refine hZ _ _ _ _ ⟨rfl, ?_⟩ | refine hZ _ _ _ _ ⟨_, _, (by repeat (first | exact up_s | assumption | refine up_n (by omega) ?_)), adl (by omega), (by rfl), ?_⟩ | refine hZ _ _ _ _ ⟨_, _, (by repeat (first | exact up_s | assumption | refine up_n (by omega) ?_)), adl (by omega), (by first | assumption | exact vp_in_nI (by omega) (by omega)), ?_⟩ | refine hZ _ _ _ _ ⟨_, (by repeat (first | exact up_s | assumption | refine up_n (by omega) ?_)), adl (by omega), (by rfl), trivial, ?_⟩ | refine hZ _ _ _ _ ⟨trivial, ?_⟩ | refine hZ _ _ _ _ ⟨_, _, _, _, (by repeat (first | exact up_s | assumption | refine up_n (by omega) ?_)), (by first | exact Or.inr (Or.inr rfl) | exact Or.inr (Or.inl rfl) | exact Or.inl rfl), adl (by omega), (by first | assumption | exact vp_in_nI (by omega) (by omega)), (by first | exact rowsF_at (by omega) | exact shF_at (by omega)), ?_⟩ | refine hZ _ _ _ _ ?_)
        show Z _ 58 _ _
        rw [lit_0]
        exact mul b n 0 (by omega)
      iterate 1 (first | refine hZ _ _ _ _ ⟨rfl, ?_⟩ | refine hZ _ _ _ _ ⟨_, _, (by repeat (first | exact up_s | assumption | refine up_n (by omega) ?_)), adl (by omega), (by rfl), ?_⟩ | refine hZ _ _ _ _ ⟨_, _, (by repeat (first | exact up_s | assumption | refine up_n (by omega) ?_)), adl (by omega), (by first | assumption | exact vp_in_nI (by omega) (by omega)), ?_⟩ | refine hZ _ _ _ _ ⟨_, (by repeat (first | exact up_s | assumption | refine up_n (by omega) ?_)), adl (by omega), (by rfl), trivial, ?_⟩ | refine hZ _ _ _ _ ⟨trivial, ?_⟩ | refine hZ _ _ _ _ ⟨_, _, _, _, (by repeat (first | exact up_s | assumption | refine up_n (by omega) ?_)), (by first | exact Or.inr (Or.inr rfl) | exact Or.inr (Or.inl rfl) | exact Or.inl rfl), adl (by omega), (by first | assumption | exact vp_in_nI (by omega) (by omega)), (by first | exact rowsF_at (by omega) | exact shF_at (by omega)), ?_⟩ | refine hZ _ _ _ _ ?_)
      show Z _ 41 _ _
      show Z h3 41 [some (.ref 61), some (.int (nI (fct n))), some (.long (lI (sI (dtm n R) q))), none, some (.int (nI q)), some (.int (b2i (decide ((fst n q n).2.2.2 % 2 = 0)))), o6, none, o8] []
      by_cases h0 : (fst n q n).2.2.2 % 2 = 0
      · have hsg : sgn n q = 1 := if_pos h0
        rw [hsg] at at53
        rw [decide_eq_true h0]
        repeat (first | refine hZ _ _ _ _ ⟨rfl, ?_⟩ | refine hZ _ _ _ _ ⟨_, _, (by repeat (first | exact up_s | assumption | refine up_n (by omega) ?_)), adl (by omega), (by rfl), ?_⟩ | refine hZ _ _ _ _ ⟨_, _, (by repeat (first | exact up_s | assumption | refine up_n (by omega) ?_)), adl (by omega), (by first | assumption | exact vp_in_nI (by omega) (by omega)), ?_⟩ | refine hZ _ _ _ _ ⟨_, (by repeat (first | exact up_s | assumption | refine up_n (by omega) ?_)), adl (by omega), (by rfl), trivial, ?_⟩ | refine hZ _ _ _ _ ⟨trivial, ?_⟩ | refine hZ _ _ _ _ ⟨_, _, _, _, (by repeat (first | exact up_s | assumption | refine up_n (by omega) ?_)), (by first | exact Or.inr (Or.inr rfl) | exact Or.inr (Or.inl rfl) | exact Or.inl rfl), adl (by omega), (by first | assumption | exact vp_in_nI (by omega) (by omega)), (by first | exact rowsF_at (by omega) | exact shF_at (by omega)), ?_⟩ | refine hZ _ _ _ _ ?_)
        refine ⟨fun c => absurd c (by decide), fun c => ?_⟩
        iterate 2 (first | refine hZ _ _ _ _ ⟨rfl, ?_⟩ | refine hZ _ _ _ _ ⟨_, _, (by repeat (first | exact up_s | assumption | refine up_n (by omega) ?_)), adl (by omega), (by rfl), ?_⟩ | refine hZ _ _ _ _ ⟨_, _, (by repeat (first | exact up_s | assumption | refine up_n (by omega) ?_)), adl (by omega), (by first | assumption | exact vp_in_nI (by omega) (by omega)), ?_⟩ | refine hZ _ _ _ _ ⟨_, (by repeat (first | exact up_s | assumption | refine up_n (by omega) ?_)), adl (by omega), (by rfl), trivial, ?_⟩ | refine hZ _ _ _ _ ⟨trivial, ?_⟩ | refine hZ _ _ _ _ ⟨_, _, _, _, (by repeat (first | exact up_s | assumption | refine up_n (by omega) ?_)), (by first | exact Or.inr (Or.inr rfl) | exact Or.inr (Or.inl rfl) | exact Or.inl rfl), adl (by omega), (by first | assumption | exact vp_in_nI (by omega) (by omega)), (by first | exact rowsF_at (by omega) | exact shF_at (by omega)), ?_⟩ | refine hZ _ _ _ _ ?_)
        show Z _ 53 _ _
        rw [lI_1]
        exact at53 _
      · have hsg : sgn n q = -1 := if_neg h0
        rw [hsg] at at53
        rw [decide_eq_false h0]
        repeat (first | refine hZ _ _ _ _ ⟨rfl, ?_⟩ | refine hZ _ _ _ _ ⟨_, _, (by repeat (first | exact up_s | assumption | refine up_n (by omega) ?_)), adl (by omega), (by rfl), ?_⟩ | refine hZ _ _ _ _ ⟨_, _, (by repeat (first | exact up_s | assumption | refine up_n (by omega) ?_)), adl (by omega), (by first | assumption | exact vp_in_nI (by omega) (by omega)), ?_⟩ | refine hZ _ _ _ _ ⟨_, (by repeat (first | exact up_s | assumption | refine up_n (by omega) ?_)), adl (by omega), (by rfl), trivial, ?_⟩ | refine hZ _ _ _ _ ⟨trivial, ?_⟩ | refine hZ _ _ _ _ ⟨_, _, _, _, (by repeat (first | exact up_s | assumption | refine up_n (by omega) ?_)), (by first | exact Or.inr (Or.inr rfl) | exact Or.inr (Or.inl rfl) | exact Or.inl rfl), adl (by omega), (by first | assumption | exact vp_in_nI (by omega) (by omega)), (by first | exact rowsF_at (by omega) | exact shF_at (by omega)), ?_⟩ | refine hZ _ _ _ _ ?_)
        refine ⟨fun c => ?_, fun c => absurd rfl c⟩
        iterate 1 (first | refine hZ _ _ _ _ ⟨rfl, ?_⟩ | refine hZ _ _ _ _ ⟨_, _, (by repeat (first | exact up_s | assumption | refine up_n (by omega) ?_)), adl (by omega), (by rfl), ?_⟩ | refine hZ _ _ _ _ ⟨_, _, (by repeat (first | exact up_s | assumption | refine up_n (by omega) ?_)), adl (by omega), (by first | assumption | exact vp_in_nI (by omega) (by omega)), ?_⟩ | refine hZ _ _ _ _ ⟨_, (by repeat (first | exact up_s | assumption | refine up_n (by omega) ?_)), adl (by omega), (by rfl), trivial, ?_⟩ | refine hZ _ _ _ _ ⟨trivial, ?_⟩ | refine hZ _ _ _ _ ⟨_, _, _, _, (by repeat (first | exact up_s | assumption | refine up_n (by omega) ?_)), (by first | exact Or.inr (Or.inr rfl) | exact Or.inr (Or.inl rfl) | exact Or.inl rfl), adl (by omega), (by first | assumption | exact vp_in_nI (by omega) (by omega)), (by first | exact rowsF_at (by omega) | exact shF_at (by omega)), ?_⟩ | refine hZ _ _ _ _ ?_)
        show Z _ 53 _ _
        rw [lI_m1]
        exact at53 _
  have rows : ∀ e k, k + e = n + 1 → 2 ≤ k → Z h 4 [some (.ref 61), some (.int (nI (fct (k - 1)))), some (.int (nI k)), none, none, none, none, none, none] [] := by
    intro e
    induction e with
    | zero =>
      intro k hk hk2
      repeat (first | refine hZ _ _ _ _ ⟨rfl, ?_⟩ | refine hZ _ _ _ _ ⟨_, _, (by repeat (first | exact up_s | assumption | refine up_n (by omega) ?_)), adl (by omega), (by rfl), ?_⟩ | refine hZ _ _ _ _ ⟨_, _, (by repeat (first | exact up_s | assumption | refine up_n (by omega) ?_)), adl (by omega), (by first | assumption | exact vp_in_nI (by omega) (by omega)), ?_⟩ | refine hZ _ _ _ _ ⟨_, (by repeat (first | exact up_s | assumption | refine up_n (by omega) ?_)), adl (by omega), (by rfl), trivial, ?_⟩ | refine hZ _ _ _ _ ⟨trivial, ?_⟩ | refine hZ _ _ _ _ ⟨_, _, _, _, (by repeat (first | exact up_s | assumption | refine up_n (by omega) ?_)), (by first | exact Or.inr (Or.inr rfl) | exact Or.inr (Or.inl rfl) | exact Or.inl rfl), adl (by omega), (by first | assumption | exact vp_in_nI (by omega) (by omega)), (by first | exact rowsF_at (by omega) | exact shF_at (by omega)), ?_⟩ | refine hZ _ _ _ _ ?_)
      refine ⟨fun c => ?_, fun c => absurd (nI_lt (by omega) (by omega)) c⟩
      rw [show k - 1 = n by omega]
      iterate 2 (first | refine hZ _ _ _ _ ⟨rfl, ?_⟩ | refine hZ _ _ _ _ ⟨_, _, (by repeat (first | exact up_s | assumption | refine up_n (by omega) ?_)), adl (by omega), (by rfl), ?_⟩ | refine hZ _ _ _ _ ⟨_, _, (by repeat (first | exact up_s | assumption | refine up_n (by omega) ?_)), adl (by omega), (by first | assumption | exact vp_in_nI (by omega) (by omega)), ?_⟩ | refine hZ _ _ _ _ ⟨_, (by repeat (first | exact up_s | assumption | refine up_n (by omega) ?_)), adl (by omega), (by rfl), trivial, ?_⟩ | refine hZ _ _ _ _ ⟨trivial, ?_⟩ | refine hZ _ _ _ _ ⟨_, _, _, _, (by repeat (first | exact up_s | assumption | refine up_n (by omega) ?_)), (by first | exact Or.inr (Or.inr rfl) | exact Or.inr (Or.inl rfl) | exact Or.inl rfl), adl (by omega), (by first | assumption | exact vp_in_nI (by omega) (by omega)), (by first | exact rowsF_at (by omega) | exact shF_at (by omega)), ?_⟩ | refine hZ _ _ _ _ ?_)
      show Z _ 24 _ _
      rw [lI_0]
      show Z h 24 [some (.ref 61), some (.int (nI (fct n))), some (.long (lI 0)), none, none, none, none, none, none] []
      iterate 2 (first | refine hZ _ _ _ _ ⟨rfl, ?_⟩ | refine hZ _ _ _ _ ⟨_, _, (by repeat (first | exact up_s | assumption | refine up_n (by omega) ?_)), adl (by omega), (by rfl), ?_⟩ | refine hZ _ _ _ _ ⟨_, _, (by repeat (first | exact up_s | assumption | refine up_n (by omega) ?_)), adl (by omega), (by first | assumption | exact vp_in_nI (by omega) (by omega)), ?_⟩ | refine hZ _ _ _ _ ⟨_, (by repeat (first | exact up_s | assumption | refine up_n (by omega) ?_)), adl (by omega), (by rfl), trivial, ?_⟩ | refine hZ _ _ _ _ ⟨trivial, ?_⟩ | refine hZ _ _ _ _ ⟨_, _, _, _, (by repeat (first | exact up_s | assumption | refine up_n (by omega) ?_)), (by first | exact Or.inr (Or.inr rfl) | exact Or.inr (Or.inl rfl) | exact Or.inl rfl), adl (by omega), (by first | assumption | exact vp_in_nI (by omega) (by omega)), (by first | exact rowsF_at (by omega) | exact shF_at (by omega)), ?_⟩ | refine hZ _ _ _ _ ?_)
      show Z _ 27 _ _
      rw [lit_0]
      refine sums (fct n) 0 h (A 79) _ _ _ (by omega) ?_ Fr.rf
      rw [show updA A 79 (A 79) = A from funext (fun j => by
        unfold updA
        by_cases e9 : j = 79
        · rw [if_pos e9, e9]
        · rw [if_neg e9])]
      exact M
    | succ e ih =>
      intro k hk hk2
      have nx := ih (k + 1) (by omega) (by omega)
      obtain ⟨k', rfl⟩ : ∃ k', k = k' + 1 := ⟨k - 1, by omega⟩
      rw [show fct (k' + 1 + 1 - 1) = fct (k' + 1 - 1) * (k' + 1) from rfl] at nx
      repeat (first | refine hZ _ _ _ _ ⟨rfl, ?_⟩ | refine hZ _ _ _ _ ⟨_, _, (by repeat (first | exact up_s | assumption | refine up_n (by omega) ?_)), adl (by omega), (by rfl), ?_⟩ | refine hZ _ _ _ _ ⟨_, _, (by repeat (first | exact up_s | assumption | refine up_n (by omega) ?_)), adl (by omega), (by first | assumption | exact vp_in_nI (by omega) (by omega)), ?_⟩ | refine hZ _ _ _ _ ⟨_, (by repeat (first | exact up_s | assumption | refine up_n (by omega) ?_)), adl (by omega), (by rfl), trivial, ?_⟩ | refine hZ _ _ _ _ ⟨trivial, ?_⟩ | refine hZ _ _ _ _ ⟨_, _, _, _, (by repeat (first | exact up_s | assumption | refine up_n (by omega) ?_)), (by first | exact Or.inr (Or.inr rfl) | exact Or.inr (Or.inl rfl) | exact Or.inl rfl), adl (by omega), (by first | assumption | exact vp_in_nI (by omega) (by omega)), (by first | exact rowsF_at (by omega) | exact shF_at (by omega)), ?_⟩ | refine hZ _ _ _ _ ?_)
      refine ⟨fun c => absurd c (nI_nlt (by omega) (by omega)), fun c => ?_⟩
      iterate 6 (first | refine hZ _ _ _ _ ⟨rfl, ?_⟩ | refine hZ _ _ _ _ ⟨_, _, (by repeat (first | exact up_s | assumption | refine up_n (by omega) ?_)), adl (by omega), (by rfl), ?_⟩ | refine hZ _ _ _ _ ⟨_, _, (by repeat (first | exact up_s | assumption | refine up_n (by omega) ?_)), adl (by omega), (by first | assumption | exact vp_in_nI (by omega) (by omega)), ?_⟩ | refine hZ _ _ _ _ ⟨_, (by repeat (first | exact up_s | assumption | refine up_n (by omega) ?_)), adl (by omega), (by rfl), trivial, ?_⟩ | refine hZ _ _ _ _ ⟨trivial, ?_⟩ | refine hZ _ _ _ _ ⟨_, _, _, _, (by repeat (first | exact up_s | assumption | refine up_n (by omega) ?_)), (by first | exact Or.inr (Or.inr rfl) | exact Or.inr (Or.inl rfl) | exact Or.inl rfl), adl (by omega), (by first | assumption | exact vp_in_nI (by omega) (by omega)), (by first | exact rowsF_at (by omega) | exact shF_at (by omega)), ?_⟩ | refine hZ _ _ _ _ ?_)
      show Z _ 4 _ _
      rw [nI_inc, pk_mul]
      exact nx
  iterate 4 (first | refine hZ _ _ _ _ ⟨rfl, ?_⟩ | refine hZ _ _ _ _ ⟨_, _, (by repeat (first | exact up_s | assumption | refine up_n (by omega) ?_)), adl (by omega), (by rfl), ?_⟩ | refine hZ _ _ _ _ ⟨_, _, (by repeat (first | exact up_s | assumption | refine up_n (by omega) ?_)), adl (by omega), (by first | assumption | exact vp_in_nI (by omega) (by omega)), ?_⟩ | refine hZ _ _ _ _ ⟨_, (by repeat (first | exact up_s | assumption | refine up_n (by omega) ?_)), adl (by omega), (by rfl), trivial, ?_⟩ | refine hZ _ _ _ _ ⟨trivial, ?_⟩ | refine hZ _ _ _ _ ⟨_, _, _, _, (by repeat (first | exact up_s | assumption | refine up_n (by omega) ?_)), (by first | exact Or.inr (Or.inr rfl) | exact Or.inr (Or.inl rfl) | exact Or.inl rfl), adl (by omega), (by first | assumption | exact vp_in_nI (by omega) (by omega)), (by first | exact rowsF_at (by omega) | exact shF_at (by omega)), ?_⟩ | refine hZ _ _ _ _ ?_)
  show Z _ 4 _ _
  rw [lit_1, lit_2]
  exact rows (n - 1) 2 (by omega) (by omega)
set_option maxHeartbeats 4000000 in
theorem m_square {l : Launch} {h : AH} {n i0 : Nat} {a : Nat → Nat → Nat} {w κ x cv : Nat → Nat} {col : Int32} {R : Nat → Nat → Int} {fl tr fa to at' rp dF' dT dS rd : Int32} {A : Nat → Nat → Int32} {L : Nat → Int64} {P : Option Value → AH → Prop} (M : MM h fl tr (nI n) fa to at' rp dF' dT dS rd A L) (G : Mg A n a w κ) (hX : Mx A n x) (Y : Yw n a w κ) (hi0 : i0 + n ≤ 240) (hcv : ∀ p, p < n → A 64 (i0 + p) = nI (cv p)) (hcv2 : ∀ p, p < n → cv p < 2 ^ 30) (hx2 : ∀ p, p < n → x p < 2 ^ 30)
    (hcol : col = -9 ∧ R = sqr n a w ∨ ∃ c, c < n ∧ col = nI c ∧ R = upC (sqr n a w) c (fun p => (x p : Int) - cv p))
    (hp : ∀ h' L', Fr 61 82 h h' → MM h' fl tr (nI n) fa to at' rp dF' dT dS rd A L' → (∀ p q, p < n → q < n → L' (5 * p + q) = lI (R p q)) → P none h') : Sem l QX7_writeSquare 82 h [.ref 61, .int col, .int (nI i0)] P := by
  have m0 := M.1
  have hn := Y.1
  refine iX7_writeSquare rfl ?_
  intro Z hZ
  have outer : ∀ e p h1 L1 o4, p + e = n → MM h1 fl tr (nI n) fa to at' rp dF' dT dS rd A L1 → Fr 61 82 h h1 → (∀ i, i < p → ∀ q, q < n → L1 (5 * i + q) = lI (R i q)) → Z h1 2 [some (.ref 61), some (.int col), some (.int (nI i0)), some (.int (nI p)), o4] [] := by
    intro e
    induction e with
    | zero =>
      intro p h1 L1 o4 hpe M1 F1 hL
      have m10 := M1.1
      repeat (first | refine hZ _ _ _ _ ⟨rfl, ?_⟩ | refine hZ _ _ _ _ ⟨_, _, (by repeat (first | exact up_s | assumption | refine up_n (by omega) ?_)), adl (by omega), (by rfl), ?_⟩ | refine hZ _ _ _ _ ⟨_, _, (by repeat (first | exact up_s | assumption | refine up_n (by omega) ?_)), adl (by omega), (by first | assumption | exact vp_in_nI (by omega) (by omega)), ?_⟩ | refine hZ _ _ _ _ ⟨_, (by repeat (first | exact up_s | assumption | refine up_n (by omega) ?_)), adl (by omega), (by rfl), trivial, ?_⟩ | refine hZ _ _ _ _ ⟨trivial, ?_⟩ | refine hZ _ _ _ _ ⟨_, _, _, _, (by repeat (first | exact up_s | assumption | refine up_n (by omega) ?_)), (by first | exact Or.inr (Or.inr rfl) | exact Or.inr (Or.inl rfl) | exact Or.inl rfl), adl (by omega), (by first | assumption | exact vp_in_nI (by omega) (by omega)), (by first | exact rowsF_at (by omega) | exact shF_at (by omega)), ?_⟩ | refine hZ _ _ _ _ ?_)
      refine ⟨fun c => ?_, fun c => absurd (nI_le (by omega) (by omega)) c⟩
      repeat (first | refine hZ _ _ _ _ ⟨rfl, ?_⟩ | refine hZ _ _ _ _ ⟨_, _, (by repeat (first | exact up_s | assumption | refine up_n (by omega) ?_)), adl (by omega), (by rfl), ?_⟩ | refine hZ _ _ _ _ ⟨_, _, (by repeat (first | exact up_s | assumption | refine up_n (by omega) ?_)), adl (by omega), (by first | assumption | exact vp_in_nI (by omega) (by omega)), ?_⟩ | refine hZ _ _ _ _ ⟨_, (by repeat (first | exact up_s | assumption | refine up_n (by omega) ?_)), adl (by omega), (by rfl), trivial, ?_⟩ | refine hZ _ _ _ _ ⟨trivial, ?_⟩ | refine hZ _ _ _ _ ⟨_, _, _, _, (by repeat (first | exact up_s | assumption | refine up_n (by omega) ?_)), (by first | exact Or.inr (Or.inr rfl) | exact Or.inr (Or.inl rfl) | exact Or.inl rfl), adl (by omega), (by first | assumption | exact vp_in_nI (by omega) (by omega)), (by first | exact rowsF_at (by omega) | exact shF_at (by omega)), ?_⟩ | refine hZ _ _ _ _ ?_)
      exact hp h1 L1 F1 M1 (fun p q hp hq => hL p (by omega) q hq)
    | succ e ih =>
      intro p h1 L1 o4 hpe M1 F1 hL
      have m10 := M1.1
      have inner : ∀ e2 q h2 L2, q + e2 = n → MM h2 fl tr (nI n) fa to at' rp dF' dT dS rd A L2 → Fr 61 82 h h2 → (∀ i, i < p → ∀ q, q < n → L2 (5 * i + q) = lI (R i q)) → (∀ j, j < q → L2 (5 * p + j) = lI (sqr n a w p j)) → Z h2 13 [some (.ref 61), some (.int col), some (.int (nI i0)), some (.int (nI p)), some (.int (nI q))] [] := by
        intro e2
        induction e2 with
        | zero =>
          intro q h2 L2 hqe M2 F2 hL2 hL3
          have m20 := M2.1
          have m278 := M2.2.1
          have m267 := M2.at (j := 67) (m := 5) (by omega) (by omega) (by omega) rfl
          have m264 := M2.at (j := 64) (m := 240) (by omega) (by omega) (by omega) rfl
          repeat (first | refine hZ _ _ _ _ ⟨rfl, ?_⟩ | refine hZ _ _ _ _ ⟨_, _, (by repeat (first | exact up_s | assumption | refine up_n (by omega) ?_)), adl (by omega), (by rfl), ?_⟩ | refine hZ _ _ _ _ ⟨_, _, (by repeat (first | exact up_s | assumption | refine up_n (by omega) ?_)), adl (by omega), (by first | assumption | exact vp_in_nI (by omega) (by omega)), ?_⟩ | refine hZ _ _ _ _ ⟨_, (by repeat (first | exact up_s | assumption | refine up_n (by omega) ?_)), adl (by omega), (by rfl), trivial, ?_⟩ | refine hZ _ _ _ _ ⟨trivial, ?_⟩ | refine hZ _ _ _ _ ⟨_, _, _, _, (by repeat (first | exact up_s | assumption | refine up_n (by omega) ?_)), (by first | exact Or.inr (Or.inr rfl) | exact Or.inr (Or.inl rfl) | exact Or.inl rfl), adl (by omega), (by first | assumption | exact vp_in_nI (by omega) (by omega)), (by first | exact rowsF_at (by omega) | exact shF_at (by omega)), ?_⟩ | refine hZ _ _ _ _ ?_)
          refine ⟨fun c => ?_, fun c => absurd (nI_le (by omega) (by omega)) c⟩
          repeat (first | refine hZ _ _ _ _ ⟨rfl, ?_⟩ | refine hZ _ _ _ _ ⟨_, _, (by repeat (first | exact up_s | assumption | refine up_n (by omega) ?_)), adl (by omega), (by rfl), ?_⟩ | refine hZ _ _ _ _ ⟨_, _, (by repeat (first | exact up_s | assumption | refine up_n (by omega) ?_)), adl (by omega), (by first | assumption | exact vp_in_nI (by omega) (by omega)), ?_⟩ | refine hZ _ _ _ _ ⟨_, (by repeat (first | exact up_s | assumption | refine up_n (by omega) ?_)), adl (by omega), (by rfl), trivial, ?_⟩ | refine hZ _ _ _ _ ⟨trivial, ?_⟩ | refine hZ _ _ _ _ ⟨_, _, _, _, (by repeat (first | exact up_s | assumption | refine up_n (by omega) ?_)), (by first | exact Or.inr (Or.inr rfl) | exact Or.inr (Or.inl rfl) | exact Or.inl rfl), adl (by omega), (by first | assumption | exact vp_in_nI (by omega) (by omega)), (by first | exact rowsF_at (by omega) | exact shF_at (by omega)), ?_⟩ | refine hZ _ _ _ _ ?_)
          rw [lbm9]
          rcases hcol with ⟨e1, e2⟩ | ⟨cc, hc1, e1, e2⟩
          · refine ⟨fun c => ?_, fun c => absurd e1 c⟩
            iterate 2 (first | refine hZ _ _ _ _ ⟨rfl, ?_⟩ | refine hZ _ _ _ _ ⟨_, _, (by repeat (first | exact up_s | assumption | refine up_n (by omega) ?_)), adl (by omega), (by rfl), ?_⟩ | refine hZ _ _ _ _ ⟨_, _, (by repeat (first | exact up_s | assumption | refine up_n (by omega) ?_)), adl (by omega), (by first | assumption | exact vp_in_nI (by omega) (by omega)), ?_⟩ | refine hZ _ _ _ _ ⟨_, (by repeat (first | exact up_s | assumption | refine up_n (by omega) ?_)), adl (by omega), (by rfl), trivial, ?_⟩ | refine hZ _ _ _ _ ⟨trivial, ?_⟩ | refine hZ _ _ _ _ ⟨_, _, _, _, (by repeat (first | exact up_s | assumption | refine up_n (by omega) ?_)), (by first | exact Or.inr (Or.inr rfl) | exact Or.inr (Or.inl rfl) | exact Or.inl rfl), adl (by omega), (by first | assumption | exact vp_in_nI (by omega) (by omega)), (by first | exact rowsF_at (by omega) | exact shF_at (by omega)), ?_⟩ | refine hZ _ _ _ _ ?_)
            show Z _ 2 _ _
            rw [nI_inc]
            refine ih (p + 1) h2 L2 _ (by omega) M2 F2 (fun i hi q2 hq2 => ?_)
            by_cases e9 : i = p
            · rw [e9, hL3 q2 (by omega), e2]
            · exact hL2 i (by omega) q2 hq2
          · subst e1
            refine ⟨fun c => absurd c (nI_m9 (by omega)), fun c => ?_⟩
            iterate 7 (first | refine hZ _ _ _ _ ⟨rfl, ?_⟩ | refine hZ _ _ _ _ ⟨_, _, (by repeat (first | exact up_s | assumption | refine up_n (by omega) ?_)), adl (by omega), (by rfl), ?_⟩ | refine hZ _ _ _ _ ⟨_, _, (by repeat (first | exact up_s | assumption | refine up_n (by omega) ?_)), adl (by omega), (by first | assumption | exact vp_in_nI (by omega) (by omega)), ?_⟩ | refine hZ _ _ _ _ ⟨_, (by repeat (first | exact up_s | assumption | refine up_n (by omega) ?_)), adl (by omega), (by rfl), trivial, ?_⟩ | refine hZ _ _ _ _ ⟨trivial, ?_⟩ | refine hZ _ _ _ _ ⟨_, _, _, _, (by repeat (first | exact up_s | assumption | refine up_n (by omega) ?_)), (by first | exact Or.inr (Or.inr rfl) | exact Or.inr (Or.inl rfl) | exact Or.inl rfl), adl (by omega), (by first | assumption | exact vp_in_nI (by omega) (by omega)), (by first | exact rowsF_at (by omega) | exact shF_at (by omega)), ?_⟩ | refine hZ _ _ _ _ ?_)
            show Z _ 82 _ _
            rw [lit_5, pk_mul, nI_add]
            iterate 9 (first | refine hZ _ _ _ _ ⟨rfl, ?_⟩ | refine hZ _ _ _ _ ⟨_, _, (by repeat (first | exact up_s | assumption | refine up_n (by omega) ?_)), adl (by omega), (by rfl), ?_⟩ | refine hZ _ _ _ _ ⟨_, _, (by repeat (first | exact up_s | assumption | refine up_n (by omega) ?_)), adl (by omega), (by first | assumption | exact vp_in_nI (by omega) (by omega)), ?_⟩ | refine hZ _ _ _ _ ⟨_, (by repeat (first | exact up_s | assumption | refine up_n (by omega) ?_)), adl (by omega), (by rfl), trivial, ?_⟩ | refine hZ _ _ _ _ ⟨trivial, ?_⟩ | refine hZ _ _ _ _ ⟨_, _, _, _, (by repeat (first | exact up_s | assumption | refine up_n (by omega) ?_)), (by first | exact Or.inr (Or.inr rfl) | exact Or.inr (Or.inl rfl) | exact Or.inl rfl), adl (by omega), (by first | assumption | exact vp_in_nI (by omega) (by omega)), (by first | exact rowsF_at (by omega) | exact shF_at (by omega)), ?_⟩ | refine hZ _ _ _ _ ?_)
            show Z _ 95 _ _
            rw [nI_add]
            iterate 3 (first | refine hZ _ _ _ _ ⟨rfl, ?_⟩ | refine hZ _ _ _ _ ⟨_, _, (by repeat (first | exact up_s | assumption | refine up_n (by omega) ?_)), adl (by omega), (by rfl), ?_⟩ | refine hZ _ _ _ _ ⟨_, _, (by repeat (first | exact up_s | assumption | refine up_n (by omega) ?_)), adl (by omega), (by first | assumption | exact vp_in_nI (by omega) (by omega)), ?_⟩ | refine hZ _ _ _ _ ⟨_, (by repeat (first | exact up_s | assumption | refine up_n (by omega) ?_)), adl (by omega), (by rfl), trivial, ?_⟩ | refine hZ _ _ _ _ ⟨trivial, ?_⟩ | refine hZ _ _ _ _ ⟨_, _, _, _, (by repeat (first | exact up_s | assumption | refine up_n (by omega) ?_)), (by first | exact Or.inr (Or.inr rfl) | exact Or.inr (Or.inl rfl) | exact Or.inl rfl), adl (by omega), (by first | assumption | exact vp_in_nI (by omega) (by omega)), (by first | exact rowsF_at (by omega) | exact shF_at (by omega)), ?_⟩ | refine hZ _ _ _ _ ?_)
            show Z _ 98 _ _
            rw [nI_clamp (show p < 2 ^ 31 by omega), nI_clamp (show i0 + p < 2 ^ 31 by omega), hX p (by omega), hcv p (by omega), i2l_lI, nI_dif (hx2 p (by omega)) (hcv2 p (by omega))]
            iterate 3 (first | refine hZ _ _ _ _ ⟨rfl, ?_⟩ | refine hZ _ _ _ _ ⟨_, _, (by repeat (first | exact up_s | assumption | refine up_n (by omega) ?_)), adl (by omega), (by rfl), ?_⟩ | refine hZ _ _ _ _ ⟨_, _, (by repeat (first | exact up_s | assumption | refine up_n (by omega) ?_)), adl (by omega), (by first | assumption | exact vp_in_nI (by omega) (by omega)), ?_⟩ | refine hZ _ _ _ _ ⟨_, (by repeat (first | exact up_s | assumption | refine up_n (by omega) ?_)), adl (by omega), (by rfl), trivial, ?_⟩ | refine hZ _ _ _ _ ⟨trivial, ?_⟩ | refine hZ _ _ _ _ ⟨_, _, _, _, (by repeat (first | exact up_s | assumption | refine up_n (by omega) ?_)), (by first | exact Or.inr (Or.inr rfl) | exact Or.inr (Or.inl rfl) | exact Or.inl rfl), adl (by omega), (by first | assumption | exact vp_in_nI (by omega) (by omega)), (by first | exact rowsF_at (by omega) | exact shF_at (by omega)), ?_⟩ | refine hZ _ _ _ _ ?_)
            show Z _ 2 _ _
            rw [nI_inc, nI_clamp (show 5 * p + cc < 2 ^ 31 by omega)]
            refine ih (p + 1) _ _ _ (by omega) M2.lng (F2.up (by omega) (by omega)) (fun i hi q2 hq2 => ?_)
            rw [e2]
            unfold upC
            by_cases e9 : i = p
            · subst e9
              by_cases e8 : q2 = cc
              · rw [e8, pk_uLs, if_pos rfl]
              · rw [pk_uLn (by omega), if_neg e8]; exact hL3 q2 (by omega)
            · rw [pk_uLn (by omega)]
              have := hL2 i (by omega) q2 hq2
              rw [e2] at this
              exact this
        | succ e2 ih2 =>
          intro q h2 L2 hqe M2 F2 hL2 hL3
          have m20 := M2.1
          have m278 := M2.2.1
          have m269 := M2.at (j := 69) (m := 25) (by omega) (by omega) (by omega) rfl
          have nx : ∀ y : Int, y = sqr n a w p q → Z h2 60 [some (.ref 61), some (.int col), some (.int (nI i0)), some (.int (nI p)), some (.int (nI q))] [.long (lI y), .int (nI (5 * p + q)), .ref 78] := by
            intro y hy
            iterate 3 (first | refine hZ _ _ _ _ ⟨rfl, ?_⟩ | refine hZ _ _ _ _ ⟨_, _, (by repeat (first | exact up_s | assumption | refine up_n (by omega) ?_)), adl (by omega), (by rfl), ?_⟩ | refine hZ _ _ _ _ ⟨_, _, (by repeat (first | exact up_s | assumption | refine up_n (by omega) ?_)), adl (by omega), (by first | assumption | exact vp_in_nI (by omega) (by omega)), ?_⟩ | refine hZ _ _ _ _ ⟨_, (by repeat (first | exact up_s | assumption | refine up_n (by omega) ?_)), adl (by omega), (by rfl), trivial, ?_⟩ | refine hZ _ _ _ _ ⟨trivial, ?_⟩ | refine hZ _ _ _ _ ⟨_, _, _, _, (by repeat (first | exact up_s | assumption | refine up_n (by omega) ?_)), (by first | exact Or.inr (Or.inr rfl) | exact Or.inr (Or.inl rfl) | exact Or.inl rfl), adl (by omega), (by first | assumption | exact vp_in_nI (by omega) (by omega)), (by first | exact rowsF_at (by omega) | exact shF_at (by omega)), ?_⟩ | refine hZ _ _ _ _ ?_)
            show Z _ 13 _ _
            rw [nI_inc, nI_clamp (show 5 * p + q < 2 ^ 31 by omega)]
            refine ih2 (q + 1) _ _ (by omega) M2.lng (F2.up (by omega) (by omega)) (fun i hi q2 hq2 => ?_) (fun j hj => ?_)
            · rw [pk_uLn (by omega)]; exact hL2 i hi q2 hq2
            · by_cases e9 : j = q
              · rw [e9, pk_uLs, hy]
              · rw [pk_uLn (by omega)]; exact hL3 j (by omega)
          unfold sqr at nx
          repeat (first | refine hZ _ _ _ _ ⟨rfl, ?_⟩ | refine hZ _ _ _ _ ⟨_, _, (by repeat (first | exact up_s | assumption | refine up_n (by omega) ?_)), adl (by omega), (by rfl), ?_⟩ | refine hZ _ _ _ _ ⟨_, _, (by repeat (first | exact up_s | assumption | refine up_n (by omega) ?_)), adl (by omega), (by first | assumption | exact vp_in_nI (by omega) (by omega)), ?_⟩ | refine hZ _ _ _ _ ⟨_, (by repeat (first | exact up_s | assumption | refine up_n (by omega) ?_)), adl (by omega), (by rfl), trivial, ?_⟩ | refine hZ _ _ _ _ ⟨trivial, ?_⟩ | refine hZ _ _ _ _ ⟨_, _, _, _, (by repeat (first | exact up_s | assumption | refine up_n (by omega) ?_)), (by first | exact Or.inr (Or.inr rfl) | exact Or.inr (Or.inl rfl) | exact Or.inl rfl), adl (by omega), (by first | assumption | exact vp_in_nI (by omega) (by omega)), (by first | exact rowsF_at (by omega) | exact shF_at (by omega)), ?_⟩ | refine hZ _ _ _ _ ?_)
          refine ⟨fun c => absurd c (nI_ge (by omega) (by omega)), fun c => ?_⟩
          iterate 7 (first | refine hZ _ _ _ _ ⟨rfl, ?_⟩ | refine hZ _ _ _ _ ⟨_, _, (by repeat (first | exact up_s | assumption | refine up_n (by omega) ?_)), adl (by omega), (by rfl), ?_⟩ | refine hZ _ _ _ _ ⟨_, _, (by repeat (first | exact up_s | assumption | refine up_n (by omega) ?_)), adl (by omega), (by first | assumption | exact vp_in_nI (by omega) (by omega)), ?_⟩ | refine hZ _ _ _ _ ⟨_, (by repeat (first | exact up_s | assumption | refine up_n (by omega) ?_)), adl (by omega), (by rfl), trivial, ?_⟩ | refine hZ _ _ _ _ ⟨trivial, ?_⟩ | refine hZ _ _ _ _ ⟨_, _, _, _, (by repeat (first | exact up_s | assumption | refine up_n (by omega) ?_)), (by first | exact Or.inr (Or.inr rfl) | exact Or.inr (Or.inl rfl) | exact Or.inl rfl), adl (by omega), (by first | assumption | exact vp_in_nI (by omega) (by omega)), (by first | exact rowsF_at (by omega) | exact shF_at (by omega)), ?_⟩ | refine hZ _ _ _ _ ?_)
          show Z _ 32 _ _
          rw [lit_5, pk_mul, nI_add]
          repeat (first | refine hZ _ _ _ _ ⟨rfl, ?_⟩ | refine hZ _ _ _ _ ⟨_, _, (by repeat (first | exact up_s | assumption | refine up_n (by omega) ?_)), adl (by omega), (by rfl), ?_⟩ | refine hZ _ _ _ _ ⟨_, _, (by repeat (first | exact up_s | assumption | refine up_n (by omega) ?_)), adl (by omega), (by first | assumption | exact vp_in_nI (by omega) (by omega)), ?_⟩ | refine hZ _ _ _ _ ⟨_, (by repeat (first | exact up_s | assumption | refine up_n (by omega) ?_)), adl (by omega), (by rfl), trivial, ?_⟩ | refine hZ _ _ _ _ ⟨trivial, ?_⟩ | refine hZ _ _ _ _ ⟨_, _, _, _, (by repeat (first | exact up_s | assumption | refine up_n (by omega) ?_)), (by first | exact Or.inr (Or.inr rfl) | exact Or.inr (Or.inl rfl) | exact Or.inl rfl), adl (by omega), (by first | assumption | exact vp_in_nI (by omega) (by omega)), (by first | exact rowsF_at (by omega) | exact shF_at (by omega)), ?_⟩ | refine hZ _ _ _ _ ?_)
          by_cases hpq : p = q
          · refine ⟨fun c => absurd (by rw [hpq]) c, fun c => ?_⟩
            iterate 2 (first | refine hZ _ _ _ _ ⟨rfl, ?_⟩ | refine hZ _ _ _ _ ⟨_, _, (by repeat (first | exact up_s | assumption | refine up_n (by omega) ?_)), adl (by omega), (by rfl), ?_⟩ | refine hZ _ _ _ _ ⟨_, _, (by repeat (first | exact up_s | assumption | refine up_n (by omega) ?_)), adl (by omega), (by first | assumption | exact vp_in_nI (by omega) (by omega)), ?_⟩ | refine hZ _ _ _ _ ⟨_, (by repeat (first | exact up_s | assumption | refine up_n (by omega) ?_)), adl (by omega), (by rfl), trivial, ?_⟩ | refine hZ _ _ _ _ ⟨trivial, ?_⟩ | refine hZ _ _ _ _ ⟨_, _, _, _, (by repeat (first | exact up_s | assumption | refine up_n (by omega) ?_)), (by first | exact Or.inr (Or.inr rfl) | exact Or.inr (Or.inl rfl) | exact Or.inl rfl), adl (by omega), (by first | assumption | exact vp_in_nI (by omega) (by omega)), (by first | exact rowsF_at (by omega) | exact shF_at (by omega)), ?_⟩ | refine hZ _ _ _ _ ?_)
            show Z _ 40 _ _
            refine hZ _ _ _ _ ⟨⟨_, (by repeat (first | exact up_s | assumption | refine up_n (by omega) ?_))⟩, adl (by omega), rfl, ?_⟩
            refine m_degree M2 G hn (show p < n by omega) ?_
            show Z _ 43 _ _
            iterate 2 (first | refine hZ _ _ _ _ ⟨rfl, ?_⟩ | refine hZ _ _ _ _ ⟨_, _, (by repeat (first | exact up_s | assumption | refine up_n (by omega) ?_)), adl (by omega), (by rfl), ?_⟩ | refine hZ _ _ _ _ ⟨_, _, (by repeat (first | exact up_s | assumption | refine up_n (by omega) ?_)), adl (by omega), (by first | assumption | exact vp_in_nI (by omega) (by omega)), ?_⟩ | refine hZ _ _ _ _ ⟨_, (by repeat (first | exact up_s | assumption | refine up_n (by omega) ?_)), adl (by omega), (by rfl), trivial, ?_⟩ | refine hZ _ _ _ _ ⟨trivial, ?_⟩ | refine hZ _ _ _ _ ⟨_, _, _, _, (by repeat (first | exact up_s | assumption | refine up_n (by omega) ?_)), (by first | exact Or.inr (Or.inr rfl) | exact Or.inr (Or.inl rfl) | exact Or.inl rfl), adl (by omega), (by first | assumption | exact vp_in_nI (by omega) (by omega)), (by first | exact rowsF_at (by omega) | exact shF_at (by omega)), ?_⟩ | refine hZ _ _ _ _ ?_)
            show Z _ 60 _ _
            rw [i2l_n _ (by have := dgr_le Y (show p < n by omega); omega)]
            exact nx _ (by rw [if_pos hpq])
          · refine ⟨fun c => ?_, fun c => absurd ((nI_eq (by omega) (by omega)).mp c) hpq⟩
            iterate 7 (first | refine hZ _ _ _ _ ⟨rfl, ?_⟩ | refine hZ _ _ _ _ ⟨_, _, (by repeat (first | exact up_s | assumption | refine up_n (by omega) ?_)), adl (by omega), (by rfl), ?_⟩ | refine hZ _ _ _ _ ⟨_, _, (by repeat (first | exact up_s | assumption | refine up_n (by omega) ?_)), adl (by omega), (by first | assumption | exact vp_in_nI (by omega) (by omega)), ?_⟩ | refine hZ _ _ _ _ ⟨_, (by repeat (first | exact up_s | assumption | refine up_n (by omega) ?_)), adl (by omega), (by rfl), trivial, ?_⟩ | refine hZ _ _ _ _ ⟨trivial, ?_⟩ | refine hZ _ _ _ _ ⟨_, _, _, _, (by repeat (first | exact up_s | assumption | refine up_n (by omega) ?_)), (by first | exact Or.inr (Or.inr rfl) | exact Or.inr (Or.inl rfl) | exact Or.inl rfl), adl (by omega), (by first | assumption | exact vp_in_nI (by omega) (by omega)), (by first | exact rowsF_at (by omega) | exact shF_at (by omega)), ?_⟩ | refine hZ _ _ _ _ ?_)
            show Z _ 57 _ _
            rw [lit_5, pk_mul, nI_add]
            iterate 3 (first | refine hZ _ _ _ _ ⟨rfl, ?_⟩ | refine hZ _ _ _ _ ⟨_, _, (by repeat (first | exact up_s | assumption | refine up_n (by omega) ?_)), adl (by omega), (by rfl), ?_⟩ | refine hZ _ _ _ _ ⟨_, _, (by repeat (first | exact up_s | assumption | refine up_n (by omega) ?_)), adl (by omega), (by first | assumption | exact vp_in_nI (by omega) (by omega)), ?_⟩ | refine hZ _ _ _ _ ⟨_, (by repeat (first | exact up_s | assumption | refine up_n (by omega) ?_)), adl (by omega), (by rfl), trivial, ?_⟩ | refine hZ _ _ _ _ ⟨trivial, ?_⟩ | refine hZ _ _ _ _ ⟨_, _, _, _, (by repeat (first | exact up_s | assumption | refine up_n (by omega) ?_)), (by first | exact Or.inr (Or.inr rfl) | exact Or.inr (Or.inl rfl) | exact Or.inl rfl), adl (by omega), (by first | assumption | exact vp_in_nI (by omega) (by omega)), (by first | exact rowsF_at (by omega) | exact shF_at (by omega)), ?_⟩ | refine hZ _ _ _ _ ?_)
            show Z _ 60 _ _
            rw [nI_clamp (show 5 * p + q < 2 ^ 31 by omega), G.2.2 p q (by omega) (by omega), i2l_neg _ (by have := Y.2.2.2.1 p q (by omega) (by omega); omega)]
            exact nx _ (by rw [if_neg hpq])
      repeat (first | refine hZ _ _ _ _ ⟨rfl, ?_⟩ | refine hZ _ _ _ _ ⟨_, _, (by repeat (first | exact up_s | assumption | refine up_n (by omega) ?_)), adl (by omega), (by rfl), ?_⟩ | refine hZ _ _ _ _ ⟨_, _, (by repeat (first | exact up_s | assumption | refine up_n (by omega) ?_)), adl (by omega), (by first | assumption | exact vp_in_nI (by omega) (by omega)), ?_⟩ | refine hZ _ _ _ _ ⟨_, (by repeat (first | exact up_s | assumption | refine up_n (by omega) ?_)), adl (by omega), (by rfl), trivial, ?_⟩ | refine hZ _ _ _ _ ⟨trivial, ?_⟩ | refine hZ _ _ _ _ ⟨_, _, _, _, (by repeat (first | exact up_s | assumption | refine up_n (by omega) ?_)), (by first | exact Or.inr (Or.inr rfl) | exact Or.inr (Or.inl rfl) | exact Or.inl rfl), adl (by omega), (by first | assumption | exact vp_in_nI (by omega) (by omega)), (by first | exact rowsF_at (by omega) | exact shF_at (by omega)), ?_⟩ | refine hZ _ _ _ _ ?_)
      refine ⟨fun c => absurd c (nI_ge (by omega) (by omega)), fun c => ?_⟩
      iterate 2 (first | refine hZ _ _ _ _ ⟨rfl, ?_⟩ | refine hZ _ _ _ _ ⟨_, _, (by repeat (first | exact up_s | assumption | refine up_n (by omega) ?_)), adl (by omega), (by rfl), ?_⟩ | refine hZ _ _ _ _ ⟨_, _, (by repeat (first | exact up_s | assumption | refine up_n (by omega) ?_)), adl (by omega), (by first | assumption | exact vp_in_nI (by omega) (by omega)), ?_⟩ | refine hZ _ _ _ _ ⟨_, (by repeat (first | exact up_s | assumption | refine up_n (by omega) ?_)), adl (by omega), (by rfl), trivial, ?_⟩ | refine hZ _ _ _ _ ⟨trivial, ?_⟩ | refine hZ _ _ _ _ ⟨_, _, _, _, (by repeat (first | exact up_s | assumption | refine up_n (by omega) ?_)), (by first | exact Or.inr (Or.inr rfl) | exact Or.inr (Or.inl rfl) | exact Or.inl rfl), adl (by omega), (by first | assumption | exact vp_in_nI (by omega) (by omega)), (by first | exact rowsF_at (by omega) | exact shF_at (by omega)), ?_⟩ | refine hZ _ _ _ _ ?_)
      show Z _ 13 _ _
      rw [lit_0]
      exact inner n 0 h1 L1 (by omega) M1 F1 hL (fun j hj => by omega)
  iterate 2 (first | refine hZ _ _ _ _ ⟨rfl, ?_⟩ | refine hZ _ _ _ _ ⟨_, _, (by repeat (first | exact up_s | assumption | refine up_n (by omega) ?_)), adl (by omega), (by rfl), ?_⟩ | refine hZ _ _ _ _ ⟨_, _, (by repeat (first | exact up_s | assumption | refine up_n (by omega) ?_)), adl (by omega), (by first | assumption | exact vp_in_nI (by omega) (by omega)), ?_⟩ | refine hZ _ _ _ _ ⟨_, (by repeat (first | exact up_s | assumption | refine up_n (by omega) ?_)), adl (by omega), (by rfl), trivial, ?_⟩ | refine hZ _ _ _ _ ⟨trivial, ?_⟩ | refine hZ _ _ _ _ ⟨_, _, _, _, (by repeat (first | exact up_s | assumption | refine up_n (by omega) ?_)), (by first | exact Or.inr (Or.inr rfl) | exact Or.inr (Or.inl rfl) | exact Or.inl rfl), adl (by omega), (by first | assumption | exact vp_in_nI (by omega) (by omega)), (by first | exact rowsF_at (by omega) | exact shF_at (by omega)), ?_⟩ | refine hZ _ _ _ _ ?_)
  show Z _ 2 _ _
  exact outer n 0 h L _ (by omega) M Fr.rf (fun i hi => by omega)
