/-! ===== the reference: burnt ===== -/
theorem m_isOf {l : Launch} {h : AH} {S q : Nat} {P : Option Value → AH → Prop} (hS : S < 2 ^ 31) (hq : q < 31) (hp : P (some (.int (b2i (decide (bt1 S q = 1))))) h) : Sem l QX7_isOf 82 h [.int (nI S), .int (nI q)] P := by
  refine iX7_isOf rfl ?_
  intro Z hZ
  have hb := bt1_lt S q
  unfold bt1 at hb
  repeat (first | refine hZ _ _ _ _ ⟨rfl, ?_⟩ | refine hZ _ _ _ _ ⟨_, _, (by repeat (first | exact up_s | assumption | refine up_n (by omega) ?_)), adl (by omega), (by rfl), ?_⟩ | refine hZ _ _ _ _ ⟨_, _, (by repeat (first | exact up_s | assumption | refine up_n (by omega) ?_)), adl (by omega), (by first | assumption | exact vp_in_nI (by omega) (by omega)), ?_⟩ | refine hZ _ _ _ _ ⟨_, (by repeat (first | exact up_s | assumption | refine up_n (by omega) ?_)), adl (by omega), (by rfl), trivial, ?_⟩ | refine hZ _ _ _ _ ⟨trivial, ?_⟩ | refine hZ _ _ _ _ ⟨_, _, _, _, (by repeat (first | exact up_s | assumption | refine up_n (by omega) ?_)), (by first | exact Or.inr (Or.inr rfl) | exact Or.inr (Or.inl rfl) | exact Or.inl rfl), adl (by omega), (by first | assumption | exact vp_in_nI (by omega) (by omega)), (by first | exact rowsF_at (by omega) | exact shF_at (by omega)), ?_⟩ | refine hZ _ _ _ _ ?_)
  rw [lit_1, shr_bit hS hq]
  by_cases hc : bt1 S q = 1
  · rw [decide_eq_true hc] at hp
    refine ⟨fun c => absurd (by rw [show S / 2 ^ q % 2 = 1 from hc]) c, fun c => ?_⟩
    repeat (first | refine hZ _ _ _ _ ⟨rfl, ?_⟩ | refine hZ _ _ _ _ ⟨_, _, (by repeat (first | exact up_s | assumption | refine up_n (by omega) ?_)), adl (by omega), (by rfl), ?_⟩ | refine hZ _ _ _ _ ⟨_, _, (by repeat (first | exact up_s | assumption | refine up_n (by omega) ?_)), adl (by omega), (by first | assumption | exact vp_in_nI (by omega) (by omega)), ?_⟩ | refine hZ _ _ _ _ ⟨_, (by repeat (first | exact up_s | assumption | refine up_n (by omega) ?_)), adl (by omega), (by rfl), trivial, ?_⟩ | refine hZ _ _ _ _ ⟨trivial, ?_⟩ | refine hZ _ _ _ _ ⟨_, _, _, _, (by repeat (first | exact up_s | assumption | refine up_n (by omega) ?_)), (by first | exact Or.inr (Or.inr rfl) | exact Or.inr (Or.inl rfl) | exact Or.inl rfl), adl (by omega), (by first | assumption | exact vp_in_nI (by omega) (by omega)), (by first | exact rowsF_at (by omega) | exact shF_at (by omega)), ?_⟩ | refine hZ _ _ _ _ ?_)
    exact hp
  · rw [decide_eq_false hc] at hp
    refine ⟨fun c => ?_, fun c => absurd ((nI_eq (by omega) (by omega)).mp c) hc⟩
    repeat (first | refine hZ _ _ _ _ ⟨rfl, ?_⟩ | refine hZ _ _ _ _ ⟨_, _, (by repeat (first | exact up_s | assumption | refine up_n (by omega) ?_)), adl (by omega), (by rfl), ?_⟩ | refine hZ _ _ _ _ ⟨_, _, (by repeat (first | exact up_s | assumption | refine up_n (by omega) ?_)), adl (by omega), (by first | assumption | exact vp_in_nI (by omega) (by omega)), ?_⟩ | refine hZ _ _ _ _ ⟨_, (by repeat (first | exact up_s | assumption | refine up_n (by omega) ?_)), adl (by omega), (by rfl), trivial, ?_⟩ | refine hZ _ _ _ _ ⟨trivial, ?_⟩ | refine hZ _ _ _ _ ⟨_, _, _, _, (by repeat (first | exact up_s | assumption | refine up_n (by omega) ?_)), (by first | exact Or.inr (Or.inr rfl) | exact Or.inr (Or.inl rfl) | exact Or.inl rfl), adl (by omega), (by first | assumption | exact vp_in_nI (by omega) (by omega)), (by first | exact rowsF_at (by omega) | exact shF_at (by omega)), ?_⟩ | refine hZ _ _ _ _ ?_)
    exact hp
set_option maxHeartbeats 4000000 in
theorem M_burnt {l : Launch} {h : AH} {s : St} {P : Option Value → AH → Prop} (M : MY h s) (O : Ok s) (hx : ∀ q, q < s.1.1 → s.2.1.1 q < 2 ^ 30) (hp : ∀ h', Fr 61 82 h h' → MY h' s → P (some (.int (S_burnt s))) h') : Sem l QX7_burnt 82 h [.ref 61] P := by
  have hp := hp h Fr.rf M
  obtain ⟨⟨n, a, w, κ⟩, ⟨x, tp, fa, to⟩, ⟨cn, pl, td⟩, ⟨z, m, c⟩, tr, fl⟩ := s
  obtain ⟨at', rp, dF', dT, dS, A, L, M, G, hX, -⟩ := M
  obtain ⟨o1, o2, o3⟩ := O
  have m0 := M.1
  refine iX7_burnt rfl ?_
  intro Z hZ
  unfold S_burnt at hp
  dsimp only at hp hx
  repeat (first | refine hZ _ _ _ _ ⟨rfl, ?_⟩ | refine hZ _ _ _ _ ⟨_, _, (by repeat (first | exact up_s | assumption | refine up_n (by omega) ?_)), adl (by omega), (by rfl), ?_⟩ | refine hZ _ _ _ _ ⟨_, _, (by repeat (first | exact up_s | assumption | refine up_n (by omega) ?_)), adl (by omega), (by first | assumption | exact vp_in_nI (by omega) (by omega)), ?_⟩ | refine hZ _ _ _ _ ⟨_, (by repeat (first | exact up_s | assumption | refine up_n (by omega) ?_)), adl (by omega), (by rfl), trivial, ?_⟩ | refine hZ _ _ _ _ ⟨trivial, ?_⟩ | refine hZ _ _ _ _ ⟨_, _, _, _, (by repeat (first | exact up_s | assumption | refine up_n (by omega) ?_)), (by first | exact Or.inr (Or.inr rfl) | exact Or.inr (Or.inl rfl) | exact Or.inl rfl), adl (by omega), (by first | assumption | exact vp_in_nI (by omega) (by omega)), (by first | exact rowsF_at (by omega) | exact shF_at (by omega)), ?_⟩ | refine hZ _ _ _ _ ?_)
  refine ⟨fun c9 => ?_, fun c9 => ?_⟩
  · rw [if_pos ((nI_eq (b := 0) (by omega) (by omega)).mp c9)] at hp
    repeat (first | refine hZ _ _ _ _ ⟨rfl, ?_⟩ | refine hZ _ _ _ _ ⟨_, _, (by repeat (first | exact up_s | assumption | refine up_n (by omega) ?_)), adl (by omega), (by rfl), ?_⟩ | refine hZ _ _ _ _ ⟨_, _, (by repeat (first | exact up_s | assumption | refine up_n (by omega) ?_)), adl (by omega), (by first | assumption | exact vp_in_nI (by omega) (by omega)), ?_⟩ | refine hZ _ _ _ _ ⟨_, (by repeat (first | exact up_s | assumption | refine up_n (by omega) ?_)), adl (by omega), (by rfl), trivial, ?_⟩ | refine hZ _ _ _ _ ⟨trivial, ?_⟩ | refine hZ _ _ _ _ ⟨_, _, _, _, (by repeat (first | exact up_s | assumption | refine up_n (by omega) ?_)), (by first | exact Or.inr (Or.inr rfl) | exact Or.inr (Or.inl rfl) | exact Or.inl rfl), adl (by omega), (by first | assumption | exact vp_in_nI (by omega) (by omega)), (by first | exact rowsF_at (by omega) | exact shF_at (by omega)), ?_⟩ | refine hZ _ _ _ _ ?_)
    rw [lbm3]
    exact hp
  have n0 : ¬ n = 0 := fun z => c9 (by rw [z]; rfl)
  rw [if_neg n0] at hp
  have Y : Yw n a w κ := by rcases o1 with z | z; · omega
                            · exact z.2
  iterate 1 (first | refine hZ _ _ _ _ ⟨rfl, ?_⟩ | refine hZ _ _ _ _ ⟨_, _, (by repeat (first | exact up_s | assumption | refine up_n (by omega) ?_)), adl (by omega), (by rfl), ?_⟩ | refine hZ _ _ _ _ ⟨_, _, (by repeat (first | exact up_s | assumption | refine up_n (by omega) ?_)), adl (by omega), (by first | assumption | exact vp_in_nI (by omega) (by omega)), ?_⟩ | refine hZ _ _ _ _ ⟨_, (by repeat (first | exact up_s | assumption | refine up_n (by omega) ?_)), adl (by omega), (by rfl), trivial, ?_⟩ | refine hZ _ _ _ _ ⟨trivial, ?_⟩ | refine hZ _ _ _ _ ⟨_, _, _, _, (by repeat (first | exact up_s | assumption | refine up_n (by omega) ?_)), (by first | exact Or.inr (Or.inr rfl) | exact Or.inr (Or.inl rfl) | exact Or.inl rfl), adl (by omega), (by first | assumption | exact vp_in_nI (by omega) (by omega)), (by first | exact rowsF_at (by omega) | exact shF_at (by omega)), ?_⟩ | refine hZ _ _ _ _ ?_)
  show Z _ 8 _ _
  refine hZ _ _ _ _ ⟨⟨_, (by repeat (first | exact up_s | assumption | refine up_n (by omega) ?_))⟩, adl (by omega), rfl, ?_⟩
  refine m_who M G hX Y (fun q hq => by have := hx q hq; omega) ?_
  show Z _ 11 _ _
  have hsl := sof_lt (fun q => decide (brf n a w κ q ≤ x q)) (n := n) (k := n) (Nat.le_refl _)
  have hS : ∀ S, S < 2 ^ n → S < 2 ^ 31 := fun S hS => Nat.lt_of_lt_of_le hS (Nat.pow_le_pow_right (by decide) (by omega))
  by_cases hs0 : ¬ sof (fun q => decide (brf n a w κ q ≤ x q)) n = 0
  · rw [if_pos hs0] at hp
    repeat (first | refine hZ _ _ _ _ ⟨rfl, ?_⟩ | refine hZ _ _ _ _ ⟨_, _, (by repeat (first | exact up_s | assumption | refine up_n (by omega) ?_)), adl (by omega), (by rfl), ?_⟩ | refine hZ _ _ _ _ ⟨_, _, (by repeat (first | exact up_s | assumption | refine up_n (by omega) ?_)), adl (by omega), (by first | assumption | exact vp_in_nI (by omega) (by omega)), ?_⟩ | refine hZ _ _ _ _ ⟨_, (by repeat (first | exact up_s | assumption | refine up_n (by omega) ?_)), adl (by omega), (by rfl), trivial, ?_⟩ | refine hZ _ _ _ _ ⟨trivial, ?_⟩ | refine hZ _ _ _ _ ⟨_, _, _, _, (by repeat (first | exact up_s | assumption | refine up_n (by omega) ?_)), (by first | exact Or.inr (Or.inr rfl) | exact Or.inr (Or.inl rfl) | exact Or.inl rfl), adl (by omega), (by first | assumption | exact vp_in_nI (by omega) (by omega)), (by first | exact rowsF_at (by omega) | exact shF_at (by omega)), ?_⟩ | refine hZ _ _ _ _ ?_)
    refine ⟨fun c => absurd c (nI_ne0 (by omega) (hS _ hsl)), fun c => ?_⟩
    repeat (first | refine hZ _ _ _ _ ⟨rfl, ?_⟩ | refine hZ _ _ _ _ ⟨_, _, (by repeat (first | exact up_s | assumption | refine up_n (by omega) ?_)), adl (by omega), (by rfl), ?_⟩ | refine hZ _ _ _ _ ⟨_, _, (by repeat (first | exact up_s | assumption | refine up_n (by omega) ?_)), adl (by omega), (by first | assumption | exact vp_in_nI (by omega) (by omega)), ?_⟩ | refine hZ _ _ _ _ ⟨_, (by repeat (first | exact up_s | assumption | refine up_n (by omega) ?_)), adl (by omega), (by rfl), trivial, ?_⟩ | refine hZ _ _ _ _ ⟨trivial, ?_⟩ | refine hZ _ _ _ _ ⟨_, _, _, _, (by repeat (first | exact up_s | assumption | refine up_n (by omega) ?_)), (by first | exact Or.inr (Or.inr rfl) | exact Or.inr (Or.inl rfl) | exact Or.inl rfl), adl (by omega), (by first | assumption | exact vp_in_nI (by omega) (by omega)), (by first | exact rowsF_at (by omega) | exact shF_at (by omega)), ?_⟩ | refine hZ _ _ _ _ ?_)
    rw [lbm3]
    exact hp
  rw [if_neg hs0] at hp
  rw [Decidable.not_not.mp hs0]
  have m65 := M.at (j := 65) (m := 5) (by omega) (by omega) (by omega) rfl
  have m66 := M.at (j := 66) (m := 5) (by omega) (by omega) (by omega) rfl
  have m67 := M.at (j := 67) (m := 5) (by omega) (by omega) (by omega) rfl
  have m69 := M.at (j := 69) (m := 25) (by omega) (by omega) (by omega) rfl
  repeat (first | refine hZ _ _ _ _ ⟨rfl, ?_⟩ | refine hZ _ _ _ _ ⟨_, _, (by repeat (first | exact up_s | assumption | refine up_n (by omega) ?_)), adl (by omega), (by rfl), ?_⟩ | refine hZ _ _ _ _ ⟨_, _, (by repeat (first | exact up_s | assumption | refine up_n (by omega) ?_)), adl (by omega), (by first | assumption | exact vp_in_nI (by omega) (by omega)), ?_⟩ | refine hZ _ _ _ _ ⟨_, (by repeat (first | exact up_s | assumption | refine up_n (by omega) ?_)), adl (by omega), (by rfl), trivial, ?_⟩ | refine hZ _ _ _ _ ⟨trivial, ?_⟩ | refine hZ _ _ _ _ ⟨_, _, _, _, (by repeat (first | exact up_s | assumption | refine up_n (by omega) ?_)), (by first | exact Or.inr (Or.inr rfl) | exact Or.inr (Or.inl rfl) | exact Or.inl rfl), adl (by omega), (by first | assumption | exact vp_in_nI (by omega) (by omega)), (by first | exact rowsF_at (by omega) | exact shF_at (by omega)), ?_⟩ | refine hZ _ _ _ _ ?_)
  refine ⟨fun c => ?_, fun c => absurd rfl c⟩
  have head : ∀ e k was o3 o4 o5, k + e = n + 1 → (k = 0 ∧ was = -9 ∨ ∃ k', k = k' + 1 ∧ was = nI (itr (bnc n a w κ x) n k')) → Z h 22 [some (.ref 61), some (.int (nI (itr (bnc n a w κ x) n k))), some (.int was), o3, o4, o5] [] := by
    intro e
    have fin : ∀ k k' o3 o4 o5, k = k' + 1 → itr (bnc n a w κ x) n k = itr (bnc n a w κ x) n k' → Z h 22 [some (.ref 61), some (.int (nI (itr (bnc n a w κ x) n k))), some (.int (nI (itr (bnc n a w κ x) n k'))), o3, o4, o5] [] := by
      intro k k' o3 o4 o5 hk he
      rw [he]
      repeat (first | refine hZ _ _ _ _ ⟨rfl, ?_⟩ | refine hZ _ _ _ _ ⟨_, _, (by repeat (first | exact up_s | assumption | refine up_n (by omega) ?_)), adl (by omega), (by rfl), ?_⟩ | refine hZ _ _ _ _ ⟨_, _, (by repeat (first | exact up_s | assumption | refine up_n (by omega) ?_)), adl (by omega), (by first | assumption | exact vp_in_nI (by omega) (by omega)), ?_⟩ | refine hZ _ _ _ _ ⟨_, (by repeat (first | exact up_s | assumption | refine up_n (by omega) ?_)), adl (by omega), (by rfl), trivial, ?_⟩ | refine hZ _ _ _ _ ⟨trivial, ?_⟩ | refine hZ _ _ _ _ ⟨_, _, _, _, (by repeat (first | exact up_s | assumption | refine up_n (by omega) ?_)), (by first | exact Or.inr (Or.inr rfl) | exact Or.inr (Or.inl rfl) | exact Or.inl rfl), adl (by omega), (by first | assumption | exact vp_in_nI (by omega) (by omega)), (by first | exact rowsF_at (by omega) | exact shF_at (by omega)), ?_⟩ | refine hZ _ _ _ _ ?_)
      refine ⟨fun c => ?_, fun c => absurd rfl c⟩
      repeat (first | refine hZ _ _ _ _ ⟨rfl, ?_⟩ | refine hZ _ _ _ _ ⟨_, _, (by repeat (first | exact up_s | assumption | refine up_n (by omega) ?_)), adl (by omega), (by rfl), ?_⟩ | refine hZ _ _ _ _ ⟨_, _, (by repeat (first | exact up_s | assumption | refine up_n (by omega) ?_)), adl (by omega), (by first | assumption | exact vp_in_nI (by omega) (by omega)), ?_⟩ | refine hZ _ _ _ _ ⟨_, (by repeat (first | exact up_s | assumption | refine up_n (by omega) ?_)), adl (by omega), (by rfl), trivial, ?_⟩ | refine hZ _ _ _ _ ⟨trivial, ?_⟩ | refine hZ _ _ _ _ ⟨_, _, _, _, (by repeat (first | exact up_s | assumption | refine up_n (by omega) ?_)), (by first | exact Or.inr (Or.inr rfl) | exact Or.inr (Or.inl rfl) | exact Or.inl rfl), adl (by omega), (by first | assumption | exact vp_in_nI (by omega) (by omega)), (by first | exact rowsF_at (by omega) | exact shF_at (by omega)), ?_⟩ | refine hZ _ _ _ _ ?_)
      subst hk
      rw [itr_same (c := bnc n a w κ x) (n := n) (m := k') he]
      exact hp
    induction e with
    | zero =>
      intro k was o3 o4 o5 hk hw
      rcases hw with ⟨h1, h2⟩ | ⟨k', h1, h2⟩
      · omega
      · subst h2
        refine fin k k' o3 o4 o5 h1 ?_
        rw [h1, show k' = n by omega]
        exact itr_fix _ _
    | succ e ih =>
      intro k was o3 o4 o5 hk hw
      have go : Z h 27 [some (.ref 61), some (.int (nI (itr (bnc n a w κ x) n k))), some (.int was), o3, o4, o5] [] := by
        have inner : ∀ i p, p + i = n → ∀ o4 o5, Z h 31 [some (.ref 61), some (.int (nI (swp (bnc n a w κ x) (itr (bnc n a w κ x) n k) p))), some (.int (nI (itr (bnc n a w κ x) n k))), some (.int (nI p)), o4, o5] [] := by
          intro i
          induction i with
          | zero =>
            intro p hpi o4 o5
            repeat (first | refine hZ _ _ _ _ ⟨rfl, ?_⟩ | refine hZ _ _ _ _ ⟨_, _, (by repeat (first | exact up_s | assumption | refine up_n (by omega) ?_)), adl (by omega), (by rfl), ?_⟩ | refine hZ _ _ _ _ ⟨_, _, (by repeat (first | exact up_s | assumption | refine up_n (by omega) ?_)), adl (by omega), (by first | assumption | exact vp_in_nI (by omega) (by omega)), ?_⟩ | refine hZ _ _ _ _ ⟨_, (by repeat (first | exact up_s | assumption | refine up_n (by omega) ?_)), adl (by omega), (by rfl), trivial, ?_⟩ | refine hZ _ _ _ _ ⟨trivial, ?_⟩ | refine hZ _ _ _ _ ⟨_, _, _, _, (by repeat (first | exact up_s | assumption | refine up_n (by omega) ?_)), (by first | exact Or.inr (Or.inr rfl) | exact Or.inr (Or.inl rfl) | exact Or.inl rfl), adl (by omega), (by first | assumption | exact vp_in_nI (by omega) (by omega)), (by first | exact rowsF_at (by omega) | exact shF_at (by omega)), ?_⟩ | refine hZ _ _ _ _ ?_)
            refine ⟨fun c => ?_, fun c => absurd (nI_le (by omega) (by omega)) c⟩
            iterate 1 (first | refine hZ _ _ _ _ ⟨rfl, ?_⟩ | refine hZ _ _ _ _ ⟨_, _, (by repeat (first | exact up_s | assumption | refine up_n (by omega) ?_)), adl (by omega), (by rfl), ?_⟩ | refine hZ _ _ _ _ ⟨_, _, (by repeat (first | exact up_s | assumption | refine up_n (by omega) ?_)), adl (by omega), (by first | assumption | exact vp_in_nI (by omega) (by omega)), ?_⟩ | refine hZ _ _ _ _ ⟨_, (by repeat (first | exact up_s | assumption | refine up_n (by omega) ?_)), adl (by omega), (by rfl), trivial, ?_⟩ | refine hZ _ _ _ _ ⟨trivial, ?_⟩ | refine hZ _ _ _ _ ⟨_, _, _, _, (by repeat (first | exact up_s | assumption | refine up_n (by omega) ?_)), (by first | exact Or.inr (Or.inr rfl) | exact Or.inr (Or.inl rfl) | exact Or.inl rfl), adl (by omega), (by first | assumption | exact vp_in_nI (by omega) (by omega)), (by first | exact rowsF_at (by omega) | exact shF_at (by omega)), ?_⟩ | refine hZ _ _ _ _ ?_)
            show Z _ 22 _ _
            rw [show p = n by omega]
            exact ih (k + 1) _ _ _ _ (by omega) (Or.inr ⟨k, rfl, rfl⟩)
          | succ i ihi =>
            intro p hpi o4 o5
            have hpn : p < n := by omega
            have hSl := swp_lt (c := bnc n a w κ x) (itr_lt (bnc n a w κ x) n k) (k := p) (by omega)
            have hS1 := hS _ hSl
            have hpl := pin_le (a := a p) (S := swp (bnc n a w κ x) (itr (bnc n a w κ x) n k) p) (n := n) (c := 3) (fun q hq => Y.2.2.2.1 p q hpn hq)
            have hw1 := Y.2.2.2.2.1 p hpn
            have hx1 := hx p hpn
            have hb1 := brf_le Y hpn
            have nx := ihi (p + 1) (by omega)
            generalize hSe : swp (bnc n a w κ x) (itr (bnc n a w κ x) n k) p = S at *
            have hnx : swp (bnc n a w κ x) (itr (bnc n a w κ x) n k) (p + 1) = if bnc n a w κ x S p = true then S ||| 2 ^ p else S := by
              show (if bnc n a w κ x (swp (bnc n a w κ x) (itr (bnc n a w κ x) n k) p) p = true then _ else _) = _
              rw [hSe]
            rw [hnx] at nx
            have sums : ∀ i q, q + i = n → Z h 57 [some (.ref 61), some (.int (nI S)), some (.int (nI (itr (bnc n a w κ x) n k))), some (.int (nI p)), some (.int (nI (x p + w p + pin (a p) S q))), some (.int (nI q))] [] := by
              intro i
              induction i with
              | zero =>
                intro q hqi
                repeat (first | refine hZ _ _ _ _ ⟨rfl, ?_⟩ | refine hZ _ _ _ _ ⟨_, _, (by repeat (first | exact up_s | assumption | refine up_n (by omega) ?_)), adl (by omega), (by rfl), ?_⟩ | refine hZ _ _ _ _ ⟨_, _, (by repeat (first | exact up_s | assumption | refine up_n (by omega) ?_)), adl (by omega), (by first | assumption | exact vp_in_nI (by omega) (by omega)), ?_⟩ | refine hZ _ _ _ _ ⟨_, (by repeat (first | exact up_s | assumption | refine up_n (by omega) ?_)), adl (by omega), (by rfl), trivial, ?_⟩ | refine hZ _ _ _ _ ⟨trivial, ?_⟩ | refine hZ _ _ _ _ ⟨_, _, _, _, (by repeat (first | exact up_s | assumption | refine up_n (by omega) ?_)), (by first | exact Or.inr (Or.inr rfl) | exact Or.inr (Or.inl rfl) | exact Or.inl rfl), adl (by omega), (by first | assumption | exact vp_in_nI (by omega) (by omega)), (by first | exact rowsF_at (by omega) | exact shF_at (by omega)), ?_⟩ | refine hZ _ _ _ _ ?_)
                refine ⟨fun c => ?_, fun c => absurd (nI_le (by omega) (by omega)) c⟩
                rw [show q = n by omega]
                iterate 4 (first | refine hZ _ _ _ _ ⟨rfl, ?_⟩ | refine hZ _ _ _ _ ⟨_, _, (by repeat (first | exact up_s | assumption | refine up_n (by omega) ?_)), adl (by omega), (by rfl), ?_⟩ | refine hZ _ _ _ _ ⟨_, _, (by repeat (first | exact up_s | assumption | refine up_n (by omega) ?_)), adl (by omega), (by first | assumption | exact vp_in_nI (by omega) (by omega)), ?_⟩ | refine hZ _ _ _ _ ⟨_, (by repeat (first | exact up_s | assumption | refine up_n (by omega) ?_)), adl (by omega), (by rfl), trivial, ?_⟩ | refine hZ _ _ _ _ ⟨trivial, ?_⟩ | refine hZ _ _ _ _ ⟨_, _, _, _, (by repeat (first | exact up_s | assumption | refine up_n (by omega) ?_)), (by first | exact Or.inr (Or.inr rfl) | exact Or.inr (Or.inl rfl) | exact Or.inl rfl), adl (by omega), (by first | assumption | exact vp_in_nI (by omega) (by omega)), (by first | exact rowsF_at (by omega) | exact shF_at (by omega)), ?_⟩ | refine hZ _ _ _ _ ?_)
                show Z _ 106 _ _
                refine hZ _ _ _ _ ⟨⟨_, (by repeat (first | exact up_s | assumption | refine up_n (by omega) ?_))⟩, adl (by omega), rfl, ?_⟩
                refine m_bears M G o2 (Y.2.2.2.2.2.1 p hpn) hpn ?_
                show Z _ 109 _ _
                repeat (first | refine hZ _ _ _ _ ⟨rfl, ?_⟩ | refine hZ _ _ _ _ ⟨_, _, (by repeat (first | exact up_s | assumption | refine up_n (by omega) ?_)), adl (by omega), (by rfl), ?_⟩ | refine hZ _ _ _ _ ⟨_, _, (by repeat (first | exact up_s | assumption | refine up_n (by omega) ?_)), adl (by omega), (by first | assumption | exact vp_in_nI (by omega) (by omega)), ?_⟩ | refine hZ _ _ _ _ ⟨_, (by repeat (first | exact up_s | assumption | refine up_n (by omega) ?_)), adl (by omega), (by rfl), trivial, ?_⟩ | refine hZ _ _ _ _ ⟨trivial, ?_⟩ | refine hZ _ _ _ _ ⟨_, _, _, _, (by repeat (first | exact up_s | assumption | refine up_n (by omega) ?_)), (by first | exact Or.inr (Or.inr rfl) | exact Or.inr (Or.inl rfl) | exact Or.inl rfl), adl (by omega), (by first | assumption | exact vp_in_nI (by omega) (by omega)), (by first | exact rowsF_at (by omega) | exact shF_at (by omega)), ?_⟩ | refine hZ _ _ _ _ ?_)
                by_cases hc : brf n a w κ p ≤ x p + w p + pin (a p) S n
                · rw [if_pos (show bnc n a w κ x S p = true from decide_eq_true hc)] at nx
                  refine ⟨fun c => absurd c (nI_nlt hc (by omega)), fun c => ?_⟩
                  iterate 8 (first | refine hZ _ _ _ _ ⟨rfl, ?_⟩ | refine hZ _ _ _ _ ⟨_, _, (by repeat (first | exact up_s | assumption | refine up_n (by omega) ?_)), adl (by omega), (by rfl), ?_⟩ | refine hZ _ _ _ _ ⟨_, _, (by repeat (first | exact up_s | assumption | refine up_n (by omega) ?_)), adl (by omega), (by first | assumption | exact vp_in_nI (by omega) (by omega)), ?_⟩ | refine hZ _ _ _ _ ⟨_, (by repeat (first | exact up_s | assumption | refine up_n (by omega) ?_)), adl (by omega), (by rfl), trivial, ?_⟩ | refine hZ _ _ _ _ ⟨trivial, ?_⟩ | refine hZ _ _ _ _ ⟨_, _, _, _, (by repeat (first | exact up_s | assumption | refine up_n (by omega) ?_)), (by first | exact Or.inr (Or.inr rfl) | exact Or.inr (Or.inl rfl) | exact Or.inl rfl), adl (by omega), (by first | assumption | exact vp_in_nI (by omega) (by omega)), (by first | exact rowsF_at (by omega) | exact shF_at (by omega)), ?_⟩ | refine hZ _ _ _ _ ?_)
                  show Z _ 31 _ _
                  rw [nI_inc, lit_1, shl_bit (by omega), nI_or]
                  exact nx _ _
                · rw [if_neg (by rw [show bnc n a w κ x S p = false from decide_eq_false hc]; decide)] at nx
                  refine ⟨fun c => ?_, fun c => absurd (nI_lt (Nat.lt_of_not_le hc) (Nat.lt_of_le_of_lt hb1 (by decide))) c⟩
                  iterate 5 (first | refine hZ _ _ _ _ ⟨rfl, ?_⟩ | refine hZ _ _ _ _ ⟨_, _, (by repeat (first | exact up_s | assumption | refine up_n (by omega) ?_)), adl (by omega), (by rfl), ?_⟩ | refine hZ _ _ _ _ ⟨_, _, (by repeat (first | exact up_s | assumption | refine up_n (by omega) ?_)), adl (by omega), (by first | assumption | exact vp_in_nI (by omega) (by omega)), ?_⟩ | refine hZ _ _ _ _ ⟨_, (by repeat (first | exact up_s | assumption | refine up_n (by omega) ?_)), adl (by omega), (by rfl), trivial, ?_⟩ | refine hZ _ _ _ _ ⟨trivial, ?_⟩ | refine hZ _ _ _ _ ⟨_, _, _, _, (by repeat (first | exact up_s | assumption | refine up_n (by omega) ?_)), (by first | exact Or.inr (Or.inr rfl) | exact Or.inr (Or.inl rfl) | exact Or.inl rfl), adl (by omega), (by first | assumption | exact vp_in_nI (by omega) (by omega)), (by first | exact rowsF_at (by omega) | exact shF_at (by omega)), ?_⟩ | refine hZ _ _ _ _ ?_)
                  show Z _ 31 _ _
                  rw [nI_inc, lit_0, nI_or, Nat.or_zero]
                  exact nx _ _
              | succ i ihq =>
                intro q hqi
                have nq := ihq (q + 1) (by omega)
                repeat (first | refine hZ _ _ _ _ ⟨rfl, ?_⟩ | refine hZ _ _ _ _ ⟨_, _, (by repeat (first | exact up_s | assumption | refine up_n (by omega) ?_)), adl (by omega), (by rfl), ?_⟩ | refine hZ _ _ _ _ ⟨_, _, (by repeat (first | exact up_s | assumption | refine up_n (by omega) ?_)), adl (by omega), (by first | assumption | exact vp_in_nI (by omega) (by omega)), ?_⟩ | refine hZ _ _ _ _ ⟨_, (by repeat (first | exact up_s | assumption | refine up_n (by omega) ?_)), adl (by omega), (by rfl), trivial, ?_⟩ | refine hZ _ _ _ _ ⟨trivial, ?_⟩ | refine hZ _ _ _ _ ⟨_, _, _, _, (by repeat (first | exact up_s | assumption | refine up_n (by omega) ?_)), (by first | exact Or.inr (Or.inr rfl) | exact Or.inr (Or.inl rfl) | exact Or.inl rfl), adl (by omega), (by first | assumption | exact vp_in_nI (by omega) (by omega)), (by first | exact rowsF_at (by omega) | exact shF_at (by omega)), ?_⟩ | refine hZ _ _ _ _ ?_)
                refine ⟨fun c => absurd c (nI_ge (by omega) (by omega)), fun c => ?_⟩
                iterate 3 (first | refine hZ _ _ _ _ ⟨rfl, ?_⟩ | refine hZ _ _ _ _ ⟨_, _, (by repeat (first | exact up_s | assumption | refine up_n (by omega) ?_)), adl (by omega), (by rfl), ?_⟩ | refine hZ _ _ _ _ ⟨_, _, (by repeat (first | exact up_s | assumption | refine up_n (by omega) ?_)), adl (by omega), (by first | assumption | exact vp_in_nI (by omega) (by omega)), ?_⟩ | refine hZ _ _ _ _ ⟨_, (by repeat (first | exact up_s | assumption | refine up_n (by omega) ?_)), adl (by omega), (by rfl), trivial, ?_⟩ | refine hZ _ _ _ _ ⟨trivial, ?_⟩ | refine hZ _ _ _ _ ⟨_, _, _, _, (by repeat (first | exact up_s | assumption | refine up_n (by omega) ?_)), (by first | exact Or.inr (Or.inr rfl) | exact Or.inr (Or.inl rfl) | exact Or.inl rfl), adl (by omega), (by first | assumption | exact vp_in_nI (by omega) (by omega)), (by first | exact rowsF_at (by omega) | exact shF_at (by omega)), ?_⟩ | refine hZ _ _ _ _ ?_)
                show Z _ 71 _ _
                refine hZ _ _ _ _ ⟨rfl, rfl, ?_⟩
                refine m_isOf hS1 (by omega) ?_
                show Z _ 74 _ _
                by_cases hb : bt1 S q = 1
                · rw [decide_eq_true hb]
                  rw [pin_s hb] at nq
                  repeat (first | refine hZ _ _ _ _ ⟨rfl, ?_⟩ | refine hZ _ _ _ _ ⟨_, _, (by repeat (first | exact up_s | assumption | refine up_n (by omega) ?_)), adl (by omega), (by rfl), ?_⟩ | refine hZ _ _ _ _ ⟨_, _, (by repeat (first | exact up_s | assumption | refine up_n (by omega) ?_)), adl (by omega), (by first | assumption | exact vp_in_nI (by omega) (by omega)), ?_⟩ | refine hZ _ _ _ _ ⟨_, (by repeat (first | exact up_s | assumption | refine up_n (by omega) ?_)), adl (by omega), (by rfl), trivial, ?_⟩ | refine hZ _ _ _ _ ⟨trivial, ?_⟩ | refine hZ _ _ _ _ ⟨_, _, _, _, (by repeat (first | exact up_s | assumption | refine up_n (by omega) ?_)), (by first | exact Or.inr (Or.inr rfl) | exact Or.inr (Or.inl rfl) | exact Or.inl rfl), adl (by omega), (by first | assumption | exact vp_in_nI (by omega) (by omega)), (by first | exact rowsF_at (by omega) | exact shF_at (by omega)), ?_⟩ | refine hZ _ _ _ _ ?_)
                  refine ⟨fun c => absurd c (by decide), fun c => ?_⟩
                  iterate 7 (first | refine hZ _ _ _ _ ⟨rfl, ?_⟩ | refine hZ _ _ _ _ ⟨_, _, (by repeat (first | exact up_s | assumption | refine up_n (by omega) ?_)), adl (by omega), (by rfl), ?_⟩ | refine hZ _ _ _ _ ⟨_, _, (by repeat (first | exact up_s | assumption | refine up_n (by omega) ?_)), adl (by omega), (by first | assumption | exact vp_in_nI (by omega) (by omega)), ?_⟩ | refine hZ _ _ _ _ ⟨_, (by repeat (first | exact up_s | assumption | refine up_n (by omega) ?_)), adl (by omega), (by rfl), trivial, ?_⟩ | refine hZ _ _ _ _ ⟨trivial, ?_⟩ | refine hZ _ _ _ _ ⟨_, _, _, _, (by repeat (first | exact up_s | assumption | refine up_n (by omega) ?_)), (by first | exact Or.inr (Or.inr rfl) | exact Or.inr (Or.inl rfl) | exact Or.inl rfl), adl (by omega), (by first | assumption | exact vp_in_nI (by omega) (by omega)), (by first | exact rowsF_at (by omega) | exact shF_at (by omega)), ?_⟩ | refine hZ _ _ _ _ ?_)
                  show Z _ 87 _ _
                  rw [lit_5, pk_mul, nI_add]
                  iterate 6 (first | refine hZ _ _ _ _ ⟨rfl, ?_⟩ | refine hZ _ _ _ _ ⟨_, _, (by repeat (first | exact up_s | assumption | refine up_n (by omega) ?_)), adl (by omega), (by rfl), ?_⟩ | refine hZ _ _ _ _ ⟨_, _, (by repeat (first | exact up_s | assumption | refine up_n (by omega) ?_)), adl (by omega), (by first | assumption | exact vp_in_nI (by omega) (by omega)), ?_⟩ | refine hZ _ _ _ _ ⟨_, (by repeat (first | exact up_s | assumption | refine up_n (by omega) ?_)), adl (by omega), (by rfl), trivial, ?_⟩ | refine hZ _ _ _ _ ⟨trivial, ?_⟩ | refine hZ _ _ _ _ ⟨_, _, _, _, (by repeat (first | exact up_s | assumption | refine up_n (by omega) ?_)), (by first | exact Or.inr (Or.inr rfl) | exact Or.inr (Or.inl rfl) | exact Or.inl rfl), adl (by omega), (by first | assumption | exact vp_in_nI (by omega) (by omega)), (by first | exact rowsF_at (by omega) | exact shF_at (by omega)), ?_⟩ | refine hZ _ _ _ _ ?_)
                  show Z _ 57 _ _
                  rw [nI_inc, nI_clamp (show 5 * p + q < 2 ^ 31 by omega), G.2.2 p q hpn (by omega), nI_add]
                  rw [← Nat.add_assoc] at nq
                  exact nq
                · rw [decide_eq_false hb]
                  rw [pin_n hb] at nq
                  repeat (first | refine hZ _ _ _ _ ⟨rfl, ?_⟩ | refine hZ _ _ _ _ ⟨_, _, (by repeat (first | exact up_s | assumption | refine up_n (by omega) ?_)), adl (by omega), (by rfl), ?_⟩ | refine hZ _ _ _ _ ⟨_, _, (by repeat (first | exact up_s | assumption | refine up_n (by omega) ?_)), adl (by omega), (by first | assumption | exact vp_in_nI (by omega) (by omega)), ?_⟩ | refine hZ _ _ _ _ ⟨_, (by repeat (first | exact up_s | assumption | refine up_n (by omega) ?_)), adl (by omega), (by rfl), trivial, ?_⟩ | refine hZ _ _ _ _ ⟨trivial, ?_⟩ | refine hZ _ _ _ _ ⟨_, _, _, _, (by repeat (first | exact up_s | assumption | refine up_n (by omega) ?_)), (by first | exact Or.inr (Or.inr rfl) | exact Or.inr (Or.inl rfl) | exact Or.inl rfl), adl (by omega), (by first | assumption | exact vp_in_nI (by omega) (by omega)), (by first | exact rowsF_at (by omega) | exact shF_at (by omega)), ?_⟩ | refine hZ _ _ _ _ ?_)
                  refine ⟨fun c => ?_, fun c => absurd rfl c⟩
                  iterate 5 (first | refine hZ _ _ _ _ ⟨rfl, ?_⟩ | refine hZ _ _ _ _ ⟨_, _, (by repeat (first | exact up_s | assumption | refine up_n (by omega) ?_)), adl (by omega), (by rfl), ?_⟩ | refine hZ _ _ _ _ ⟨_, _, (by repeat (first | exact up_s | assumption | refine up_n (by omega) ?_)), adl (by omega), (by first | assumption | exact vp_in_nI (by omega) (by omega)), ?_⟩ | refine hZ _ _ _ _ ⟨_, (by repeat (first | exact up_s | assumption | refine up_n (by omega) ?_)), adl (by omega), (by rfl), trivial, ?_⟩ | refine hZ _ _ _ _ ⟨trivial, ?_⟩ | refine hZ _ _ _ _ ⟨_, _, _, _, (by repeat (first | exact up_s | assumption | refine up_n (by omega) ?_)), (by first | exact Or.inr (Or.inr rfl) | exact Or.inr (Or.inl rfl) | exact Or.inl rfl), adl (by omega), (by first | assumption | exact vp_in_nI (by omega) (by omega)), (by first | exact rowsF_at (by omega) | exact shF_at (by omega)), ?_⟩ | refine hZ _ _ _ _ ?_)
                  show Z _ 57 _ _
                  rw [nI_inc, lit_0, nI_add, Nat.add_zero]
                  exact nq
            repeat (first | refine hZ _ _ _ _ ⟨rfl, ?_⟩ | refine hZ _ _ _ _ ⟨_, _, (by repeat (first | exact up_s | assumption | refine up_n (by omega) ?_)), adl (by omega), (by rfl), ?_⟩ | refine hZ _ _ _ _ ⟨_, _, (by repeat (first | exact up_s | assumption | refine up_n (by omega) ?_)), adl (by omega), (by first | assumption | exact vp_in_nI (by omega) (by omega)), ?_⟩ | refine hZ _ _ _ _ ⟨_, (by repeat (first | exact up_s | assumption | refine up_n (by omega) ?_)), adl (by omega), (by rfl), trivial, ?_⟩ | refine hZ _ _ _ _ ⟨trivial, ?_⟩ | refine hZ _ _ _ _ ⟨_, _, _, _, (by repeat (first | exact up_s | assumption | refine up_n (by omega) ?_)), (by first | exact Or.inr (Or.inr rfl) | exact Or.inr (Or.inl rfl) | exact Or.inl rfl), adl (by omega), (by first | assumption | exact vp_in_nI (by omega) (by omega)), (by first | exact rowsF_at (by omega) | exact shF_at (by omega)), ?_⟩ | refine hZ _ _ _ _ ?_)
            refine ⟨fun c => absurd c (nI_ge (by omega) (by omega)), fun c => ?_⟩
            iterate 12 (first | refine hZ _ _ _ _ ⟨rfl, ?_⟩ | refine hZ _ _ _ _ ⟨_, _, (by repeat (first | exact up_s | assumption | refine up_n (by omega) ?_)), adl (by omega), (by rfl), ?_⟩ | refine hZ _ _ _ _ ⟨_, _, (by repeat (first | exact up_s | assumption | refine up_n (by omega) ?_)), adl (by omega), (by first | assumption | exact vp_in_nI (by omega) (by omega)), ?_⟩ | refine hZ _ _ _ _ ⟨_, (by repeat (first | exact up_s | assumption | refine up_n (by omega) ?_)), adl (by omega), (by rfl), trivial, ?_⟩ | refine hZ _ _ _ _ ⟨trivial, ?_⟩ | refine hZ _ _ _ _ ⟨_, _, _, _, (by repeat (first | exact up_s | assumption | refine up_n (by omega) ?_)), (by first | exact Or.inr (Or.inr rfl) | exact Or.inr (Or.inl rfl) | exact Or.inl rfl), adl (by omega), (by first | assumption | exact vp_in_nI (by omega) (by omega)), (by first | exact rowsF_at (by omega) | exact shF_at (by omega)), ?_⟩ | refine hZ _ _ _ _ ?_)
            show Z _ 57 _ _
            rw [nI_clamp (show p < 2 ^ 31 by omega), hX p hpn, G.2.1 p hpn, nI_add]
            exact sums n 0 (by omega)
        iterate 4 (first | refine hZ _ _ _ _ ⟨rfl, ?_⟩ | refine hZ _ _ _ _ ⟨_, _, (by repeat (first | exact up_s | assumption | refine up_n (by omega) ?_)), adl (by omega), (by rfl), ?_⟩ | refine hZ _ _ _ _ ⟨_, _, (by repeat (first | exact up_s | assumption | refine up_n (by omega) ?_)), adl (by omega), (by first | assumption | exact vp_in_nI (by omega) (by omega)), ?_⟩ | refine hZ _ _ _ _ ⟨_, (by repeat (first | exact up_s | assumption | refine up_n (by omega) ?_)), adl (by omega), (by rfl), trivial, ?_⟩ | refine hZ _ _ _ _ ⟨trivial, ?_⟩ | refine hZ _ _ _ _ ⟨_, _, _, _, (by repeat (first | exact up_s | assumption | refine up_n (by omega) ?_)), (by first | exact Or.inr (Or.inr rfl) | exact Or.inr (Or.inl rfl) | exact Or.inl rfl), adl (by omega), (by first | assumption | exact vp_in_nI (by omega) (by omega)), (by first | exact rowsF_at (by omega) | exact shF_at (by omega)), ?_⟩ | refine hZ _ _ _ _ ?_)
        show Z _ 31 _ _
        exact inner n 0 (by omega) _ _
      rcases hw with ⟨h1, h2⟩ | ⟨k', h1, h2⟩
      · subst h1 h2
        repeat (first | refine hZ _ _ _ _ ⟨rfl, ?_⟩ | refine hZ _ _ _ _ ⟨_, _, (by repeat (first | exact up_s | assumption | refine up_n (by omega) ?_)), adl (by omega), (by rfl), ?_⟩ | refine hZ _ _ _ _ ⟨_, _, (by repeat (first | exact up_s | assumption | refine up_n (by omega) ?_)), adl (by omega), (by first | assumption | exact vp_in_nI (by omega) (by omega)), ?_⟩ | refine hZ _ _ _ _ ⟨_, (by repeat (first | exact up_s | assumption | refine up_n (by omega) ?_)), adl (by omega), (by rfl), trivial, ?_⟩ | refine hZ _ _ _ _ ⟨trivial, ?_⟩ | refine hZ _ _ _ _ ⟨_, _, _, _, (by repeat (first | exact up_s | assumption | refine up_n (by omega) ?_)), (by first | exact Or.inr (Or.inr rfl) | exact Or.inr (Or.inl rfl) | exact Or.inl rfl), adl (by omega), (by first | assumption | exact vp_in_nI (by omega) (by omega)), (by first | exact rowsF_at (by omega) | exact shF_at (by omega)), ?_⟩ | refine hZ _ _ _ _ ?_)
        refine ⟨fun c => absurd (show nI 0 = -9 from c) (by decide), fun c => ?_⟩
        exact go
      · subst h2
        by_cases he : itr (bnc n a w κ x) n k = itr (bnc n a w κ x) n k'
        · exact fin k k' o3 o4 o5 h1 he
        · repeat (first | refine hZ _ _ _ _ ⟨rfl, ?_⟩ | refine hZ _ _ _ _ ⟨_, _, (by repeat (first | exact up_s | assumption | refine up_n (by omega) ?_)), adl (by omega), (by rfl), ?_⟩ | refine hZ _ _ _ _ ⟨_, _, (by repeat (first | exact up_s | assumption | refine up_n (by omega) ?_)), adl (by omega), (by first | assumption | exact vp_in_nI (by omega) (by omega)), ?_⟩ | refine hZ _ _ _ _ ⟨_, (by repeat (first | exact up_s | assumption | refine up_n (by omega) ?_)), adl (by omega), (by rfl), trivial, ?_⟩ | refine hZ _ _ _ _ ⟨trivial, ?_⟩ | refine hZ _ _ _ _ ⟨_, _, _, _, (by repeat (first | exact up_s | assumption | refine up_n (by omega) ?_)), (by first | exact Or.inr (Or.inr rfl) | exact Or.inr (Or.inl rfl) | exact Or.inl rfl), adl (by omega), (by first | assumption | exact vp_in_nI (by omega) (by omega)), (by first | exact rowsF_at (by omega) | exact shF_at (by omega)), ?_⟩ | refine hZ _ _ _ _ ?_)
          refine ⟨fun c => absurd ((nI_eq (hS _ (itr_lt _ _ _)) (hS _ (itr_lt _ _ _))).mp c) he, fun c => ?_⟩
          exact go
  iterate 4 (first | refine hZ _ _ _ _ ⟨rfl, ?_⟩ | refine hZ _ _ _ _ ⟨_, _, (by repeat (first | exact up_s | assumption | refine up_n (by omega) ?_)), adl (by omega), (by rfl), ?_⟩ | refine hZ _ _ _ _ ⟨_, _, (by repeat (first | exact up_s | assumption | refine up_n (by omega) ?_)), adl (by omega), (by first | assumption | exact vp_in_nI (by omega) (by omega)), ?_⟩ | refine hZ _ _ _ _ ⟨_, (by repeat (first | exact up_s | assumption | refine up_n (by omega) ?_)), adl (by omega), (by rfl), trivial, ?_⟩ | refine hZ _ _ _ _ ⟨trivial, ?_⟩ | refine hZ _ _ _ _ ⟨_, _, _, _, (by repeat (first | exact up_s | assumption | refine up_n (by omega) ?_)), (by first | exact Or.inr (Or.inr rfl) | exact Or.inr (Or.inl rfl) | exact Or.inl rfl), adl (by omega), (by first | assumption | exact vp_in_nI (by omega) (by omega)), (by first | exact rowsF_at (by omega) | exact shF_at (by omega)), ?_⟩ | refine hZ _ _ _ _ ?_)
  show Z _ 22 _ _
  rw [lbm9]
  exact head (n + 1) 0 _ _ _ _ (by omega) (Or.inl ⟨rfl, rfl⟩)
