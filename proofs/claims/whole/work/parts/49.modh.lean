/-! ===== the reference: topple, settle ===== -/
theorem eq67 {A A1 : Nat → Nat → Int32} (h : ∀ j, ¬ j = 67 → ¬ j = 74 → A1 j = A j) : A1 65 = A 65 ∧ A1 66 = A 66 ∧ A1 68 = A 68 ∧ A1 69 = A 69 ∧ A1 80 = A 80 ∧ A1 81 = A 81 ∧ A1 62 = A 62 ∧ A1 63 = A 63 ∧ A1 64 = A 64 ∧ A1 73 = A 73 := ⟨h _ (by decide) (by decide), h _ (by decide) (by decide), h _ (by decide) (by decide), h _ (by decide) (by decide), h _ (by decide) (by decide), h _ (by decide) (by decide), h _ (by decide) (by decide), h _ (by decide) (by decide), h _ (by decide) (by decide), h _ (by decide) (by decide)⟩
set_option maxHeartbeats 1000000 in
theorem M_settle {l : Launch} {h : AH} {s : St} {P : Option Value → AH → Prop} (M : MY h s) (O : Ok s) (hx : sm s.2.1.1 s.1.1 ≤ 66666) (hp : ∀ h', Fr 61 82 h h' → MY h' (S_settle s).2 → P (some (.int (S_settle s).1)) h') : Sem l QX7_settle 82 h [.ref 61] P := by
  have M0 := M
  obtain ⟨⟨n, a, w, κ⟩, ⟨x, tp, fa, to⟩, ⟨cn, pl, td⟩, ⟨z, m, c⟩, tr, fl⟩ := s
  obtain ⟨at', rp, dF', dT, dS, A, L, M, G, hX, hT, hR, hS, h73⟩ := M
  obtain ⟨o1, o2, o3⟩ := O
  have m0 := M.1
  refine iX7_settle rfl ?_
  intro Z hZ
  unfold S_settle at hp
  dsimp only at hp hx
  repeat (first | refine hZ _ _ _ _ ⟨rfl, ?_⟩ | refine hZ _ _ _ _ ⟨_, _, (by repeat (first | exact up_s | assumption | refine up_n (by omega) ?_)), adl (by omega), (by rfl), ?_⟩ | refine hZ _ _ _ _ ⟨_, _, (by repeat (first | exact up_s | assumption | refine up_n (by omega) ?_)), adl (by omega), (by first | assumption | exact vp_in_nI (by omega) (by omega)), ?_⟩ | refine hZ _ _ _ _ ⟨_, (by repeat (first | exact up_s | assumption | refine up_n (by omega) ?_)), adl (by omega), (by rfl), trivial, ?_⟩ | refine hZ _ _ _ _ ⟨trivial, ?_⟩ | refine hZ _ _ _ _ ⟨_, _, _, _, (by repeat (first | exact up_s | assumption | refine up_n (by omega) ?_)), (by first | exact Or.inr (Or.inr rfl) | exact Or.inr (Or.inl rfl) | exact Or.inl rfl), adl (by omega), (by first | assumption | exact vp_in_nI (by omega) (by omega)), (by first | exact rowsF_at (by omega) | exact shF_at (by omega)), ?_⟩ | refine hZ _ _ _ _ ?_)
  by_cases hn : n = 0
  · rw [if_pos hn] at hp
    refine ⟨fun c9 => absurd (by rw [hn]; rfl) c9, fun c9 => ?_⟩
    repeat (first | refine hZ _ _ _ _ ⟨rfl, ?_⟩ | refine hZ _ _ _ _ ⟨_, _, (by repeat (first | exact up_s | assumption | refine up_n (by omega) ?_)), adl (by omega), (by rfl), ?_⟩ | refine hZ _ _ _ _ ⟨_, _, (by repeat (first | exact up_s | assumption | refine up_n (by omega) ?_)), adl (by omega), (by first | assumption | exact vp_in_nI (by omega) (by omega)), ?_⟩ | refine hZ _ _ _ _ ⟨_, (by repeat (first | exact up_s | assumption | refine up_n (by omega) ?_)), adl (by omega), (by rfl), trivial, ?_⟩ | refine hZ _ _ _ _ ⟨trivial, ?_⟩ | refine hZ _ _ _ _ ⟨_, _, _, _, (by repeat (first | exact up_s | assumption | refine up_n (by omega) ?_)), (by first | exact Or.inr (Or.inr rfl) | exact Or.inr (Or.inl rfl) | exact Or.inl rfl), adl (by omega), (by first | assumption | exact vp_in_nI (by omega) (by omega)), (by first | exact rowsF_at (by omega) | exact shF_at (by omega)), ?_⟩ | refine hZ _ _ _ _ ?_)
    rw [lbm3]
    exact hp h Fr.rf M0
  rw [if_neg hn] at hp
  have Y : Yw n a w κ := by rcases o1 with z | z; · omega
                            · exact z.2
  refine ⟨fun c9 => ?_, fun c9 => absurd ((nI_eq (b := 0) (by omega) (by omega)).mp c9) hn⟩
  iterate 1 (first | refine hZ _ _ _ _ ⟨rfl, ?_⟩ | refine hZ _ _ _ _ ⟨_, _, (by repeat (first | exact up_s | assumption | refine up_n (by omega) ?_)), adl (by omega), (by rfl), ?_⟩ | refine hZ _ _ _ _ ⟨_, _, (by repeat (first | exact up_s | assumption | refine up_n (by omega) ?_)), adl (by omega), (by first | assumption | exact vp_in_nI (by omega) (by omega)), ?_⟩ | refine hZ _ _ _ _ ⟨_, (by repeat (first | exact up_s | assumption | refine up_n (by omega) ?_)), adl (by omega), (by rfl), trivial, ?_⟩ | refine hZ _ _ _ _ ⟨trivial, ?_⟩ | refine hZ _ _ _ _ ⟨_, _, _, _, (by repeat (first | exact up_s | assumption | refine up_n (by omega) ?_)), (by first | exact Or.inr (Or.inr rfl) | exact Or.inr (Or.inl rfl) | exact Or.inl rfl), adl (by omega), (by first | assumption | exact vp_in_nI (by omega) (by omega)), (by first | exact rowsF_at (by omega) | exact shF_at (by omega)), ?_⟩ | refine hZ _ _ _ _ ?_)
  show Z _ 11 _ _
  refine hZ _ _ _ _ ⟨⟨_, (by repeat (first | exact up_s | assumption | refine up_n (by omega) ?_))⟩, adl (by omega), rfl, ?_⟩
  refine m_start M (fun h1 f1 F1 M1 hf1 => ?_)
  show Z _ 14 _ _
  have m10 := M1.1
  iterate 1 (first | refine hZ _ _ _ _ ⟨rfl, ?_⟩ | refine hZ _ _ _ _ ⟨_, _, (by repeat (first | exact up_s | assumption | refine up_n (by omega) ?_)), adl (by omega), (by rfl), ?_⟩ | refine hZ _ _ _ _ ⟨_, _, (by repeat (first | exact up_s | assumption | refine up_n (by omega) ?_)), adl (by omega), (by first | assumption | exact vp_in_nI (by omega) (by omega)), ?_⟩ | refine hZ _ _ _ _ ⟨_, (by repeat (first | exact up_s | assumption | refine up_n (by omega) ?_)), adl (by omega), (by rfl), trivial, ?_⟩ | refine hZ _ _ _ _ ⟨trivial, ?_⟩ | refine hZ _ _ _ _ ⟨_, _, _, _, (by repeat (first | exact up_s | assumption | refine up_n (by omega) ?_)), (by first | exact Or.inr (Or.inr rfl) | exact Or.inr (Or.inl rfl) | exact Or.inl rfl), adl (by omega), (by first | assumption | exact vp_in_nI (by omega) (by omega)), (by first | exact rowsF_at (by omega) | exact shF_at (by omega)), ?_⟩ | refine hZ _ _ _ _ ?_)
  show Z _ 15 _ _
  refine hZ _ _ _ _ ⟨⟨_, (by repeat (first | exact up_s | assumption | refine up_n (by omega) ?_))⟩, adl (by omega), rfl, ?_⟩
  refine m_settles (x := x) M1 G hX Y hx (fun h2 u y hst J => ?_)
  show Z _ 18 _ _
  obtain ⟨F2, -, -, A2, M2, hX2, h74, hA⟩ := J
  obtain ⟨q1, q2⟩ := odo_eq hst
  have m20 := M2.1
  iterate 1 (first | refine hZ _ _ _ _ ⟨rfl, ?_⟩ | refine hZ _ _ _ _ ⟨_, _, (by repeat (first | exact up_s | assumption | refine up_n (by omega) ?_)), adl (by omega), (by rfl), ?_⟩ | refine hZ _ _ _ _ ⟨_, _, (by repeat (first | exact up_s | assumption | refine up_n (by omega) ?_)), adl (by omega), (by first | assumption | exact vp_in_nI (by omega) (by omega)), ?_⟩ | refine hZ _ _ _ _ ⟨_, (by repeat (first | exact up_s | assumption | refine up_n (by omega) ?_)), adl (by omega), (by rfl), trivial, ?_⟩ | refine hZ _ _ _ _ ⟨trivial, ?_⟩ | refine hZ _ _ _ _ ⟨_, _, _, _, (by repeat (first | exact up_s | assumption | refine up_n (by omega) ?_)), (by first | exact Or.inr (Or.inr rfl) | exact Or.inr (Or.inl rfl) | exact Or.inl rfl), adl (by omega), (by first | assumption | exact vp_in_nI (by omega) (by omega)), (by first | exact rowsF_at (by omega) | exact shF_at (by omega)), ?_⟩ | refine hZ _ _ _ _ ?_)
  show Z _ 19 _ _
  refine hZ _ _ _ _ ⟨⟨_, (by repeat (first | exact up_s | assumption | refine up_n (by omega) ?_))⟩, adl (by omega), rfl, ?_⟩
  refine m_take M2 o2 (fun h3 f3 F3 M3 hf3 => ?_)
  show Z _ 22 _ _
  have m30 := M3.1
  obtain ⟨e65, e66, e68, e69, e80, e81, e62, e63, e64, e73⟩ := eq67 hA
  rw [sm_congr q1, sm_congr (g := fun i => (odo n a w κ x).1 i * w i) (fun i hi => by rw [q1 i hi]), Int32.zero_add, Int32.zero_add] at M3
  have m30 := M3.1
  repeat (first | refine hZ _ _ _ _ ⟨rfl, ?_⟩ | refine hZ _ _ _ _ ⟨_, _, (by repeat (first | exact up_s | assumption | refine up_n (by omega) ?_)), adl (by omega), (by rfl), ?_⟩ | refine hZ _ _ _ _ ⟨_, _, (by repeat (first | exact up_s | assumption | refine up_n (by omega) ?_)), adl (by omega), (by first | assumption | exact vp_in_nI (by omega) (by omega)), ?_⟩ | refine hZ _ _ _ _ ⟨_, (by repeat (first | exact up_s | assumption | refine up_n (by omega) ?_)), adl (by omega), (by rfl), trivial, ?_⟩ | refine hZ _ _ _ _ ⟨trivial, ?_⟩ | refine hZ _ _ _ _ ⟨_, _, _, _, (by repeat (first | exact up_s | assumption | refine up_n (by omega) ?_)), (by first | exact Or.inr (Or.inr rfl) | exact Or.inr (Or.inl rfl) | exact Or.inl rfl), adl (by omega), (by first | assumption | exact vp_in_nI (by omega) (by omega)), (by first | exact rowsF_at (by omega) | exact shF_at (by omega)), ?_⟩ | refine hZ _ _ _ _ ?_)
  refine hp h3 ((F1.tr F2).tr F3) ⟨_, _, _, _, _, _, _, M3, ?_, fun q hq => ?_, fun q hq => ?_, ?_, ?_, ?_⟩
  · exact ((show Mg (updA A 74 f1) n a w κ from G).eq hA : Mg A2 n a w κ)
  · show A2 67 q = _
    rw [hX2 q hq, q2 q hq]
  · rw [updA_s, hf3 q hq, h74 q hq, e68]
    rw [show updA A 74 f1 68 q = tp q from hT q hq, show updA A 74 f1 74 q = 0 from hf1 q (by omega), Int32.zero_add, q1 q hq]
  · intro j hj
    show A2 80 j = _ ∧ A2 81 j = _
    rw [e80, e81]
    exact hR j hj
  · intro j hj
    show A2 62 j = _ ∧ (_ → A2 63 j = _ ∧ ∀ i, i < 60 → A2 64 (60 * j + i) = _)
    rw [e62, e63, e64]
    exact hS j hj
  · intro p hp
    show A2 73 (6 * p) = 0
    rw [e73]
    exact h73 p hp
set_option maxHeartbeats 1000000 in
theorem M_topple {l : Launch} {h : AH} {s : St} {p : Int32} {P : Option Value → AH → Prop} (M : MY h s) (O : Ok s) (hx : ∀ q, q < s.1.1 → s.2.1.1 q < 2 ^ 30) (hp : ∀ h', Fr 61 82 h h' → MY h' (S_topple s p).2 → P (some (.int (S_topple s p).1)) h') : Sem l QX7_topple 82 h [.ref 61, .int p] P := by
  have M0 := M
  obtain ⟨⟨n, a, w, κ⟩, ⟨x, tp, fa, to⟩, ⟨cn, pl, td⟩, ⟨z, m, c⟩, tr, fl⟩ := s
  obtain ⟨at', rp, dF', dT, dS, A, L, M, G, hX, hT, hR, hS, h73⟩ := M
  obtain ⟨o1, o2, o3⟩ := O
  have m0 := M.1
  refine iX7_topple rfl ?_
  intro Z hZ
  unfold S_topple at hp
  dsimp only at hp hx
  iterate 2 (first | refine hZ _ _ _ _ ⟨rfl, ?_⟩ | refine hZ _ _ _ _ ⟨_, _, (by repeat (first | exact up_s | assumption | refine up_n (by omega) ?_)), adl (by omega), (by rfl), ?_⟩ | refine hZ _ _ _ _ ⟨_, _, (by repeat (first | exact up_s | assumption | refine up_n (by omega) ?_)), adl (by omega), (by first | assumption | exact vp_in_nI (by omega) (by omega)), ?_⟩ | refine hZ _ _ _ _ ⟨_, (by repeat (first | exact up_s | assumption | refine up_n (by omega) ?_)), adl (by omega), (by rfl), trivial, ?_⟩ | refine hZ _ _ _ _ ⟨trivial, ?_⟩ | refine hZ _ _ _ _ ⟨_, _, _, _, (by repeat (first | exact up_s | assumption | refine up_n (by omega) ?_)), (by first | exact Or.inr (Or.inr rfl) | exact Or.inr (Or.inl rfl) | exact Or.inl rfl), adl (by omega), (by first | assumption | exact vp_in_nI (by omega) (by omega)), (by first | exact rowsF_at (by omega) | exact shF_at (by omega)), ?_⟩ | refine hZ _ _ _ _ ?_)
  show Z _ 2 _ _
  refine hZ _ _ _ _ ⟨⟨_, (by repeat (first | exact up_s | assumption | refine up_n (by omega) ?_))⟩, adl (by omega), rfl, ?_⟩
  refine m_isPlace M o2 ?_
  show Z _ 5 _ _
  cases hi : inb p n with
  | false =>
    rw [if_pos hi] at hp
    repeat (first | refine hZ _ _ _ _ ⟨rfl, ?_⟩ | refine hZ _ _ _ _ ⟨_, _, (by repeat (first | exact up_s | assumption | refine up_n (by omega) ?_)), adl (by omega), (by rfl), ?_⟩ | refine hZ _ _ _ _ ⟨_, _, (by repeat (first | exact up_s | assumption | refine up_n (by omega) ?_)), adl (by omega), (by first | assumption | exact vp_in_nI (by omega) (by omega)), ?_⟩ | refine hZ _ _ _ _ ⟨_, (by repeat (first | exact up_s | assumption | refine up_n (by omega) ?_)), adl (by omega), (by rfl), trivial, ?_⟩ | refine hZ _ _ _ _ ⟨trivial, ?_⟩ | refine hZ _ _ _ _ ⟨_, _, _, _, (by repeat (first | exact up_s | assumption | refine up_n (by omega) ?_)), (by first | exact Or.inr (Or.inr rfl) | exact Or.inr (Or.inl rfl) | exact Or.inl rfl), adl (by omega), (by first | assumption | exact vp_in_nI (by omega) (by omega)), (by first | exact rowsF_at (by omega) | exact shF_at (by omega)), ?_⟩ | refine hZ _ _ _ _ ?_)
    refine ⟨fun c9 => absurd rfl c9, fun c9 => ?_⟩
    repeat (first | refine hZ _ _ _ _ ⟨rfl, ?_⟩ | refine hZ _ _ _ _ ⟨_, _, (by repeat (first | exact up_s | assumption | refine up_n (by omega) ?_)), adl (by omega), (by rfl), ?_⟩ | refine hZ _ _ _ _ ⟨_, _, (by repeat (first | exact up_s | assumption | refine up_n (by omega) ?_)), adl (by omega), (by first | assumption | exact vp_in_nI (by omega) (by omega)), ?_⟩ | refine hZ _ _ _ _ ⟨_, (by repeat (first | exact up_s | assumption | refine up_n (by omega) ?_)), adl (by omega), (by rfl), trivial, ?_⟩ | refine hZ _ _ _ _ ⟨trivial, ?_⟩ | refine hZ _ _ _ _ ⟨_, _, _, _, (by repeat (first | exact up_s | assumption | refine up_n (by omega) ?_)), (by first | exact Or.inr (Or.inr rfl) | exact Or.inr (Or.inl rfl) | exact Or.inl rfl), adl (by omega), (by first | assumption | exact vp_in_nI (by omega) (by omega)), (by first | exact rowsF_at (by omega) | exact shF_at (by omega)), ?_⟩ | refine hZ _ _ _ _ ?_)
    exact hp h Fr.rf M0
  | true =>
  rw [if_neg (by rw [hi]; decide)] at hp
  obtain ⟨i, hi1, ei, -⟩ := v_nI (inb_iff.mp hi).1 (inb_iff.mp hi).2
  subst ei
  rw [nI_clamp (by omega)] at hp
  have Y : Yw n a w κ := by rcases o1 with z | z; · omega
                            · exact z.2
  have hxi := hx i hi1
  repeat (first | refine hZ _ _ _ _ ⟨rfl, ?_⟩ | refine hZ _ _ _ _ ⟨_, _, (by repeat (first | exact up_s | assumption | refine up_n (by omega) ?_)), adl (by omega), (by rfl), ?_⟩ | refine hZ _ _ _ _ ⟨_, _, (by repeat (first | exact up_s | assumption | refine up_n (by omega) ?_)), adl (by omega), (by first | assumption | exact vp_in_nI (by omega) (by omega)), ?_⟩ | refine hZ _ _ _ _ ⟨_, (by repeat (first | exact up_s | assumption | refine up_n (by omega) ?_)), adl (by omega), (by rfl), trivial, ?_⟩ | refine hZ _ _ _ _ ⟨trivial, ?_⟩ | refine hZ _ _ _ _ ⟨_, _, _, _, (by repeat (first | exact up_s | assumption | refine up_n (by omega) ?_)), (by first | exact Or.inr (Or.inr rfl) | exact Or.inr (Or.inl rfl) | exact Or.inl rfl), adl (by omega), (by first | assumption | exact vp_in_nI (by omega) (by omega)), (by first | exact rowsF_at (by omega) | exact shF_at (by omega)), ?_⟩ | refine hZ _ _ _ _ ?_)
  refine ⟨fun c9 => ?_, fun c9 => absurd c9 (by decide)⟩
  iterate 2 (first | refine hZ _ _ _ _ ⟨rfl, ?_⟩ | refine hZ _ _ _ _ ⟨_, _, (by repeat (first | exact up_s | assumption | refine up_n (by omega) ?_)), adl (by omega), (by rfl), ?_⟩ | refine hZ _ _ _ _ ⟨_, _, (by repeat (first | exact up_s | assumption | refine up_n (by omega) ?_)), adl (by omega), (by first | assumption | exact vp_in_nI (by omega) (by omega)), ?_⟩ | refine hZ _ _ _ _ ⟨_, (by repeat (first | exact up_s | assumption | refine up_n (by omega) ?_)), adl (by omega), (by rfl), trivial, ?_⟩ | refine hZ _ _ _ _ ⟨trivial, ?_⟩ | refine hZ _ _ _ _ ⟨_, _, _, _, (by repeat (first | exact up_s | assumption | refine up_n (by omega) ?_)), (by first | exact Or.inr (Or.inr rfl) | exact Or.inr (Or.inl rfl) | exact Or.inl rfl), adl (by omega), (by first | assumption | exact vp_in_nI (by omega) (by omega)), (by first | exact rowsF_at (by omega) | exact shF_at (by omega)), ?_⟩ | refine hZ _ _ _ _ ?_)
  show Z _ 12 _ _
  refine hZ _ _ _ _ ⟨⟨_, (by repeat (first | exact up_s | assumption | refine up_n (by omega) ?_))⟩, adl (by omega), rfl, ?_⟩
  refine m_can M G hX Y hi1 (by omega) ?_
  show Z _ 15 _ _
  by_cases hc : x i < brf n a w κ i
  · rw [if_pos hc] at hp
    rw [decide_eq_false (by omega)]
    repeat (first | refine hZ _ _ _ _ ⟨rfl, ?_⟩ | refine hZ _ _ _ _ ⟨_, _, (by repeat (first | exact up_s | assumption | refine up_n (by omega) ?_)), adl (by omega), (by rfl), ?_⟩ | refine hZ _ _ _ _ ⟨_, _, (by repeat (first | exact up_s | assumption | refine up_n (by omega) ?_)), adl (by omega), (by first | assumption | exact vp_in_nI (by omega) (by omega)), ?_⟩ | refine hZ _ _ _ _ ⟨_, (by repeat (first | exact up_s | assumption | refine up_n (by omega) ?_)), adl (by omega), (by rfl), trivial, ?_⟩ | refine hZ _ _ _ _ ⟨trivial, ?_⟩ | refine hZ _ _ _ _ ⟨_, _, _, _, (by repeat (first | exact up_s | assumption | refine up_n (by omega) ?_)), (by first | exact Or.inr (Or.inr rfl) | exact Or.inr (Or.inl rfl) | exact Or.inl rfl), adl (by omega), (by first | assumption | exact vp_in_nI (by omega) (by omega)), (by first | exact rowsF_at (by omega) | exact shF_at (by omega)), ?_⟩ | refine hZ _ _ _ _ ?_)
    refine ⟨fun c9 => absurd rfl c9, fun c9 => ?_⟩
    repeat (first | refine hZ _ _ _ _ ⟨rfl, ?_⟩ | refine hZ _ _ _ _ ⟨_, _, (by repeat (first | exact up_s | assumption | refine up_n (by omega) ?_)), adl (by omega), (by rfl), ?_⟩ | refine hZ _ _ _ _ ⟨_, _, (by repeat (first | exact up_s | assumption | refine up_n (by omega) ?_)), adl (by omega), (by first | assumption | exact vp_in_nI (by omega) (by omega)), ?_⟩ | refine hZ _ _ _ _ ⟨_, (by repeat (first | exact up_s | assumption | refine up_n (by omega) ?_)), adl (by omega), (by rfl), trivial, ?_⟩ | refine hZ _ _ _ _ ⟨trivial, ?_⟩ | refine hZ _ _ _ _ ⟨_, _, _, _, (by repeat (first | exact up_s | assumption | refine up_n (by omega) ?_)), (by first | exact Or.inr (Or.inr rfl) | exact Or.inr (Or.inl rfl) | exact Or.inl rfl), adl (by omega), (by first | assumption | exact vp_in_nI (by omega) (by omega)), (by first | exact rowsF_at (by omega) | exact shF_at (by omega)), ?_⟩ | refine hZ _ _ _ _ ?_)
    rw [lbm3]
    exact hp h Fr.rf M0
  · rw [if_neg hc] at hp
    rw [decide_eq_true (by omega)]
    have hdb : dgr n a w i ≤ brf n a w κ i := by
      show _ ≤ bea _ _
      unfold bea
      split
      · omega
      · split <;> omega
    repeat (first | refine hZ _ _ _ _ ⟨rfl, ?_⟩ | refine hZ _ _ _ _ ⟨_, _, (by repeat (first | exact up_s | assumption | refine up_n (by omega) ?_)), adl (by omega), (by rfl), ?_⟩ | refine hZ _ _ _ _ ⟨_, _, (by repeat (first | exact up_s | assumption | refine up_n (by omega) ?_)), adl (by omega), (by first | assumption | exact vp_in_nI (by omega) (by omega)), ?_⟩ | refine hZ _ _ _ _ ⟨_, (by repeat (first | exact up_s | assumption | refine up_n (by omega) ?_)), adl (by omega), (by rfl), trivial, ?_⟩ | refine hZ _ _ _ _ ⟨trivial, ?_⟩ | refine hZ _ _ _ _ ⟨_, _, _, _, (by repeat (first | exact up_s | assumption | refine up_n (by omega) ?_)), (by first | exact Or.inr (Or.inr rfl) | exact Or.inr (Or.inl rfl) | exact Or.inl rfl), adl (by omega), (by first | assumption | exact vp_in_nI (by omega) (by omega)), (by first | exact rowsF_at (by omega) | exact shF_at (by omega)), ?_⟩ | refine hZ _ _ _ _ ?_)
    refine ⟨fun c9 => ?_, fun c9 => absurd c9 (by decide)⟩
    iterate 1 (first | refine hZ _ _ _ _ ⟨rfl, ?_⟩ | refine hZ _ _ _ _ ⟨_, _, (by repeat (first | exact up_s | assumption | refine up_n (by omega) ?_)), adl (by omega), (by rfl), ?_⟩ | refine hZ _ _ _ _ ⟨_, _, (by repeat (first | exact up_s | assumption | refine up_n (by omega) ?_)), adl (by omega), (by first | assumption | exact vp_in_nI (by omega) (by omega)), ?_⟩ | refine hZ _ _ _ _ ⟨_, (by repeat (first | exact up_s | assumption | refine up_n (by omega) ?_)), adl (by omega), (by rfl), trivial, ?_⟩ | refine hZ _ _ _ _ ⟨trivial, ?_⟩ | refine hZ _ _ _ _ ⟨_, _, _, _, (by repeat (first | exact up_s | assumption | refine up_n (by omega) ?_)), (by first | exact Or.inr (Or.inr rfl) | exact Or.inr (Or.inl rfl) | exact Or.inl rfl), adl (by omega), (by first | assumption | exact vp_in_nI (by omega) (by omega)), (by first | exact rowsF_at (by omega) | exact shF_at (by omega)), ?_⟩ | refine hZ _ _ _ _ ?_)
    show Z _ 22 _ _
    refine hZ _ _ _ _ ⟨⟨_, (by repeat (first | exact up_s | assumption | refine up_n (by omega) ?_))⟩, adl (by omega), rfl, ?_⟩
    refine m_start M (fun h1 f1 F1 M1 hf1 => ?_)
    show Z _ 25 _ _
    have m10 := M1.1
    iterate 2 (first | refine hZ _ _ _ _ ⟨rfl, ?_⟩ | refine hZ _ _ _ _ ⟨_, _, (by repeat (first | exact up_s | assumption | refine up_n (by omega) ?_)), adl (by omega), (by rfl), ?_⟩ | refine hZ _ _ _ _ ⟨_, _, (by repeat (first | exact up_s | assumption | refine up_n (by omega) ?_)), adl (by omega), (by first | assumption | exact vp_in_nI (by omega) (by omega)), ?_⟩ | refine hZ _ _ _ _ ⟨_, (by repeat (first | exact up_s | assumption | refine up_n (by omega) ?_)), adl (by omega), (by rfl), trivial, ?_⟩ | refine hZ _ _ _ _ ⟨trivial, ?_⟩ | refine hZ _ _ _ _ ⟨_, _, _, _, (by repeat (first | exact up_s | assumption | refine up_n (by omega) ?_)), (by first | exact Or.inr (Or.inr rfl) | exact Or.inr (Or.inl rfl) | exact Or.inl rfl), adl (by omega), (by first | assumption | exact vp_in_nI (by omega) (by omega)), (by first | exact rowsF_at (by omega) | exact shF_at (by omega)), ?_⟩ | refine hZ _ _ _ _ ?_)
    show Z _ 27 _ _
    refine hZ _ _ _ _ ⟨⟨_, (by repeat (first | exact up_s | assumption | refine up_n (by omega) ?_))⟩, adl (by omega), rfl, ?_⟩
    refine m_topples (y := x) M1 G hX o2 hi1 (Y.2.2.1 i hi1) (by omega) (fun h2 f2 F2 M2 hf2 => ?_)
    show Z _ 30 _ _
    have m20 := M2.1
    iterate 1 (first | refine hZ _ _ _ _ ⟨rfl, ?_⟩ | refine hZ _ _ _ _ ⟨_, _, (by repeat (first | exact up_s | assumption | refine up_n (by omega) ?_)), adl (by omega), (by rfl), ?_⟩ | refine hZ _ _ _ _ ⟨_, _, (by repeat (first | exact up_s | assumption | refine up_n (by omega) ?_)), adl (by omega), (by first | assumption | exact vp_in_nI (by omega) (by omega)), ?_⟩ | refine hZ _ _ _ _ ⟨_, (by repeat (first | exact up_s | assumption | refine up_n (by omega) ?_)), adl (by omega), (by rfl), trivial, ?_⟩ | refine hZ _ _ _ _ ⟨trivial, ?_⟩ | refine hZ _ _ _ _ ⟨_, _, _, _, (by repeat (first | exact up_s | assumption | refine up_n (by omega) ?_)), (by first | exact Or.inr (Or.inr rfl) | exact Or.inr (Or.inl rfl) | exact Or.inl rfl), adl (by omega), (by first | assumption | exact vp_in_nI (by omega) (by omega)), (by first | exact rowsF_at (by omega) | exact shF_at (by omega)), ?_⟩ | refine hZ _ _ _ _ ?_)
    show Z _ 31 _ _
    refine hZ _ _ _ _ ⟨⟨_, (by repeat (first | exact up_s | assumption | refine up_n (by omega) ?_))⟩, adl (by omega), rfl, ?_⟩
    refine m_take M2 o2 (fun h3 f3 F3 M3 hf3 => ?_)
    show Z _ 34 _ _
    rw [Int32.zero_add, Int32.zero_add] at M3
    have m30 := M3.1
    have m366 : h3 66 = .inl (0, 5, .inl (A 66)) := M3.at (j := 66) (m := 5) (by omega) (by omega) (by omega) rfl
    repeat (first | refine hZ _ _ _ _ ⟨rfl, ?_⟩ | refine hZ _ _ _ _ ⟨_, _, (by repeat (first | exact up_s | assumption | refine up_n (by omega) ?_)), adl (by omega), (by rfl), ?_⟩ | refine hZ _ _ _ _ ⟨_, _, (by repeat (first | exact up_s | assumption | refine up_n (by omega) ?_)), adl (by omega), (by first | assumption | exact vp_in_nI (by omega) (by omega)), ?_⟩ | refine hZ _ _ _ _ ⟨_, (by repeat (first | exact up_s | assumption | refine up_n (by omega) ?_)), adl (by omega), (by rfl), trivial, ?_⟩ | refine hZ _ _ _ _ ⟨trivial, ?_⟩ | refine hZ _ _ _ _ ⟨_, _, _, _, (by repeat (first | exact up_s | assumption | refine up_n (by omega) ?_)), (by first | exact Or.inr (Or.inr rfl) | exact Or.inr (Or.inl rfl) | exact Or.inl rfl), adl (by omega), (by first | assumption | exact vp_in_nI (by omega) (by omega)), (by first | exact rowsF_at (by omega) | exact shF_at (by omega)), ?_⟩ | refine hZ _ _ _ _ ?_)
    rw [nI_clamp (by omega), G.2.1 i hi1]
    refine hp h3 ((F1.tr F2).tr F3) ⟨_, _, _, _, _, _, _, M3, G, hf2, fun q hq => ?_, hR, hS, h73⟩
    rw [updA_s, hf3 q hq]
    show A 68 q + upd f1 i (f1 i + nI 1) q = _
    rw [hT q hq, hf1 i (by omega), Int32.zero_add]
    by_cases e9 : q = i
    · rw [upd_s e9, upd_s e9, e9]
    · rw [pk_un e9, pk_un e9, hf1 q (by omega), Int32.add_zero]
