/-! ===== Equations ===== -/
def EqO (N : Nat) (h : AH) (e : Nat) (pl : Int32) (Rw : Nat → Nat → Int64) (an : Nat → Int64) : Prop :=
  e + 7 < N ∧ h e = .inr (0, [.ref (e + 1), .ref (e + 7), .int pl]) ∧ h (e + 1) = .inl (4, 5, .inr (.inr (.inr (.inr (rowsF (e + 2)))))) ∧ (∀ i, i < 5 → h (e + 2 + i) = .inl (1, 6, .inr (.inl (Rw i)))) ∧ h (e + 7) = .inl (1, 5, .inr (.inl an))
theorem EqO.fr {N : Nat} {h h' : AH} {e lo hi : Nat} {pl : Int32} {Rw : Nat → Nat → Int64} {an : Nat → Int64} (G : EqO N h e pl Rw an) (f : Fr lo hi h h') (hd : e + 8 ≤ lo ∨ hi ≤ e) : EqO N h' e pl Rw an := by
  obtain ⟨a0, a1, a2, a3, a4⟩ := G
  exact ⟨a0, (f _ (by omega)).trans a1, (f _ (by omega)).trans a2, fun i hi => (f _ (by omega)).trans (a3 i hi), (f _ (by omega)).trans a4⟩
def up2 (Rw : Nat → Nat → Int64) (p q : Nat) (x : Int64) : Nat → Nat → Int64 := fun i j => if i = p ∧ j = q then x else Rw i j
theorem EqO.put {N : Nat} {h : AH} {e p q : Nat} {pl : Int32} {Rw : Nat → Nat → Int64} {an : Nat → Int64} {x : Int64} (G : EqO N h e pl Rw an) (hp : p < 5) : EqO N (va_up h (e + 2 + p) (.inl (1, 6, .inr (.inl (vp_updL (Rw p) q x))))) e pl (up2 Rw p q x) an := by
  obtain ⟨a0, a1, a2, a3, a4⟩ := G
  refine ⟨a0, up_n (by omega) a1, up_n (by omega) a2, fun i hi => ?_, up_n (by omega) a4⟩
  by_cases e1 : i = p
  · subst e1
    rw [up_s]
    have : vp_updL (Rw i) q x = up2 Rw i q x i := funext (fun j => by
      show (if j = q then x else Rw i j) = if i = i ∧ j = q then x else Rw i j
      by_cases e2 : j = q
      · rw [if_pos e2, if_pos ⟨rfl, e2⟩]
      · rw [if_neg e2, if_neg (fun z => e2 z.2)])
    rw [this]
  · rw [up_n (by omega) (a3 i hi)]
    have : Rw i = up2 Rw p q x i := funext (fun j => (if_neg (fun z => e1 z.1)).symm)
    rw [← this]
theorem up2_s {Rw : Nat → Nat → Int64} {p q i j : Nat} {x : Int64} (h1 : i = p) (h2 : j = q) : up2 Rw p q x i j = x := if_pos ⟨h1, h2⟩
theorem up2_n {Rw : Nat → Nat → Int64} {p q i j : Nat} {x : Int64} (h : ¬ (i = p ∧ j = q)) : up2 Rw p q x i j = Rw i j := if_neg h
set_option maxHeartbeats 2000000 in
theorem c_Eq_layOut {l : Launch} {N : Nat} {h : AH} {g e n : Nat} {pl : Int32} {Rw : Nat → Nat → Int64} {an : Nat → Int64} {B : Nat → Nat → Int32} {pit kind deg brs : Nat → Int32} {a : Nat → Nat → Nat} {w κ : Nat → Nat} {P : Option Value → AH → Prop} (E : EqO N h e pl Rw an) (G : Gd N h g (nI n) B pit kind deg brs) (V : Gv n a w κ B pit kind deg brs) (Y : Yw n a w κ) (hd : e + 8 ≤ g ∨ g + 11 ≤ e)
    (hp : ∀ h' Rw', EqO N h' e (nI n) Rw' an → (∀ p q, p < n → q < n → Rw' p q = lI (sqr n a w p q)) → (∀ p, p < n → Rw' p n = lI 0) → Fr e (e + 8) h h' → P none h') : Sem l QX0_layOut N h [.ref e, .ref g] P := by
  have hn := Y.1
  obtain ⟨vB, vP, vK, vD, vR⟩ := V
  refine iX0_layOut rfl ?_
  intro Z hZ
  have outer : ∀ i p h1 Rw1 o3, p + i = n → EqO N h1 e (nI n) Rw1 an → (∀ p' q, p' < p → q < n → Rw1 p' q = lI (sqr n a w p' q)) → (∀ p', p' < p → Rw1 p' n = lI 0) → Fr e (e + 8) h h1 → Z h1 10 [some (.ref e), some (.ref g), some (.int (nI p)), o3] [] := by
    intro i
    induction i with
    | zero =>
      intro p h1 Rw1 o3 hpi E1 hr hc F
      have E10 := E1
      obtain ⟨eN, e0, e1, e2, e3⟩ := E1
      repeat (first | refine hZ _ _ _ _ ⟨rfl, ?_⟩ | refine hZ _ _ _ _ ⟨_, _, (by repeat (first | exact up_s | assumption | refine up_n (by omega) ?_)), adl (by omega), (by rfl), ?_⟩ | refine hZ _ _ _ _ ⟨_, _, (by repeat (first | exact up_s | assumption | refine up_n (by omega) ?_)), adl (by omega), (by first | assumption | exact vp_in_nI (by omega) (by omega)), ?_⟩ | refine hZ _ _ _ _ ⟨_, (by repeat (first | exact up_s | assumption | refine up_n (by omega) ?_)), adl (by omega), (by rfl), trivial, ?_⟩ | refine hZ _ _ _ _ ⟨trivial, ?_⟩ | refine hZ _ _ _ _ ⟨_, _, _, _, (by repeat (first | exact up_s | assumption | refine up_n (by omega) ?_)), (by first | exact Or.inr (Or.inr rfl) | exact Or.inr (Or.inl rfl) | exact Or.inl rfl), adl (by omega), (by first | assumption | exact vp_in_nI (by omega) (by omega)), rowsF_at (by omega), ?_⟩ | refine hZ _ _ _ _ ?_)
      refine ⟨fun c => ?_, fun c => absurd (nI_le (by omega) (by omega)) c⟩
      repeat (first | refine hZ _ _ _ _ ⟨rfl, ?_⟩ | refine hZ _ _ _ _ ⟨_, _, (by repeat (first | exact up_s | assumption | refine up_n (by omega) ?_)), adl (by omega), (by rfl), ?_⟩ | refine hZ _ _ _ _ ⟨_, _, (by repeat (first | exact up_s | assumption | refine up_n (by omega) ?_)), adl (by omega), (by first | assumption | exact vp_in_nI (by omega) (by omega)), ?_⟩ | refine hZ _ _ _ _ ⟨_, (by repeat (first | exact up_s | assumption | refine up_n (by omega) ?_)), adl (by omega), (by rfl), trivial, ?_⟩ | refine hZ _ _ _ _ ⟨trivial, ?_⟩ | refine hZ _ _ _ _ ⟨_, _, _, _, (by repeat (first | exact up_s | assumption | refine up_n (by omega) ?_)), (by first | exact Or.inr (Or.inr rfl) | exact Or.inr (Or.inl rfl) | exact Or.inl rfl), adl (by omega), (by first | assumption | exact vp_in_nI (by omega) (by omega)), rowsF_at (by omega), ?_⟩ | refine hZ _ _ _ _ ?_)
      exact hp h1 Rw1 E10 (fun p' q h1 h2 => hr p' q (by omega) h2) (fun p' h1 => hc p' (by omega)) F
    | succ i ih =>
      intro p h1 Rw1 o3 hpi E1 hr hc F
      have hpn : p < n := by omega
      have inner : ∀ j q h2 Rw2, q + j = n → EqO N h2 e (nI n) Rw2 an → (∀ p' q', p' < p → q' < n → Rw2 p' q' = lI (sqr n a w p' q')) → (∀ p', p' < p → Rw2 p' n = lI 0) → (∀ q', q' < q → Rw2 p q' = lI (sqr n a w p q')) → Fr e (e + 8) h h2 → Z h2 20 [some (.ref e), some (.ref g), some (.int (nI p)), some (.int (nI q))] [] := by
        intro j
        induction j with
        | zero =>
          intro q h2 Rw2 hqj E2 hr hc hrow F
          have E20 := E2
          obtain ⟨eN, e0, e1, e2, e3⟩ := E2
          have rp := e2 p (by omega)
          repeat (first | refine hZ _ _ _ _ ⟨rfl, ?_⟩ | refine hZ _ _ _ _ ⟨_, _, (by repeat (first | exact up_s | assumption | refine up_n (by omega) ?_)), adl (by omega), (by rfl), ?_⟩ | refine hZ _ _ _ _ ⟨_, _, (by repeat (first | exact up_s | assumption | refine up_n (by omega) ?_)), adl (by omega), (by first | assumption | exact vp_in_nI (by omega) (by omega)), ?_⟩ | refine hZ _ _ _ _ ⟨_, (by repeat (first | exact up_s | assumption | refine up_n (by omega) ?_)), adl (by omega), (by rfl), trivial, ?_⟩ | refine hZ _ _ _ _ ⟨trivial, ?_⟩ | refine hZ _ _ _ _ ⟨_, _, _, _, (by repeat (first | exact up_s | assumption | refine up_n (by omega) ?_)), (by first | exact Or.inr (Or.inr rfl) | exact Or.inr (Or.inl rfl) | exact Or.inl rfl), adl (by omega), (by first | assumption | exact vp_in_nI (by omega) (by omega)), rowsF_at (by omega), ?_⟩ | refine hZ _ _ _ _ ?_)
          refine ⟨fun c => ?_, fun c => absurd (nI_le (by omega) (by omega)) c⟩
          iterate 10 (first | refine hZ _ _ _ _ ⟨rfl, ?_⟩ | refine hZ _ _ _ _ ⟨_, _, (by repeat (first | exact up_s | assumption | refine up_n (by omega) ?_)), adl (by omega), (by rfl), ?_⟩ | refine hZ _ _ _ _ ⟨_, _, (by repeat (first | exact up_s | assumption | refine up_n (by omega) ?_)), adl (by omega), (by first | assumption | exact vp_in_nI (by omega) (by omega)), ?_⟩ | refine hZ _ _ _ _ ⟨_, (by repeat (first | exact up_s | assumption | refine up_n (by omega) ?_)), adl (by omega), (by rfl), trivial, ?_⟩ | refine hZ _ _ _ _ ⟨trivial, ?_⟩ | refine hZ _ _ _ _ ⟨_, _, _, _, (by repeat (first | exact up_s | assumption | refine up_n (by omega) ?_)), (by first | exact Or.inr (Or.inr rfl) | exact Or.inr (Or.inl rfl) | exact Or.inl rfl), adl (by omega), (by first | assumption | exact vp_in_nI (by omega) (by omega)), rowsF_at (by omega), ?_⟩ | refine hZ _ _ _ _ ?_)
          show Z _ 10 _ _
          rw [nI_inc, nI_clamp (by omega), lI_0]
          refine ih (p + 1) _ _ _ (by omega) (E20.put (by omega)) (fun p' q' h1 h2 => ?_) (fun p' h1 => ?_) (F.up (by omega) (by omega))
          · rw [up2_n (by omega)]
            by_cases z : p' = p
            · rw [z]; exact hrow q' (by omega)
            · exact hr p' q' (by omega) h2
          · by_cases z : p' = p
            · exact up2_s z rfl
            · rw [up2_n (by omega)]; exact hc p' (by omega)
        | succ j ihj =>
          intro q h2 Rw2 hqj E2 hr hc hrow F
          have hqn : q < n := by omega
          have E20 := E2
          obtain ⟨eN, e0, e1, e2, e3⟩ := E2
          have rp := e2 p (by omega)
          obtain ⟨gN, r0, r1, r2, r3, r4, r5, r6⟩ := G.fr F (by omega)
          have gp := r2 p (by omega)
          have fin : ∀ x, x = lI (sqr n a w p q) → Z h2 60 [some (.ref e), some (.ref g), some (.int (nI p)), some (.int (nI q))] [.long x, .int (nI q), .ref (e + 2 + p)] := by
            intro x hx
            subst hx
            iterate 3 (first | refine hZ _ _ _ _ ⟨rfl, ?_⟩ | refine hZ _ _ _ _ ⟨_, _, (by repeat (first | exact up_s | assumption | refine up_n (by omega) ?_)), adl (by omega), (by rfl), ?_⟩ | refine hZ _ _ _ _ ⟨_, _, (by repeat (first | exact up_s | assumption | refine up_n (by omega) ?_)), adl (by omega), (by first | assumption | exact vp_in_nI (by omega) (by omega)), ?_⟩ | refine hZ _ _ _ _ ⟨_, (by repeat (first | exact up_s | assumption | refine up_n (by omega) ?_)), adl (by omega), (by rfl), trivial, ?_⟩ | refine hZ _ _ _ _ ⟨trivial, ?_⟩ | refine hZ _ _ _ _ ⟨_, _, _, _, (by repeat (first | exact up_s | assumption | refine up_n (by omega) ?_)), (by first | exact Or.inr (Or.inr rfl) | exact Or.inr (Or.inl rfl) | exact Or.inl rfl), adl (by omega), (by first | assumption | exact vp_in_nI (by omega) (by omega)), rowsF_at (by omega), ?_⟩ | refine hZ _ _ _ _ ?_)
            show Z _ 20 _ _
            rw [nI_inc, nI_clamp (by omega)]
            refine ihj (q + 1) _ _ (by omega) (E20.put (by omega)) (fun p' q' h1 h2 => ?_) (fun p' h1 => ?_) (fun q' h1 => ?_) (F.up (by omega) (by omega))
            · rw [up2_n (by omega)]; exact hr p' q' h1 h2
            · rw [up2_n (by omega)]; exact hc p' h1
            · by_cases z : q' = q
              · rw [up2_s rfl z, z]
              · rw [up2_n (fun y => z y.2)]; exact hrow q' (by omega)
          repeat (first | refine hZ _ _ _ _ ⟨rfl, ?_⟩ | refine hZ _ _ _ _ ⟨_, _, (by repeat (first | exact up_s | assumption | refine up_n (by omega) ?_)), adl (by omega), (by rfl), ?_⟩ | refine hZ _ _ _ _ ⟨_, _, (by repeat (first | exact up_s | assumption | refine up_n (by omega) ?_)), adl (by omega), (by first | assumption | exact vp_in_nI (by omega) (by omega)), ?_⟩ | refine hZ _ _ _ _ ⟨_, (by repeat (first | exact up_s | assumption | refine up_n (by omega) ?_)), adl (by omega), (by rfl), trivial, ?_⟩ | refine hZ _ _ _ _ ⟨trivial, ?_⟩ | refine hZ _ _ _ _ ⟨_, _, _, _, (by repeat (first | exact up_s | assumption | refine up_n (by omega) ?_)), (by first | exact Or.inr (Or.inr rfl) | exact Or.inr (Or.inl rfl) | exact Or.inl rfl), adl (by omega), (by first | assumption | exact vp_in_nI (by omega) (by omega)), rowsF_at (by omega), ?_⟩ | refine hZ _ _ _ _ ?_)
          refine ⟨fun c => absurd c (nI_ge (by omega) (by omega)), fun c => ?_⟩
          repeat (first | refine hZ _ _ _ _ ⟨rfl, ?_⟩ | refine hZ _ _ _ _ ⟨_, _, (by repeat (first | exact up_s | assumption | refine up_n (by omega) ?_)), adl (by omega), (by rfl), ?_⟩ | refine hZ _ _ _ _ ⟨_, _, (by repeat (first | exact up_s | assumption | refine up_n (by omega) ?_)), adl (by omega), (by first | assumption | exact vp_in_nI (by omega) (by omega)), ?_⟩ | refine hZ _ _ _ _ ⟨_, (by repeat (first | exact up_s | assumption | refine up_n (by omega) ?_)), adl (by omega), (by rfl), trivial, ?_⟩ | refine hZ _ _ _ _ ⟨trivial, ?_⟩ | refine hZ _ _ _ _ ⟨_, _, _, _, (by repeat (first | exact up_s | assumption | refine up_n (by omega) ?_)), (by first | exact Or.inr (Or.inr rfl) | exact Or.inr (Or.inl rfl) | exact Or.inl rfl), adl (by omega), (by first | assumption | exact vp_in_nI (by omega) (by omega)), rowsF_at (by omega), ?_⟩ | refine hZ _ _ _ _ ?_)
          refine ⟨fun c => ?_, fun c => ?_⟩
          · have hne : p ≠ q := fun z => c (by rw [z])
            have ha := Y.2.2.2.1 p q hpn hqn
            iterate 8 (first | refine hZ _ _ _ _ ⟨rfl, ?_⟩ | refine hZ _ _ _ _ ⟨_, _, (by repeat (first | exact up_s | assumption | refine up_n (by omega) ?_)), adl (by omega), (by rfl), ?_⟩ | refine hZ _ _ _ _ ⟨_, _, (by repeat (first | exact up_s | assumption | refine up_n (by omega) ?_)), adl (by omega), (by first | assumption | exact vp_in_nI (by omega) (by omega)), ?_⟩ | refine hZ _ _ _ _ ⟨_, (by repeat (first | exact up_s | assumption | refine up_n (by omega) ?_)), adl (by omega), (by rfl), trivial, ?_⟩ | refine hZ _ _ _ _ ⟨trivial, ?_⟩ | refine hZ _ _ _ _ ⟨_, _, _, _, (by repeat (first | exact up_s | assumption | refine up_n (by omega) ?_)), (by first | exact Or.inr (Or.inr rfl) | exact Or.inr (Or.inl rfl) | exact Or.inl rfl), adl (by omega), (by first | assumption | exact vp_in_nI (by omega) (by omega)), rowsF_at (by omega), ?_⟩ | refine hZ _ _ _ _ ?_)
            show Z _ 60 _ _
            rw [nI_clamp (by omega), vB p q hpn hqn, i2l_neg _ (by omega)]
            exact fin _ (by unfold sqr; rw [if_neg hne])
          · have hpq : p = q := (nI_eq (by omega) (by omega)).mp c
            have hdl := dgr_le Y hpn
            iterate 6 (first | refine hZ _ _ _ _ ⟨rfl, ?_⟩ | refine hZ _ _ _ _ ⟨_, _, (by repeat (first | exact up_s | assumption | refine up_n (by omega) ?_)), adl (by omega), (by rfl), ?_⟩ | refine hZ _ _ _ _ ⟨_, _, (by repeat (first | exact up_s | assumption | refine up_n (by omega) ?_)), adl (by omega), (by first | assumption | exact vp_in_nI (by omega) (by omega)), ?_⟩ | refine hZ _ _ _ _ ⟨_, (by repeat (first | exact up_s | assumption | refine up_n (by omega) ?_)), adl (by omega), (by rfl), trivial, ?_⟩ | refine hZ _ _ _ _ ⟨trivial, ?_⟩ | refine hZ _ _ _ _ ⟨_, _, _, _, (by repeat (first | exact up_s | assumption | refine up_n (by omega) ?_)), (by first | exact Or.inr (Or.inr rfl) | exact Or.inr (Or.inl rfl) | exact Or.inl rfl), adl (by omega), (by first | assumption | exact vp_in_nI (by omega) (by omega)), rowsF_at (by omega), ?_⟩ | refine hZ _ _ _ _ ?_)
            show Z _ 60 _ _
            rw [nI_clamp (by omega), vD p hpn, i2l_n _ (by omega)]
            exact fin _ (by unfold sqr; rw [if_pos hpq])
      have E10 := E1
      obtain ⟨eN, e0, e1, e2, e3⟩ := E1
      repeat (first | refine hZ _ _ _ _ ⟨rfl, ?_⟩ | refine hZ _ _ _ _ ⟨_, _, (by repeat (first | exact up_s | assumption | refine up_n (by omega) ?_)), adl (by omega), (by rfl), ?_⟩ | refine hZ _ _ _ _ ⟨_, _, (by repeat (first | exact up_s | assumption | refine up_n (by omega) ?_)), adl (by omega), (by first | assumption | exact vp_in_nI (by omega) (by omega)), ?_⟩ | refine hZ _ _ _ _ ⟨_, (by repeat (first | exact up_s | assumption | refine up_n (by omega) ?_)), adl (by omega), (by rfl), trivial, ?_⟩ | refine hZ _ _ _ _ ⟨trivial, ?_⟩ | refine hZ _ _ _ _ ⟨_, _, _, _, (by repeat (first | exact up_s | assumption | refine up_n (by omega) ?_)), (by first | exact Or.inr (Or.inr rfl) | exact Or.inr (Or.inl rfl) | exact Or.inl rfl), adl (by omega), (by first | assumption | exact vp_in_nI (by omega) (by omega)), rowsF_at (by omega), ?_⟩ | refine hZ _ _ _ _ ?_)
      refine ⟨fun c => absurd c (nI_ge (by omega) (by omega)), fun c => ?_⟩
      iterate 2 (first | refine hZ _ _ _ _ ⟨rfl, ?_⟩ | refine hZ _ _ _ _ ⟨_, _, (by repeat (first | exact up_s | assumption | refine up_n (by omega) ?_)), adl (by omega), (by rfl), ?_⟩ | refine hZ _ _ _ _ ⟨_, _, (by repeat (first | exact up_s | assumption | refine up_n (by omega) ?_)), adl (by omega), (by first | assumption | exact vp_in_nI (by omega) (by omega)), ?_⟩ | refine hZ _ _ _ _ ⟨_, (by repeat (first | exact up_s | assumption | refine up_n (by omega) ?_)), adl (by omega), (by rfl), trivial, ?_⟩ | refine hZ _ _ _ _ ⟨trivial, ?_⟩ | refine hZ _ _ _ _ ⟨_, _, _, _, (by repeat (first | exact up_s | assumption | refine up_n (by omega) ?_)), (by first | exact Or.inr (Or.inr rfl) | exact Or.inr (Or.inl rfl) | exact Or.inl rfl), adl (by omega), (by first | assumption | exact vp_in_nI (by omega) (by omega)), rowsF_at (by omega), ?_⟩ | refine hZ _ _ _ _ ?_)
      show Z _ 20 _ _
      exact inner n 0 h1 Rw1 (by omega) E10 hr hc (fun q' h => absurd h (Nat.not_lt_zero q')) F
  obtain ⟨eN, e0, e1, e2, e3⟩ := E
  obtain ⟨gN, r0, r1, r2, r3, r4, r5, r6⟩ := G
  iterate 6 (first | refine hZ _ _ _ _ ⟨rfl, ?_⟩ | refine hZ _ _ _ _ ⟨_, _, (by repeat (first | exact up_s | assumption | refine up_n (by omega) ?_)), adl (by omega), (by rfl), ?_⟩ | refine hZ _ _ _ _ ⟨_, _, (by repeat (first | exact up_s | assumption | refine up_n (by omega) ?_)), adl (by omega), (by first | assumption | exact vp_in_nI (by omega) (by omega)), ?_⟩ | refine hZ _ _ _ _ ⟨_, (by repeat (first | exact up_s | assumption | refine up_n (by omega) ?_)), adl (by omega), (by rfl), trivial, ?_⟩ | refine hZ _ _ _ _ ⟨trivial, ?_⟩ | refine hZ _ _ _ _ ⟨_, _, _, _, (by repeat (first | exact up_s | assumption | refine up_n (by omega) ?_)), (by first | exact Or.inr (Or.inr rfl) | exact Or.inr (Or.inl rfl) | exact Or.inl rfl), adl (by omega), (by first | assumption | exact vp_in_nI (by omega) (by omega)), rowsF_at (by omega), ?_⟩ | refine hZ _ _ _ _ ?_)
  show Z _ 10 _ _
  exact outer n 0 _ Rw _ (by omega) ⟨eN, (by repeat (first | exact up_s | assumption | refine up_n (by omega) ?_)), (by repeat (first | exact up_s | assumption | refine up_n (by omega) ?_)), fun i hi => up_n (by omega) (e2 i hi), (by repeat (first | exact up_s | assumption | refine up_n (by omega) ?_))⟩ (fun p' q h => absurd h (Nat.not_lt_zero p')) (fun p' h => absurd h (Nat.not_lt_zero p')) (Fr.rf.up (by omega) (by omega))
theorem c_Eq_wantLoss {l : Launch} {N : Nat} {h : AH} {e n p : Nat} {x : Int32} {Rw : Nat → Nat → Int64} {an : Nat → Int64} {P : Option Value → AH → Prop} (E : EqO N h e (nI n) Rw an) (hn : n ≤ 5) (hpn : p < 5)
    (hp : ∀ h', EqO N h' e (nI n) (up2 Rw p n (lI x.toInt)) an → Fr e (e + 8) h h' → P none h') : Sem l QX0_wantLoss N h [.ref e, .int (nI p), .int x] P := by
  have E0 := E
  obtain ⟨eN, e0, e1, e2, e3⟩ := E
  have rp := e2 p hpn
  refine iX0_wantLoss rfl ?_
  intro Z hZ
  repeat (first | refine hZ _ _ _ _ ⟨rfl, ?_⟩ | refine hZ _ _ _ _ ⟨_, _, (by repeat (first | exact up_s | assumption | refine up_n (by omega) ?_)), adl (by omega), (by rfl), ?_⟩ | refine hZ _ _ _ _ ⟨_, _, (by repeat (first | exact up_s | assumption | refine up_n (by omega) ?_)), adl (by omega), (by first | assumption | exact vp_in_nI (by omega) (by omega)), ?_⟩ | refine hZ _ _ _ _ ⟨_, (by repeat (first | exact up_s | assumption | refine up_n (by omega) ?_)), adl (by omega), (by rfl), trivial, ?_⟩ | refine hZ _ _ _ _ ⟨trivial, ?_⟩ | refine hZ _ _ _ _ ⟨_, _, _, _, (by repeat (first | exact up_s | assumption | refine up_n (by omega) ?_)), (by first | exact Or.inr (Or.inr rfl) | exact Or.inr (Or.inl rfl) | exact Or.inl rfl), adl (by omega), (by first | assumption | exact vp_in_nI (by omega) (by omega)), rowsF_at (by omega), ?_⟩ | refine hZ _ _ _ _ ?_)
  rw [nI_clamp (by omega), i2l_lI]
  exact hp _ (E0.put hpn) (Fr.rf.up (by omega) (by omega))
theorem c_Eq_det {l : Launch} {N : Nat} {h : AH} {e n : Nat} {Rw : Nat → Nat → Int64} {an : Nat → Int64} {P : Option Value → AH → Prop} (E : EqO N h e (nI n) Rw an) (hn : n ≤ 5) (h1 : 1 ≤ n)
    (hp : P (some (.long (Rw (n - 1) (n - 1)))) h) : Sem l QX0_determinant N h [.ref e] P := by
  obtain ⟨eN, e0, e1, e2, e3⟩ := E
  have rp := e2 (n - 1) (by omega)
  refine iX0_determinant rfl ?_
  intro Z hZ
  repeat (first | refine hZ _ _ _ _ ⟨rfl, ?_⟩ | refine hZ _ _ _ _ ⟨_, _, (by repeat (first | exact up_s | assumption | refine up_n (by omega) ?_)), adl (by omega), (by rfl), ?_⟩ | refine hZ _ _ _ _ ⟨_, _, (by repeat (first | exact up_s | assumption | refine up_n (by omega) ?_)), adl (by omega), (by first | assumption | exact vp_in_nI (by omega) (by omega)), ?_⟩ | refine hZ _ _ _ _ ⟨_, (by repeat (first | exact up_s | assumption | refine up_n (by omega) ?_)), adl (by omega), (by rfl), trivial, ?_⟩ | refine hZ _ _ _ _ ⟨trivial, ?_⟩ | refine hZ _ _ _ _ ⟨_, _, _, _, (by repeat (first | exact up_s | assumption | refine up_n (by omega) ?_)), (by first | exact Or.inr (Or.inr rfl) | exact Or.inr (Or.inl rfl) | exact Or.inl rfl), adl (by omega), (by first | assumption | exact vp_in_nI (by omega) (by omega)), rowsF_at (by omega), ?_⟩ | refine hZ _ _ _ _ ?_)
  refine ⟨fun c => absurd c (nI_nle (by omega) (by omega)), fun c => ?_⟩
  iterate 6 (first | refine hZ _ _ _ _ ⟨rfl, ?_⟩ | refine hZ _ _ _ _ ⟨_, _, (by repeat (first | exact up_s | assumption | refine up_n (by omega) ?_)), adl (by omega), (by rfl), ?_⟩ | refine hZ _ _ _ _ ⟨_, _, (by repeat (first | exact up_s | assumption | refine up_n (by omega) ?_)), adl (by omega), (by first | assumption | exact vp_in_nI (by omega) (by omega)), ?_⟩ | refine hZ _ _ _ _ ⟨_, (by repeat (first | exact up_s | assumption | refine up_n (by omega) ?_)), adl (by omega), (by rfl), trivial, ?_⟩ | refine hZ _ _ _ _ ⟨trivial, ?_⟩ | refine hZ _ _ _ _ ⟨_, _, _, _, (by repeat (first | exact up_s | assumption | refine up_n (by omega) ?_)), (by first | exact Or.inr (Or.inr rfl) | exact Or.inr (Or.inl rfl) | exact Or.inl rfl), adl (by omega), (by first | assumption | exact vp_in_nI (by omega) (by omega)), rowsF_at (by omega), ?_⟩ | refine hZ _ _ _ _ ?_)
  show Z _ 17 _ _
  rw [lit_1, pk_sub h1]
  iterate 5 (first | refine hZ _ _ _ _ ⟨rfl, ?_⟩ | refine hZ _ _ _ _ ⟨_, _, (by repeat (first | exact up_s | assumption | refine up_n (by omega) ?_)), adl (by omega), (by rfl), ?_⟩ | refine hZ _ _ _ _ ⟨_, _, (by repeat (first | exact up_s | assumption | refine up_n (by omega) ?_)), adl (by omega), (by first | assumption | exact vp_in_nI (by omega) (by omega)), ?_⟩ | refine hZ _ _ _ _ ⟨_, (by repeat (first | exact up_s | assumption | refine up_n (by omega) ?_)), adl (by omega), (by rfl), trivial, ?_⟩ | refine hZ _ _ _ _ ⟨trivial, ?_⟩ | refine hZ _ _ _ _ ⟨_, _, _, _, (by repeat (first | exact up_s | assumption | refine up_n (by omega) ?_)), (by first | exact Or.inr (Or.inr rfl) | exact Or.inr (Or.inl rfl) | exact Or.inl rfl), adl (by omega), (by first | assumption | exact vp_in_nI (by omega) (by omega)), rowsF_at (by omega), ?_⟩ | refine hZ _ _ _ _ ?_)
  show Z _ 24 _ _
  rw [lit_1, pk_sub h1]
  repeat (first | refine hZ _ _ _ _ ⟨rfl, ?_⟩ | refine hZ _ _ _ _ ⟨_, _, (by repeat (first | exact up_s | assumption | refine up_n (by omega) ?_)), adl (by omega), (by rfl), ?_⟩ | refine hZ _ _ _ _ ⟨_, _, (by repeat (first | exact up_s | assumption | refine up_n (by omega) ?_)), adl (by omega), (by first | assumption | exact vp_in_nI (by omega) (by omega)), ?_⟩ | refine hZ _ _ _ _ ⟨_, (by repeat (first | exact up_s | assumption | refine up_n (by omega) ?_)), adl (by omega), (by rfl), trivial, ?_⟩ | refine hZ _ _ _ _ ⟨trivial, ?_⟩ | refine hZ _ _ _ _ ⟨_, _, _, _, (by repeat (first | exact up_s | assumption | refine up_n (by omega) ?_)), (by first | exact Or.inr (Or.inr rfl) | exact Or.inr (Or.inl rfl) | exact Or.inl rfl), adl (by omega), (by first | assumption | exact vp_in_nI (by omega) (by omega)), rowsF_at (by omega), ?_⟩ | refine hZ _ _ _ _ ?_)
  rw [nI_clamp (by omega)]
  exact hp
set_option maxHeartbeats 4000000 in
theorem c_Eq_reduce {l : Launch} {N : Nat} {h : AH} {e n : Nat} {Rw : Nat → Nat → Int64} {an : Nat → Int64} {R : Nat → Nat → Int} {P : Option Value → AH → Prop} (E : EqO N h e (nI n) Rw an) (hn : n ≤ 5) (hn1 : 1 ≤ n) (hB : Bdd n R) (hpv : ∀ k, k < n → 0 < mn k R k k) (hR : ∀ p q, p < n → q ≤ n → Rw p q = lI (R p q))
    (hp : ∀ h' Rw', EqO N h' e (nI n) Rw' an → (∀ p q, p < n → p ≤ q → q ≤ n → Rw' p q = lI (mn p R p q)) → Fr e (e + 8) h h' → P none h') : Sem l QX0_reduce N h [.ref e] P := by
  refine iX0_reduce rfl ?_
  intro Z hZ
  have hDv : ∀ k, k < n → 0 < Dv k R ∧ (Dv k R).natAbs ≤ 2519424 := by
    intro k hk
    cases k with
    | zero => exact ⟨Int.one_pos, show (1 : Int).natAbs ≤ 2519424 by decide⟩
    | succ k =>
      refine ⟨hpv k (by omega), ?_⟩
      have := mn_b2 (k := k) (p := k) (q := k) hn hB (by omega) (by omega) (by omega)
      have := cB_le (k := k) (by omega)
      show (mn k R k k).natAbs ≤ _
      omega
  have outer : ∀ i k h1 Rw1 o4 o5, k + i + 1 = n → EqO N h1 e (nI n) Rw1 an → (∀ p q, p < k → p ≤ q → q ≤ n → Rw1 p q = lI (mn p R p q)) → (∀ p q, k ≤ p → p < n → k ≤ q → q ≤ n → Rw1 p q = lI (mn k R p q)) → Fr e (e + 8) h h1 → Z h1 4 [some (.ref e), some (.long (lI (Dv k R))), none, some (.int (nI k)), o4, o5] [] := by
    intro i
    induction i with
    | zero =>
      intro k h1 Rw1 o4 o5 hki E1 ha hb F
      have E10 := E1
      obtain ⟨eN, e0, e1, e2, e3⟩ := E1
      repeat (first | refine hZ _ _ _ _ ⟨rfl, ?_⟩ | refine hZ _ _ _ _ ⟨_, _, (by repeat (first | exact up_s | assumption | refine up_n (by omega) ?_)), adl (by omega), (by rfl), ?_⟩ | refine hZ _ _ _ _ ⟨_, _, (by repeat (first | exact up_s | assumption | refine up_n (by omega) ?_)), adl (by omega), (by first | assumption | exact vp_in_nI (by omega) (by omega)), ?_⟩ | refine hZ _ _ _ _ ⟨_, (by repeat (first | exact up_s | assumption | refine up_n (by omega) ?_)), adl (by omega), (by rfl), trivial, ?_⟩ | refine hZ _ _ _ _ ⟨trivial, ?_⟩ | refine hZ _ _ _ _ ⟨_, _, _, _, (by repeat (first | exact up_s | assumption | refine up_n (by omega) ?_)), (by first | exact Or.inr (Or.inr rfl) | exact Or.inr (Or.inl rfl) | exact Or.inl rfl), adl (by omega), (by first | assumption | exact vp_in_nI (by omega) (by omega)), rowsF_at (by omega), ?_⟩ | refine hZ _ _ _ _ ?_)
      rw [lit_1, pk_sub hn1]
      refine ⟨fun c => ?_, fun c => absurd (nI_le (by omega) (by omega)) c⟩
      repeat (first | refine hZ _ _ _ _ ⟨rfl, ?_⟩ | refine hZ _ _ _ _ ⟨_, _, (by repeat (first | exact up_s | assumption | refine up_n (by omega) ?_)), adl (by omega), (by rfl), ?_⟩ | refine hZ _ _ _ _ ⟨_, _, (by repeat (first | exact up_s | assumption | refine up_n (by omega) ?_)), adl (by omega), (by first | assumption | exact vp_in_nI (by omega) (by omega)), ?_⟩ | refine hZ _ _ _ _ ⟨_, (by repeat (first | exact up_s | assumption | refine up_n (by omega) ?_)), adl (by omega), (by rfl), trivial, ?_⟩ | refine hZ _ _ _ _ ⟨trivial, ?_⟩ | refine hZ _ _ _ _ ⟨_, _, _, _, (by repeat (first | exact up_s | assumption | refine up_n (by omega) ?_)), (by first | exact Or.inr (Or.inr rfl) | exact Or.inr (Or.inl rfl) | exact Or.inl rfl), adl (by omega), (by first | assumption | exact vp_in_nI (by omega) (by omega)), rowsF_at (by omega), ?_⟩ | refine hZ _ _ _ _ ?_)
      refine hp h1 Rw1 E10 (fun p q q1 q2 q3 => ?_) F
      rcases Nat.lt_or_ge p k with g | g
      · exact ha p q g q2 q3
      · have : p = k := by omega
        subst this
        exact hb p q (Nat.le_refl p) q1 q2 q3
    | succ i ih =>
      intro k h1' Rw1 o4 o5 hki E1 ha hb F
      have hkn : k < n := by omega
      have hk3 : k ≤ 3 := by omega
      obtain ⟨d0, dB⟩ := hDv k hkn
      have cBk := cB_le hk3
      -- the rows below
      have mid : ∀ j p h2 Rw2 o5, p + j = n → k < p → EqO N h2 e (nI n) Rw2 an → (∀ p q, p ≤ k → p ≤ q → q ≤ n → Rw2 p q = lI (mn p R p q)) → (∀ p', k < p' → p' < n → Rw2 p' k = lI (mn k R p' k)) → (∀ p' q, k < p' → p' < n → k < q → q ≤ n → Rw2 p' q = lI (if p' < p then mn (k + 1) R p' q else mn k R p' q)) → Fr e (e + 8) h h2 → Z h2 25 [some (.ref e), some (.long (lI (Dv k R))), none, some (.int (nI k)), some (.int (nI p)), o5] [] := by
        intro j
        induction j with
        | zero =>
          intro p h2 Rw2 o5 hpj hkp E2 ga gb gc F2
          have E20 := E2
          obtain ⟨eN, e0, e1, e2, e3⟩ := E2
          have rk := e2 k (by omega)
          repeat (first | refine hZ _ _ _ _ ⟨rfl, ?_⟩ | refine hZ _ _ _ _ ⟨_, _, (by repeat (first | exact up_s | assumption | refine up_n (by omega) ?_)), adl (by omega), (by rfl), ?_⟩ | refine hZ _ _ _ _ ⟨_, _, (by repeat (first | exact up_s | assumption | refine up_n (by omega) ?_)), adl (by omega), (by first | assumption | exact vp_in_nI (by omega) (by omega)), ?_⟩ | refine hZ _ _ _ _ ⟨_, (by repeat (first | exact up_s | assumption | refine up_n (by omega) ?_)), adl (by omega), (by rfl), trivial, ?_⟩ | refine hZ _ _ _ _ ⟨trivial, ?_⟩ | refine hZ _ _ _ _ ⟨_, _, _, _, (by repeat (first | exact up_s | assumption | refine up_n (by omega) ?_)), (by first | exact Or.inr (Or.inr rfl) | exact Or.inr (Or.inl rfl) | exact Or.inl rfl), adl (by omega), (by first | assumption | exact vp_in_nI (by omega) (by omega)), rowsF_at (by omega), ?_⟩ | refine hZ _ _ _ _ ?_)
          refine ⟨fun c => ?_, fun c => absurd (nI_le (by omega) (by omega)) c⟩
          iterate 9 (first | refine hZ _ _ _ _ ⟨rfl, ?_⟩ | refine hZ _ _ _ _ ⟨_, _, (by repeat (first | exact up_s | assumption | refine up_n (by omega) ?_)), adl (by omega), (by rfl), ?_⟩ | refine hZ _ _ _ _ ⟨_, _, (by repeat (first | exact up_s | assumption | refine up_n (by omega) ?_)), adl (by omega), (by first | assumption | exact vp_in_nI (by omega) (by omega)), ?_⟩ | refine hZ _ _ _ _ ⟨_, (by repeat (first | exact up_s | assumption | refine up_n (by omega) ?_)), adl (by omega), (by rfl), trivial, ?_⟩ | refine hZ _ _ _ _ ⟨trivial, ?_⟩ | refine hZ _ _ _ _ ⟨_, _, _, _, (by repeat (first | exact up_s | assumption | refine up_n (by omega) ?_)), (by first | exact Or.inr (Or.inr rfl) | exact Or.inr (Or.inl rfl) | exact Or.inl rfl), adl (by omega), (by first | assumption | exact vp_in_nI (by omega) (by omega)), rowsF_at (by omega), ?_⟩ | refine hZ _ _ _ _ ?_)
          show Z _ 4 _ _
          rw [nI_inc, nI_clamp (by omega), ga k k (Nat.le_refl k) (Nat.le_refl k) (by omega)]
          refine ih (k + 1) h2 Rw2 _ _ (by omega) E20 (fun p' q q1 q2 q3 => ga p' q (by omega) q2 q3) (fun p' q q1 q2 q3 q4 => ?_) F2
          rw [gc p' q (by omega) q2 (by omega) q4, if_pos (by omega)]
        | succ j ihj =>
          intro p h2 Rw2 o5 hpj hkp E2 ga gb gc F2
          have hpn : p < n := by omega
          have cols : ∀ x q h3 Rw3, q + x = n + 1 → k < q → EqO N h3 e (nI n) Rw3 an → (∀ p q, p ≤ k → p ≤ q → q ≤ n → Rw3 p q = lI (mn p R p q)) → (∀ p', k < p' → p' < n → Rw3 p' k = lI (mn k R p' k)) → (∀ p' q', k < p' → p' < n → k < q' → q' ≤ n → Rw3 p' q' = lI (if p' < p ∨ p' = p ∧ q' < q then mn (k + 1) R p' q' else mn k R p' q')) → Fr e (e + 8) h h3 → Z h3 39 [some (.ref e), some (.long (lI (Dv k R))), none, some (.int (nI k)), some (.int (nI p)), some (.int (nI q))] [] := by
            intro x
            induction x with
            | zero =>
              intro q h3 Rw3 hqx hkq E3 ga gb gc F3
              have E30 := E3
              obtain ⟨eN, e0, e1, e2, e3⟩ := E3
              repeat (first | refine hZ _ _ _ _ ⟨rfl, ?_⟩ | refine hZ _ _ _ _ ⟨_, _, (by repeat (first | exact up_s | assumption | refine up_n (by omega) ?_)), adl (by omega), (by rfl), ?_⟩ | refine hZ _ _ _ _ ⟨_, _, (by repeat (first | exact up_s | assumption | refine up_n (by omega) ?_)), adl (by omega), (by first | assumption | exact vp_in_nI (by omega) (by omega)), ?_⟩ | refine hZ _ _ _ _ ⟨_, (by repeat (first | exact up_s | assumption | refine up_n (by omega) ?_)), adl (by omega), (by rfl), trivial, ?_⟩ | refine hZ _ _ _ _ ⟨trivial, ?_⟩ | refine hZ _ _ _ _ ⟨_, _, _, _, (by repeat (first | exact up_s | assumption | refine up_n (by omega) ?_)), (by first | exact Or.inr (Or.inr rfl) | exact Or.inr (Or.inl rfl) | exact Or.inl rfl), adl (by omega), (by first | assumption | exact vp_in_nI (by omega) (by omega)), rowsF_at (by omega), ?_⟩ | refine hZ _ _ _ _ ?_)
              refine ⟨fun c => ?_, fun c => absurd (nI_lt (by omega) (by omega)) c⟩
              iterate 2 (first | refine hZ _ _ _ _ ⟨rfl, ?_⟩ | refine hZ _ _ _ _ ⟨_, _, (by repeat (first | exact up_s | assumption | refine up_n (by omega) ?_)), adl (by omega), (by rfl), ?_⟩ | refine hZ _ _ _ _ ⟨_, _, (by repeat (first | exact up_s | assumption | refine up_n (by omega) ?_)), adl (by omega), (by first | assumption | exact vp_in_nI (by omega) (by omega)), ?_⟩ | refine hZ _ _ _ _ ⟨_, (by repeat (first | exact up_s | assumption | refine up_n (by omega) ?_)), adl (by omega), (by rfl), trivial, ?_⟩ | refine hZ _ _ _ _ ⟨trivial, ?_⟩ | refine hZ _ _ _ _ ⟨_, _, _, _, (by repeat (first | exact up_s | assumption | refine up_n (by omega) ?_)), (by first | exact Or.inr (Or.inr rfl) | exact Or.inr (Or.inl rfl) | exact Or.inl rfl), adl (by omega), (by first | assumption | exact vp_in_nI (by omega) (by omega)), rowsF_at (by omega), ?_⟩ | refine hZ _ _ _ _ ?_)
              show Z _ 25 _ _
              rw [nI_inc]
              refine ihj (p + 1) h3 Rw3 _ (by omega) (by omega) E30 ga gb (fun p' q' q1 q2 q3 q4 => ?_) F3
              rw [gc p' q' q1 q2 q3 q4]
              congr 1
              by_cases z : p' < p + 1
              · rw [if_pos z, if_pos (by omega)]
              · rw [if_neg z, if_neg (by omega)]
            | succ x ihx =>
              intro q h3 Rw3 hqx hkq E3 ga gb gc F3
              have hqn : q ≤ n := by omega
              have E30 := E3
              obtain ⟨eN, e0, e1, e2, e3⟩ := E3
              have rk := e2 k (by omega)
              have rp := e2 p (by omega)
              repeat (first | refine hZ _ _ _ _ ⟨rfl, ?_⟩ | refine hZ _ _ _ _ ⟨_, _, (by repeat (first | exact up_s | assumption | refine up_n (by omega) ?_)), adl (by omega), (by rfl), ?_⟩ | refine hZ _ _ _ _ ⟨_, _, (by repeat (first | exact up_s | assumption | refine up_n (by omega) ?_)), adl (by omega), (by first | assumption | exact vp_in_nI (by omega) (by omega)), ?_⟩ | refine hZ _ _ _ _ ⟨_, (by repeat (first | exact up_s | assumption | refine up_n (by omega) ?_)), adl (by omega), (by rfl), trivial, ?_⟩ | refine hZ _ _ _ _ ⟨trivial, ?_⟩ | refine hZ _ _ _ _ ⟨_, _, _, _, (by repeat (first | exact up_s | assumption | refine up_n (by omega) ?_)), (by first | exact Or.inr (Or.inr rfl) | exact Or.inr (Or.inl rfl) | exact Or.inl rfl), adl (by omega), (by first | assumption | exact vp_in_nI (by omega) (by omega)), rowsF_at (by omega), ?_⟩ | refine hZ _ _ _ _ ?_)
              refine ⟨fun c => absurd c (nI_nlt (by omega) (by omega)), fun c => ?_⟩
              iterate 33 (first | refine hZ _ _ _ _ ⟨rfl, ?_⟩ | refine hZ _ _ _ _ ⟨_, _, (by repeat (first | exact up_s | assumption | refine up_n (by omega) ?_)), adl (by omega), (by rfl), ?_⟩ | refine hZ _ _ _ _ ⟨_, _, (by repeat (first | exact up_s | assumption | refine up_n (by omega) ?_)), adl (by omega), (by first | assumption | exact vp_in_nI (by omega) (by omega)), ?_⟩ | refine hZ _ _ _ _ ⟨_, (by repeat (first | exact up_s | assumption | refine up_n (by omega) ?_)), adl (by omega), (by rfl), trivial, ?_⟩ | refine hZ _ _ _ _ ⟨trivial, ?_⟩ | refine hZ _ _ _ _ ⟨_, _, _, _, (by repeat (first | exact up_s | assumption | refine up_n (by omega) ?_)), (by first | exact Or.inr (Or.inr rfl) | exact Or.inr (Or.inl rfl) | exact Or.inl rfl), adl (by omega), (by first | assumption | exact vp_in_nI (by omega) (by omega)), rowsF_at (by omega), ?_⟩ | refine hZ _ _ _ _ ?_)
              show Z _ 97 _ _
              have m1 := mn_b1 (k := k) (p := p) (q := q) hn hB hkn hpn hqn
              have m2 := mn_b2 (k := k) (p := k) (q := k) hn hB hkn hkn hkn
              have m3 := mn_b2 (k := k) (p := p) (q := k) hn hB hkn hpn hkn
              have m4 := mn_b1 (k := k) (p := k) (q := q) hn hB hkn hkn hqn
              rw [nI_clamp (by omega), nI_clamp (by omega), gc p q hkp hpn hkq hqn, if_neg (by omega), ga k k (Nat.le_refl k) (Nat.le_refl k) (by omega), gb p hkp hpn, ga k q (Nat.le_refl k) (by omega) hqn, lI_mul, lI_mul, lI_sub, ← mn_syl hk3]
              have hb1 : (mn (k + 1) R p q * Dv k R).natAbs < 2 ^ 63 := by
                rw [mn_syl hk3]
                have t1 := ab_mul (show (mn k R p q).natAbs ≤ 8398080000 by omega) (show (mn k R k k).natAbs ≤ 2519424 by omega)
                have t2 := ab_mul (show (mn k R p k).natAbs ≤ 2519424 by omega) (show (mn k R k q).natAbs ≤ 8398080000 by omega)
                have t3 := ab_sub t1 t2
                omega
              refine hZ _ _ _ _ ⟨fun z => ?_, ?_⟩
              · have := (lI_eq (by omega) (by decide)).mp (show lI (Dv k R) = lI 0 from z)
                omega
              rw [lI_exact hb1 (by omega) (by omega)]
              iterate 3 (first | refine hZ _ _ _ _ ⟨rfl, ?_⟩ | refine hZ _ _ _ _ ⟨_, _, (by repeat (first | exact up_s | assumption | refine up_n (by omega) ?_)), adl (by omega), (by rfl), ?_⟩ | refine hZ _ _ _ _ ⟨_, _, (by repeat (first | exact up_s | assumption | refine up_n (by omega) ?_)), adl (by omega), (by first | assumption | exact vp_in_nI (by omega) (by omega)), ?_⟩ | refine hZ _ _ _ _ ⟨_, (by repeat (first | exact up_s | assumption | refine up_n (by omega) ?_)), adl (by omega), (by rfl), trivial, ?_⟩ | refine hZ _ _ _ _ ⟨trivial, ?_⟩ | refine hZ _ _ _ _ ⟨_, _, _, _, (by repeat (first | exact up_s | assumption | refine up_n (by omega) ?_)), (by first | exact Or.inr (Or.inr rfl) | exact Or.inr (Or.inl rfl) | exact Or.inl rfl), adl (by omega), (by first | assumption | exact vp_in_nI (by omega) (by omega)), rowsF_at (by omega), ?_⟩ | refine hZ _ _ _ _ ?_)
              show Z _ 39 _ _
              rw [nI_inc, nI_clamp (by omega)]
              refine ihx (q + 1) _ _ (by omega) (by omega) (E30.put (by omega)) (fun p' q' q1 q2 q3 => ?_) (fun p' q1 q2 => ?_) (fun p' q' q1 q2 q3 q4 => ?_) (F3.up (by omega) (by omega))
              · rw [up2_n (by omega)]; exact ga p' q' q1 q2 q3
              · rw [up2_n (by omega)]; exact gb p' q1 q2
              · by_cases z : p' = p ∧ q' = q
                · rw [up2_s z.1 z.2, if_pos (by omega), z.1, z.2]
                · rw [up2_n z, gc p' q' q1 q2 q3 q4]
                  congr 1
                  by_cases z2 : p' < p ∨ p' = p ∧ q' < q
                  · rw [if_pos z2, if_pos (by omega)]
                  · rw [if_neg z2, if_neg (by omega)]
          have E20 := E2
          obtain ⟨eN, e0, e1, e2, e3⟩ := E2
          repeat (first | refine hZ _ _ _ _ ⟨rfl, ?_⟩ | refine hZ _ _ _ _ ⟨_, _, (by repeat (first | exact up_s | assumption | refine up_n (by omega) ?_)), adl (by omega), (by rfl), ?_⟩ | refine hZ _ _ _ _ ⟨_, _, (by repeat (first | exact up_s | assumption | refine up_n (by omega) ?_)), adl (by omega), (by first | assumption | exact vp_in_nI (by omega) (by omega)), ?_⟩ | refine hZ _ _ _ _ ⟨_, (by repeat (first | exact up_s | assumption | refine up_n (by omega) ?_)), adl (by omega), (by rfl), trivial, ?_⟩ | refine hZ _ _ _ _ ⟨trivial, ?_⟩ | refine hZ _ _ _ _ ⟨_, _, _, _, (by repeat (first | exact up_s | assumption | refine up_n (by omega) ?_)), (by first | exact Or.inr (Or.inr rfl) | exact Or.inr (Or.inl rfl) | exact Or.inl rfl), adl (by omega), (by first | assumption | exact vp_in_nI (by omega) (by omega)), rowsF_at (by omega), ?_⟩ | refine hZ _ _ _ _ ?_)
          refine ⟨fun c => absurd c (nI_ge (by omega) (by omega)), fun c => ?_⟩
          iterate 4 (first | refine hZ _ _ _ _ ⟨rfl, ?_⟩ | refine hZ _ _ _ _ ⟨_, _, (by repeat (first | exact up_s | assumption | refine up_n (by omega) ?_)), adl (by omega), (by rfl), ?_⟩ | refine hZ _ _ _ _ ⟨_, _, (by repeat (first | exact up_s | assumption | refine up_n (by omega) ?_)), adl (by omega), (by first | assumption | exact vp_in_nI (by omega) (by omega)), ?_⟩ | refine hZ _ _ _ _ ⟨_, (by repeat (first | exact up_s | assumption | refine up_n (by omega) ?_)), adl (by omega), (by rfl), trivial, ?_⟩ | refine hZ _ _ _ _ ⟨trivial, ?_⟩ | refine hZ _ _ _ _ ⟨_, _, _, _, (by repeat (first | exact up_s | assumption | refine up_n (by omega) ?_)), (by first | exact Or.inr (Or.inr rfl) | exact Or.inr (Or.inl rfl) | exact Or.inl rfl), adl (by omega), (by first | assumption | exact vp_in_nI (by omega) (by omega)), rowsF_at (by omega), ?_⟩ | refine hZ _ _ _ _ ?_)
          show Z _ 39 _ _
          rw [nI_inc]
          refine cols (n + 1 - (k + 1)) (k + 1) h2 Rw2 (by omega) (by omega) E20 ga gb (fun p' q' q1 q2 q3 q4 => ?_) F2
          rw [gc p' q' q1 q2 q3 q4]
          congr 1
          by_cases z : p' < p
          · rw [if_pos z, if_pos (by omega)]
          · rw [if_neg z, if_neg (by omega)]
      have E10 := E1
      obtain ⟨eN, e0, e1, e2, e3⟩ := E1
      repeat (first | refine hZ _ _ _ _ ⟨rfl, ?_⟩ | refine hZ _ _ _ _ ⟨_, _, (by repeat (first | exact up_s | assumption | refine up_n (by omega) ?_)), adl (by omega), (by rfl), ?_⟩ | refine hZ _ _ _ _ ⟨_, _, (by repeat (first | exact up_s | assumption | refine up_n (by omega) ?_)), adl (by omega), (by first | assumption | exact vp_in_nI (by omega) (by omega)), ?_⟩ | refine hZ _ _ _ _ ⟨_, (by repeat (first | exact up_s | assumption | refine up_n (by omega) ?_)), adl (by omega), (by rfl), trivial, ?_⟩ | refine hZ _ _ _ _ ⟨trivial, ?_⟩ | refine hZ _ _ _ _ ⟨_, _, _, _, (by repeat (first | exact up_s | assumption | refine up_n (by omega) ?_)), (by first | exact Or.inr (Or.inr rfl) | exact Or.inr (Or.inl rfl) | exact Or.inl rfl), adl (by omega), (by first | assumption | exact vp_in_nI (by omega) (by omega)), rowsF_at (by omega), ?_⟩ | refine hZ _ _ _ _ ?_)
      rw [lit_1, pk_sub hn1]
      refine ⟨fun c => absurd c (nI_ge (by omega) (by omega)), fun c => ?_⟩
      repeat (first | refine hZ _ _ _ _ ⟨rfl, ?_⟩ | refine hZ _ _ _ _ ⟨_, _, (by repeat (first | exact up_s | assumption | refine up_n (by omega) ?_)), adl (by omega), (by rfl), ?_⟩ | refine hZ _ _ _ _ ⟨_, _, (by repeat (first | exact up_s | assumption | refine up_n (by omega) ?_)), adl (by omega), (by first | assumption | exact vp_in_nI (by omega) (by omega)), ?_⟩ | refine hZ _ _ _ _ ⟨_, (by repeat (first | exact up_s | assumption | refine up_n (by omega) ?_)), adl (by omega), (by rfl), trivial, ?_⟩ | refine hZ _ _ _ _ ⟨trivial, ?_⟩ | refine hZ _ _ _ _ ⟨_, _, _, _, (by repeat (first | exact up_s | assumption | refine up_n (by omega) ?_)), (by first | exact Or.inr (Or.inr rfl) | exact Or.inr (Or.inl rfl) | exact Or.inl rfl), adl (by omega), (by first | assumption | exact vp_in_nI (by omega) (by omega)), rowsF_at (by omega), ?_⟩ | refine hZ _ _ _ _ ?_)
      rw [lI_0]
      refine ⟨fun c => absurd c (lcmp_ne (by omega) (by omega)), fun c => ?_⟩
      iterate 4 (first | refine hZ _ _ _ _ ⟨rfl, ?_⟩ | refine hZ _ _ _ _ ⟨_, _, (by repeat (first | exact up_s | assumption | refine up_n (by omega) ?_)), adl (by omega), (by rfl), ?_⟩ | refine hZ _ _ _ _ ⟨_, _, (by repeat (first | exact up_s | assumption | refine up_n (by omega) ?_)), adl (by omega), (by first | assumption | exact vp_in_nI (by omega) (by omega)), ?_⟩ | refine hZ _ _ _ _ ⟨_, (by repeat (first | exact up_s | assumption | refine up_n (by omega) ?_)), adl (by omega), (by rfl), trivial, ?_⟩ | refine hZ _ _ _ _ ⟨trivial, ?_⟩ | refine hZ _ _ _ _ ⟨_, _, _, _, (by repeat (first | exact up_s | assumption | refine up_n (by omega) ?_)), (by first | exact Or.inr (Or.inr rfl) | exact Or.inr (Or.inl rfl) | exact Or.inl rfl), adl (by omega), (by first | assumption | exact vp_in_nI (by omega) (by omega)), rowsF_at (by omega), ?_⟩ | refine hZ _ _ _ _ ?_)
      show Z _ 25 _ _
      rw [nI_inc]
      refine mid (n - (k + 1)) (k + 1) h1' Rw1 _ (by omega) (by omega) E10 (fun p q q1 q2 q3 => ?_) (fun p' q1 q2 => hb p' k (by omega) q2 (Nat.le_refl k) (by omega)) (fun p' q q1 q2 q3 q4 => ?_) F
      · rcases Nat.lt_or_ge p k with g | g
        · exact ha p q g q2 q3
        · have : p = k := by omega
          subst this
          exact hb p q (Nat.le_refl p) (by omega) q2 q3
      · rw [if_neg (by omega)]
        exact hb p' q (by omega) q2 (by omega) q4
  iterate 4 (first | refine hZ _ _ _ _ ⟨rfl, ?_⟩ | refine hZ _ _ _ _ ⟨_, _, (by repeat (first | exact up_s | assumption | refine up_n (by omega) ?_)), adl (by omega), (by rfl), ?_⟩ | refine hZ _ _ _ _ ⟨_, _, (by repeat (first | exact up_s | assumption | refine up_n (by omega) ?_)), adl (by omega), (by first | assumption | exact vp_in_nI (by omega) (by omega)), ?_⟩ | refine hZ _ _ _ _ ⟨_, (by repeat (first | exact up_s | assumption | refine up_n (by omega) ?_)), adl (by omega), (by rfl), trivial, ?_⟩ | refine hZ _ _ _ _ ⟨trivial, ?_⟩ | refine hZ _ _ _ _ ⟨_, _, _, _, (by repeat (first | exact up_s | assumption | refine up_n (by omega) ?_)), (by first | exact Or.inr (Or.inr rfl) | exact Or.inr (Or.inl rfl) | exact Or.inl rfl), adl (by omega), (by first | assumption | exact vp_in_nI (by omega) (by omega)), rowsF_at (by omega), ?_⟩ | refine hZ _ _ _ _ ?_)
  show Z _ 4 _ _
  rw [lI_1]
  exact outer (n - 1) 0 h Rw _ _ (by omega) E (fun p q z => absurd z (Nat.not_lt_zero p)) (fun p q _ q2 _ q4 => hR p q q2 q4) Fr.rf
