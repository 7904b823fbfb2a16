/-! ===== the reference: settling ===== -/
theorem sof_upd {n p : Nat} {u : Nat → Nat} (hp : p < n) : sof (fun q => decide (0 < updN u p (u p + 1) q)) n = sof (fun q => decide (0 < u q)) n ||| 2 ^ p := by
  refine bt_ext (fun q => ?_)
  rw [bt1_or, sof_bit, sof_bit]
  unfold updN
  by_cases e : q = p
  · rw [if_pos e, if_pos e, if_pos ⟨by omega, decide_eq_true (by omega)⟩]
  · rw [if_neg e, if_neg e]
/-- under way to the settled heaps -/
def Js (n : Nat) (a : Nat → Nat → Nat) (w κ x : Nat → Nat) (fl tr fa to at' rp dF' dT dS rd : Int32) (A : Nat → Nat → Int32) (L : Nat → Int64) (h0 h : AH) (u y : Nat → Nat) : Prop :=
  Fr 61 82 h0 h ∧ cfg n a (dgr n a w) x u y ∧ LA n a (dgr n a w) (brf n a w κ) x u ∧ ∃ A1, MM h fl tr (nI n) fa to at' rp (dF' + nI (sm (fun q => u q * w q) n)) (dT + nI (sm u n)) (dS ||| nI (sof (fun q => decide (0 < u q)) n)) rd A1 L ∧ Mx A1 n y ∧ (∀ q, q < n → A1 74 q = A 74 q + nI (u q)) ∧ ∀ j, ¬ j = 67 → ¬ j = 74 → A1 j = A j
theorem Mg.eq {A A1 : Nat → Nat → Int32} {n : Nat} {a : Nat → Nat → Nat} {w κ : Nat → Nat} (G : Mg A n a w κ) (h : ∀ j, ¬ j = 67 → ¬ j = 74 → A1 j = A j) : Mg A1 n a w κ := by
  unfold Mg at *
  rw [h 65 (by decide) (by decide), h 66 (by decide) (by decide), h 69 (by decide) (by decide)]
  exact G
theorem sm_swap (F : Nat → Nat → Nat) (n m : Nat) : sm (fun q => sm (fun p => F p q) n) m = sm (fun p => sm (fun q => F p q) m) n := by
  induction m with
  | zero => exact (sm_zero n).symm
  | succ m ih =>
    show sm (fun q => sm (fun p => F p q) n) m + sm (fun p => F p m) n = sm (fun p => sm (fun q => F p q) m + F p m) n
    rw [ih, ← sm_add]
theorem sm_mulc (c : Nat) (f : Nat → Nat) (n : Nat) : sm (fun i => c * f i) n = c * sm f n := by
  induction n with
  | zero => rfl
  | succ n ih =>
    show sm (fun i => c * f i) n + c * f n = c * (sm f n + f n)
    rw [ih, Nat.mul_add]
theorem cfg_le {n : Nat} {a : Nat → Nat → Nat} {w κ x u y : Nat → Nat} (Y : Yw n a w κ) (h : cfg n a (dgr n a w) x u y) : sm y n ≤ sm x n := by
  have h1 : sm (fun q => y q + dgr n a w q * u q) n = sm (fun q => x q + sm (fun p => u p * a p q) n) n := sm_congr h
  rw [sm_add, sm_add, sm_swap, sm_congr (f := fun p => sm (fun q => u p * a p q) n) (g := fun p => u p * sm (a p) n) (fun p _ => sm_mulc _ _ _)] at h1
  have h2 : sm (fun p => u p * sm (a p) n) n ≤ sm (fun q => dgr n a w q * u q) n := sm_mono (fun p _ => by
    rw [Nat.mul_comm]
    exact Nat.mul_le_mul_right _ (by unfold dgr; omega))
  omega
set_option maxHeartbeats 2000000 in
theorem m_settles {l : Launch} {h : AH} {n : Nat} {a : Nat → Nat → Nat} {w κ x : Nat → Nat} {fl tr fa to at' rp dF' dT dS rd : Int32} {A : Nat → Nat → Int32} {L : Nat → Int64} {P : Option Value → AH → Prop} (M : MM h fl tr (nI n) fa to at' rp dF' dT dS rd A L) (G : Mg A n a w κ) (hX : Mx A n x) (Y : Yw n a w κ) (hs : sm x n ≤ 66666)
    (hp : ∀ h' u y, Stl n a (dgr n a w) (brf n a w κ) x u y → Js n a w κ x fl tr fa to at' rp dF' dT dS rd A L h h' u y → P none h') : Sem l QX7_settles 82 h [.ref 61] P := by
  have hn := Y.1
  refine iX7_settles rfl ?_
  intro Z hZ
  have claim : ∀ f, ∀ m u y h1 p, Js n a w κ x fl tr fa to at' rp dF' dT dS rd A L h h1 u y → 15 * sm x n ≤ sm u n + f → p < n → (m = 0 → (∀ q, q < p → y q < brf n a w κ q)) → (m = 0 ∨ m = 1) → Z h1 18 [some (.ref 61), some (.int (Int32.ofInt (m : Nat))), some (.int (nI p))] [] := by
    intro f
    induction f using Nat.strongRecOn with
    | ind f ih =>
      have at18 : ∀ (m : Nat) u y h1 p, Js n a w κ x fl tr fa to at' rp dF' dT dS rd A L h h1 u y → 15 * sm x n ≤ sm u n + f → p < n → (y p < brf n a w κ p → Z h1 36 [some (.ref 61), some (.int (Int32.ofInt (m : Nat))), some (.int (nI p))] []) → Z h1 18 [some (.ref 61), some (.int (Int32.ofInt (m : Nat))), some (.int (nI p))] [] := by
        intro m u y h1 p J hf hpn nx
        obtain ⟨F1, hc, hl, A1, M1, hX1, h74, hA⟩ := J
        have m0 := M1.1
        have hyb := Nat.le_trans (sm_ge (f := y) hpn) (cfg_le Y hc)
        iterate 2 (first | refine hZ _ _ _ _ ⟨rfl, ?_⟩ | refine hZ _ _ _ _ ⟨_, _, (by repeat (first | exact up_s | assumption | refine up_n (by omega) ?_)), adl (by omega), (by rfl), ?_⟩ | refine hZ _ _ _ _ ⟨_, _, (by repeat (first | exact up_s | assumption | refine up_n (by omega) ?_)), adl (by omega), (by first | assumption | exact vp_in_nI (by omega) (by omega)), ?_⟩ | refine hZ _ _ _ _ ⟨_, (by repeat (first | exact up_s | assumption | refine up_n (by omega) ?_)), adl (by omega), (by rfl), trivial, ?_⟩ | refine hZ _ _ _ _ ⟨trivial, ?_⟩ | refine hZ _ _ _ _ ⟨_, _, _, _, (by repeat (first | exact up_s | assumption | refine up_n (by omega) ?_)), (by first | exact Or.inr (Or.inr rfl) | exact Or.inr (Or.inl rfl) | exact Or.inl rfl), adl (by omega), (by first | assumption | exact vp_in_nI (by omega) (by omega)), (by first | exact rowsF_at (by omega) | exact shF_at (by omega)), ?_⟩ | refine hZ _ _ _ _ ?_)
        show Z _ 20 _ _
        refine hZ _ _ _ _ ⟨⟨_, (by repeat (first | exact up_s | assumption | refine up_n (by omega) ?_))⟩, adl (by omega), rfl, ?_⟩
        refine m_can M1 (G.eq hA) hX1 Y hpn (by omega) ?_
        show Z _ 23 _ _
        by_cases hcan : brf n a w κ p ≤ y p
        · rw [decide_eq_true hcan]
          repeat (first | refine hZ _ _ _ _ ⟨rfl, ?_⟩ | refine hZ _ _ _ _ ⟨_, _, (by repeat (first | exact up_s | assumption | refine up_n (by omega) ?_)), adl (by omega), (by rfl), ?_⟩ | refine hZ _ _ _ _ ⟨_, _, (by repeat (first | exact up_s | assumption | refine up_n (by omega) ?_)), adl (by omega), (by first | assumption | exact vp_in_nI (by omega) (by omega)), ?_⟩ | refine hZ _ _ _ _ ⟨_, (by repeat (first | exact up_s | assumption | refine up_n (by omega) ?_)), adl (by omega), (by rfl), trivial, ?_⟩ | refine hZ _ _ _ _ ⟨trivial, ?_⟩ | refine hZ _ _ _ _ ⟨_, _, _, _, (by repeat (first | exact up_s | assumption | refine up_n (by omega) ?_)), (by first | exact Or.inr (Or.inr rfl) | exact Or.inr (Or.inl rfl) | exact Or.inl rfl), adl (by omega), (by first | assumption | exact vp_in_nI (by omega) (by omega)), (by first | exact rowsF_at (by omega) | exact shF_at (by omega)), ?_⟩ | refine hZ _ _ _ _ ?_)
          refine ⟨fun c => absurd c (by decide), fun c => ?_⟩
          have hdb : dgr n a w p ≤ brf n a w κ p := by
            show _ ≤ bea _ _
            unfold bea
            split
            · omega
            · split <;> omega
          iterate 2 (first | refine hZ _ _ _ _ ⟨rfl, ?_⟩ | refine hZ _ _ _ _ ⟨_, _, (by repeat (first | exact up_s | assumption | refine up_n (by omega) ?_)), adl (by omega), (by rfl), ?_⟩ | refine hZ _ _ _ _ ⟨_, _, (by repeat (first | exact up_s | assumption | refine up_n (by omega) ?_)), adl (by omega), (by first | assumption | exact vp_in_nI (by omega) (by omega)), ?_⟩ | refine hZ _ _ _ _ ⟨_, (by repeat (first | exact up_s | assumption | refine up_n (by omega) ?_)), adl (by omega), (by rfl), trivial, ?_⟩ | refine hZ _ _ _ _ ⟨trivial, ?_⟩ | refine hZ _ _ _ _ ⟨_, _, _, _, (by repeat (first | exact up_s | assumption | refine up_n (by omega) ?_)), (by first | exact Or.inr (Or.inr rfl) | exact Or.inr (Or.inl rfl) | exact Or.inl rfl), adl (by omega), (by first | assumption | exact vp_in_nI (by omega) (by omega)), (by first | exact rowsF_at (by omega) | exact shF_at (by omega)), ?_⟩ | refine hZ _ _ _ _ ?_)
          show Z _ 28 _ _
          refine hZ _ _ _ _ ⟨⟨_, (by repeat (first | exact up_s | assumption | refine up_n (by omega) ?_))⟩, adl (by omega), rfl, ?_⟩
          refine m_topples M1 (G.eq hA) hX1 hn hpn (Y.2.2.1 p hpn) (by omega) (fun h2 f2 F2 M2 hf2 => ?_)
          show Z _ 31 _ _
          have hc2 := cfg_top (t := 1) hpn (Y.2.2.1 p hpn) (by omega) hc
          have hl2 := LA_top (t := 0) hpn (Y.2.2.1 p hpn) (by omega) hc hl
          have hb2 := bound Y.1 Y.2.1 hc2 Y.2.2.2.2.2.2
          have es : sm (updN u p (u p + 1)) n = sm u n + 1 := sm_updN hpn
          have ew : sm (fun q => updN u p (u p + 1) q * w q) n = sm (fun q => u q * w q) n + w p := by
            rw [sm_upd hpn, Nat.one_mul]
          iterate 3 (first | refine hZ _ _ _ _ ⟨rfl, ?_⟩ | refine hZ _ _ _ _ ⟨_, _, (by repeat (first | exact up_s | assumption | refine up_n (by omega) ?_)), adl (by omega), (by rfl), ?_⟩ | refine hZ _ _ _ _ ⟨_, _, (by repeat (first | exact up_s | assumption | refine up_n (by omega) ?_)), adl (by omega), (by first | assumption | exact vp_in_nI (by omega) (by omega)), ?_⟩ | refine hZ _ _ _ _ ⟨_, (by repeat (first | exact up_s | assumption | refine up_n (by omega) ?_)), adl (by omega), (by rfl), trivial, ?_⟩ | refine hZ _ _ _ _ ⟨trivial, ?_⟩ | refine hZ _ _ _ _ ⟨_, _, _, _, (by repeat (first | exact up_s | assumption | refine up_n (by omega) ?_)), (by first | exact Or.inr (Or.inr rfl) | exact Or.inr (Or.inl rfl) | exact Or.inl rfl), adl (by omega), (by first | assumption | exact vp_in_nI (by omega) (by omega)), (by first | exact rowsF_at (by omega) | exact shF_at (by omega)), ?_⟩ | refine hZ _ _ _ _ ?_)
          show Z _ 18 _ _
          refine ih (f - 1) (by omega) 1 (updN u p (u p + 1)) (tpl a (dgr n a w) y p 1) h2 p ⟨F1.tr F2, hc2, hl2, updA (updA A1 67 f2) 74 (upd (A1 74) p (A1 74 p + nI 1)), ?_, fun q hq => ?_, fun q hq => ?_, fun j j1 j2 => ?_⟩ (by omega) hpn (fun z => absurd z (by decide)) (Or.inr rfl)
          · rw [es, ew, sof_upd hpn, ← nI_add, ← nI_add, ← nI_or, ← Int32.add_assoc, ← Int32.add_assoc, ← Int32.or_assoc]
            exact M2
          · rw [updA_n (by decide), updA_s]; exact hf2 q hq
          · rw [updA_s]
            unfold updN
            by_cases e9 : q = p
            · rw [upd_s e9, if_pos e9, e9, h74 p hpn, ← nI_add, Int32.add_assoc]
            · rw [pk_un e9, if_neg e9]; exact h74 q hq
          · rw [updA_n j2, updA_n j1]; exact hA j j1 j2
        · rw [decide_eq_false hcan]
          repeat (first | refine hZ _ _ _ _ ⟨rfl, ?_⟩ | refine hZ _ _ _ _ ⟨_, _, (by repeat (first | exact up_s | assumption | refine up_n (by omega) ?_)), adl (by omega), (by rfl), ?_⟩ | refine hZ _ _ _ _ ⟨_, _, (by repeat (first | exact up_s | assumption | refine up_n (by omega) ?_)), adl (by omega), (by first | assumption | exact vp_in_nI (by omega) (by omega)), ?_⟩ | refine hZ _ _ _ _ ⟨_, (by repeat (first | exact up_s | assumption | refine up_n (by omega) ?_)), adl (by omega), (by rfl), trivial, ?_⟩ | refine hZ _ _ _ _ ⟨trivial, ?_⟩ | refine hZ _ _ _ _ ⟨_, _, _, _, (by repeat (first | exact up_s | assumption | refine up_n (by omega) ?_)), (by first | exact Or.inr (Or.inr rfl) | exact Or.inr (Or.inl rfl) | exact Or.inl rfl), adl (by omega), (by first | assumption | exact vp_in_nI (by omega) (by omega)), (by first | exact rowsF_at (by omega) | exact shF_at (by omega)), ?_⟩ | refine hZ _ _ _ _ ?_)
          refine ⟨fun c => ?_, fun c => absurd rfl c⟩
          exact nx (by omega)
      have mv0 : ∀ e u y h1 p, Js n a w κ x fl tr fa to at' rp dF' dT dS rd A L h h1 u y → 15 * sm x n ≤ sm u n + f → p + e = n → (∀ q, q < p → y q < brf n a w κ q) → Z h1 10 [some (.ref 61), some (.int (Int32.ofInt ((0 : Nat) : Int))), some (.int (nI p))] [] := by
        intro e
        induction e with
        | zero =>
          intro u y h1 p J hf hpe hq
          have J0 := J
          obtain ⟨F1, hc, hl, A1, M1, hX1, h74, hA⟩ := J
          have m0 := M1.1
          repeat (first | refine hZ _ _ _ _ ⟨rfl, ?_⟩ | refine hZ _ _ _ _ ⟨_, _, (by repeat (first | exact up_s | assumption | refine up_n (by omega) ?_)), adl (by omega), (by rfl), ?_⟩ | refine hZ _ _ _ _ ⟨_, _, (by repeat (first | exact up_s | assumption | refine up_n (by omega) ?_)), adl (by omega), (by first | assumption | exact vp_in_nI (by omega) (by omega)), ?_⟩ | refine hZ _ _ _ _ ⟨_, (by repeat (first | exact up_s | assumption | refine up_n (by omega) ?_)), adl (by omega), (by rfl), trivial, ?_⟩ | refine hZ _ _ _ _ ⟨trivial, ?_⟩ | refine hZ _ _ _ _ ⟨_, _, _, _, (by repeat (first | exact up_s | assumption | refine up_n (by omega) ?_)), (by first | exact Or.inr (Or.inr rfl) | exact Or.inr (Or.inl rfl) | exact Or.inl rfl), adl (by omega), (by first | assumption | exact vp_in_nI (by omega) (by omega)), (by first | exact rowsF_at (by omega) | exact shF_at (by omega)), ?_⟩ | refine hZ _ _ _ _ ?_)
          refine ⟨fun c => ?_, fun c => absurd (nI_le (by omega) (by omega)) c⟩
          iterate 2 (first | refine hZ _ _ _ _ ⟨rfl, ?_⟩ | refine hZ _ _ _ _ ⟨_, _, (by repeat (first | exact up_s | assumption | refine up_n (by omega) ?_)), adl (by omega), (by rfl), ?_⟩ | refine hZ _ _ _ _ ⟨_, _, (by repeat (first | exact up_s | assumption | refine up_n (by omega) ?_)), adl (by omega), (by first | assumption | exact vp_in_nI (by omega) (by omega)), ?_⟩ | refine hZ _ _ _ _ ⟨_, (by repeat (first | exact up_s | assumption | refine up_n (by omega) ?_)), adl (by omega), (by rfl), trivial, ?_⟩ | refine hZ _ _ _ _ ⟨trivial, ?_⟩ | refine hZ _ _ _ _ ⟨_, _, _, _, (by repeat (first | exact up_s | assumption | refine up_n (by omega) ?_)), (by first | exact Or.inr (Or.inr rfl) | exact Or.inr (Or.inl rfl) | exact Or.inl rfl), adl (by omega), (by first | assumption | exact vp_in_nI (by omega) (by omega)), (by first | exact rowsF_at (by omega) | exact shF_at (by omega)), ?_⟩ | refine hZ _ _ _ _ ?_)
          show Z _ 3 _ _
          refine hZ _ _ _ _ ⟨fun c => ?_, fun c => absurd (by decide) c⟩
          repeat (first | refine hZ _ _ _ _ ⟨rfl, ?_⟩ | refine hZ _ _ _ _ ⟨_, _, (by repeat (first | exact up_s | assumption | refine up_n (by omega) ?_)), adl (by omega), (by rfl), ?_⟩ | refine hZ _ _ _ _ ⟨_, _, (by repeat (first | exact up_s | assumption | refine up_n (by omega) ?_)), adl (by omega), (by first | assumption | exact vp_in_nI (by omega) (by omega)), ?_⟩ | refine hZ _ _ _ _ ⟨_, (by repeat (first | exact up_s | assumption | refine up_n (by omega) ?_)), adl (by omega), (by rfl), trivial, ?_⟩ | refine hZ _ _ _ _ ⟨trivial, ?_⟩ | refine hZ _ _ _ _ ⟨_, _, _, _, (by repeat (first | exact up_s | assumption | refine up_n (by omega) ?_)), (by first | exact Or.inr (Or.inr rfl) | exact Or.inr (Or.inl rfl) | exact Or.inl rfl), adl (by omega), (by first | assumption | exact vp_in_nI (by omega) (by omega)), (by first | exact rowsF_at (by omega) | exact shF_at (by omega)), ?_⟩ | refine hZ _ _ _ _ ?_)
          exact hp h1 u y ⟨hc, fun q hq' => hq q (by omega), hl⟩ J0
        | succ e ihe =>
          intro u y h1 p J hf hpe hq
          have J0 := J
          obtain ⟨F1, hc, hl, A1, M1, hX1, h74, hA⟩ := J
          have m0 := M1.1
          repeat (first | refine hZ _ _ _ _ ⟨rfl, ?_⟩ | refine hZ _ _ _ _ ⟨_, _, (by repeat (first | exact up_s | assumption | refine up_n (by omega) ?_)), adl (by omega), (by rfl), ?_⟩ | refine hZ _ _ _ _ ⟨_, _, (by repeat (first | exact up_s | assumption | refine up_n (by omega) ?_)), adl (by omega), (by first | assumption | exact vp_in_nI (by omega) (by omega)), ?_⟩ | refine hZ _ _ _ _ ⟨_, (by repeat (first | exact up_s | assumption | refine up_n (by omega) ?_)), adl (by omega), (by rfl), trivial, ?_⟩ | refine hZ _ _ _ _ ⟨trivial, ?_⟩ | refine hZ _ _ _ _ ⟨_, _, _, _, (by repeat (first | exact up_s | assumption | refine up_n (by omega) ?_)), (by first | exact Or.inr (Or.inr rfl) | exact Or.inr (Or.inl rfl) | exact Or.inl rfl), adl (by omega), (by first | assumption | exact vp_in_nI (by omega) (by omega)), (by first | exact rowsF_at (by omega) | exact shF_at (by omega)), ?_⟩ | refine hZ _ _ _ _ ?_)
          refine ⟨fun c => absurd c (nI_ge (by omega) (by omega)), fun c => ?_⟩
          refine at18 0 u y h1 p J0 hf (by omega) (fun hy => ?_)
          iterate 2 (first | refine hZ _ _ _ _ ⟨rfl, ?_⟩ | refine hZ _ _ _ _ ⟨_, _, (by repeat (first | exact up_s | assumption | refine up_n (by omega) ?_)), adl (by omega), (by rfl), ?_⟩ | refine hZ _ _ _ _ ⟨_, _, (by repeat (first | exact up_s | assumption | refine up_n (by omega) ?_)), adl (by omega), (by first | assumption | exact vp_in_nI (by omega) (by omega)), ?_⟩ | refine hZ _ _ _ _ ⟨_, (by repeat (first | exact up_s | assumption | refine up_n (by omega) ?_)), adl (by omega), (by rfl), trivial, ?_⟩ | refine hZ _ _ _ _ ⟨trivial, ?_⟩ | refine hZ _ _ _ _ ⟨_, _, _, _, (by repeat (first | exact up_s | assumption | refine up_n (by omega) ?_)), (by first | exact Or.inr (Or.inr rfl) | exact Or.inr (Or.inl rfl) | exact Or.inl rfl), adl (by omega), (by first | assumption | exact vp_in_nI (by omega) (by omega)), (by first | exact rowsF_at (by omega) | exact shF_at (by omega)), ?_⟩ | refine hZ _ _ _ _ ?_)
          show Z _ 10 _ _
          rw [nI_inc]
          refine ihe u y h1 (p + 1) J0 hf (by omega) (fun q hq' => ?_)
          by_cases e9 : q = p
          · rw [e9]; exact hy
          · exact hq q (by omega)
      have mv1 : ∀ e u y h1 p, Js n a w κ x fl tr fa to at' rp dF' dT dS rd A L h h1 u y → 15 * sm x n ≤ sm u n + f → p + e = n → Z h1 10 [some (.ref 61), some (.int (Int32.ofInt ((1 : Nat) : Int))), some (.int (nI p))] [] := by
        intro e
        induction e with
        | zero =>
          intro u y h1 p J hf hpe
          have J0 := J
          obtain ⟨F1, hc, hl, A1, M1, hX1, h74, hA⟩ := J
          have m0 := M1.1
          repeat (first | refine hZ _ _ _ _ ⟨rfl, ?_⟩ | refine hZ _ _ _ _ ⟨_, _, (by repeat (first | exact up_s | assumption | refine up_n (by omega) ?_)), adl (by omega), (by rfl), ?_⟩ | refine hZ _ _ _ _ ⟨_, _, (by repeat (first | exact up_s | assumption | refine up_n (by omega) ?_)), adl (by omega), (by first | assumption | exact vp_in_nI (by omega) (by omega)), ?_⟩ | refine hZ _ _ _ _ ⟨_, (by repeat (first | exact up_s | assumption | refine up_n (by omega) ?_)), adl (by omega), (by rfl), trivial, ?_⟩ | refine hZ _ _ _ _ ⟨trivial, ?_⟩ | refine hZ _ _ _ _ ⟨_, _, _, _, (by repeat (first | exact up_s | assumption | refine up_n (by omega) ?_)), (by first | exact Or.inr (Or.inr rfl) | exact Or.inr (Or.inl rfl) | exact Or.inl rfl), adl (by omega), (by first | assumption | exact vp_in_nI (by omega) (by omega)), (by first | exact rowsF_at (by omega) | exact shF_at (by omega)), ?_⟩ | refine hZ _ _ _ _ ?_)
          refine ⟨fun c => ?_, fun c => absurd (nI_le (by omega) (by omega)) c⟩
          iterate 2 (first | refine hZ _ _ _ _ ⟨rfl, ?_⟩ | refine hZ _ _ _ _ ⟨_, _, (by repeat (first | exact up_s | assumption | refine up_n (by omega) ?_)), adl (by omega), (by rfl), ?_⟩ | refine hZ _ _ _ _ ⟨_, _, (by repeat (first | exact up_s | assumption | refine up_n (by omega) ?_)), adl (by omega), (by first | assumption | exact vp_in_nI (by omega) (by omega)), ?_⟩ | refine hZ _ _ _ _ ⟨_, (by repeat (first | exact up_s | assumption | refine up_n (by omega) ?_)), adl (by omega), (by rfl), trivial, ?_⟩ | refine hZ _ _ _ _ ⟨trivial, ?_⟩ | refine hZ _ _ _ _ ⟨_, _, _, _, (by repeat (first | exact up_s | assumption | refine up_n (by omega) ?_)), (by first | exact Or.inr (Or.inr rfl) | exact Or.inr (Or.inl rfl) | exact Or.inl rfl), adl (by omega), (by first | assumption | exact vp_in_nI (by omega) (by omega)), (by first | exact rowsF_at (by omega) | exact shF_at (by omega)), ?_⟩ | refine hZ _ _ _ _ ?_)
          show Z _ 3 _ _
          refine hZ _ _ _ _ ⟨fun c => absurd c (by decide), fun c => ?_⟩
          iterate 4 (first | refine hZ _ _ _ _ ⟨rfl, ?_⟩ | refine hZ _ _ _ _ ⟨_, _, (by repeat (first | exact up_s | assumption | refine up_n (by omega) ?_)), adl (by omega), (by rfl), ?_⟩ | refine hZ _ _ _ _ ⟨_, _, (by repeat (first | exact up_s | assumption | refine up_n (by omega) ?_)), adl (by omega), (by first | assumption | exact vp_in_nI (by omega) (by omega)), ?_⟩ | refine hZ _ _ _ _ ⟨_, (by repeat (first | exact up_s | assumption | refine up_n (by omega) ?_)), adl (by omega), (by rfl), trivial, ?_⟩ | refine hZ _ _ _ _ ⟨trivial, ?_⟩ | refine hZ _ _ _ _ ⟨_, _, _, _, (by repeat (first | exact up_s | assumption | refine up_n (by omega) ?_)), (by first | exact Or.inr (Or.inr rfl) | exact Or.inr (Or.inl rfl) | exact Or.inl rfl), adl (by omega), (by first | assumption | exact vp_in_nI (by omega) (by omega)), (by first | exact rowsF_at (by omega) | exact shF_at (by omega)), ?_⟩ | refine hZ _ _ _ _ ?_)
          show Z _ 10 _ _
          exact mv0 n u y h1 0 J0 hf (by omega) (fun q hq => by omega)
        | succ e ihe =>
          intro u y h1 p J hf hpe
          have J0 := J
          obtain ⟨F1, hc, hl, A1, M1, hX1, h74, hA⟩ := J
          have m0 := M1.1
          repeat (first | refine hZ _ _ _ _ ⟨rfl, ?_⟩ | refine hZ _ _ _ _ ⟨_, _, (by repeat (first | exact up_s | assumption | refine up_n (by omega) ?_)), adl (by omega), (by rfl), ?_⟩ | refine hZ _ _ _ _ ⟨_, _, (by repeat (first | exact up_s | assumption | refine up_n (by omega) ?_)), adl (by omega), (by first | assumption | exact vp_in_nI (by omega) (by omega)), ?_⟩ | refine hZ _ _ _ _ ⟨_, (by repeat (first | exact up_s | assumption | refine up_n (by omega) ?_)), adl (by omega), (by rfl), trivial, ?_⟩ | refine hZ _ _ _ _ ⟨trivial, ?_⟩ | refine hZ _ _ _ _ ⟨_, _, _, _, (by repeat (first | exact up_s | assumption | refine up_n (by omega) ?_)), (by first | exact Or.inr (Or.inr rfl) | exact Or.inr (Or.inl rfl) | exact Or.inl rfl), adl (by omega), (by first | assumption | exact vp_in_nI (by omega) (by omega)), (by first | exact rowsF_at (by omega) | exact shF_at (by omega)), ?_⟩ | refine hZ _ _ _ _ ?_)
          refine ⟨fun c => absurd c (nI_ge (by omega) (by omega)), fun c => ?_⟩
          refine at18 1 u y h1 p J0 hf (by omega) (fun hy => ?_)
          iterate 2 (first | refine hZ _ _ _ _ ⟨rfl, ?_⟩ | refine hZ _ _ _ _ ⟨_, _, (by repeat (first | exact up_s | assumption | refine up_n (by omega) ?_)), adl (by omega), (by rfl), ?_⟩ | refine hZ _ _ _ _ ⟨_, _, (by repeat (first | exact up_s | assumption | refine up_n (by omega) ?_)), adl (by omega), (by first | assumption | exact vp_in_nI (by omega) (by omega)), ?_⟩ | refine hZ _ _ _ _ ⟨_, (by repeat (first | exact up_s | assumption | refine up_n (by omega) ?_)), adl (by omega), (by rfl), trivial, ?_⟩ | refine hZ _ _ _ _ ⟨trivial, ?_⟩ | refine hZ _ _ _ _ ⟨_, _, _, _, (by repeat (first | exact up_s | assumption | refine up_n (by omega) ?_)), (by first | exact Or.inr (Or.inr rfl) | exact Or.inr (Or.inl rfl) | exact Or.inl rfl), adl (by omega), (by first | assumption | exact vp_in_nI (by omega) (by omega)), (by first | exact rowsF_at (by omega) | exact shF_at (by omega)), ?_⟩ | refine hZ _ _ _ _ ?_)
          show Z _ 10 _ _
          rw [nI_inc]
          exact ihe u y h1 (p + 1) J0 hf (by omega)
      intro m u y h1 p J hf hpn hm0 hm
      refine at18 m u y h1 p J hf hpn (fun hy => ?_)
      iterate 2 (first | refine hZ _ _ _ _ ⟨rfl, ?_⟩ | refine hZ _ _ _ _ ⟨_, _, (by repeat (first | exact up_s | assumption | refine up_n (by omega) ?_)), adl (by omega), (by rfl), ?_⟩ | refine hZ _ _ _ _ ⟨_, _, (by repeat (first | exact up_s | assumption | refine up_n (by omega) ?_)), adl (by omega), (by first | assumption | exact vp_in_nI (by omega) (by omega)), ?_⟩ | refine hZ _ _ _ _ ⟨_, (by repeat (first | exact up_s | assumption | refine up_n (by omega) ?_)), adl (by omega), (by rfl), trivial, ?_⟩ | refine hZ _ _ _ _ ⟨trivial, ?_⟩ | refine hZ _ _ _ _ ⟨_, _, _, _, (by repeat (first | exact up_s | assumption | refine up_n (by omega) ?_)), (by first | exact Or.inr (Or.inr rfl) | exact Or.inr (Or.inl rfl) | exact Or.inl rfl), adl (by omega), (by first | assumption | exact vp_in_nI (by omega) (by omega)), (by first | exact rowsF_at (by omega) | exact shF_at (by omega)), ?_⟩ | refine hZ _ _ _ _ ?_)
      show Z _ 10 _ _
      rw [nI_inc]
      rcases hm with e | e
      · subst e
        refine mv0 (n - p - 1) u y h1 (p + 1) J hf (by omega) (fun q hq => ?_)
        by_cases e9 : q = p
        · rw [e9]; exact hy
        · exact hm0 rfl q (by omega)
      · subst e
        exact mv1 (n - p - 1) u y h1 (p + 1) J hf (by omega)
  have J0 : Js n a w κ x fl tr fa to at' rp dF' dT dS rd A L h h (fun _ => 0) x := by
    refine ⟨Fr.rf, cfg_0, LA_0, A, ?_, hX, fun q hq => ?_, fun j _ _ => rfl⟩
    · rw [sm_zero, sm_congr (f := fun q => 0 * w q) (g := fun _ => 0) (fun i _ => Nat.zero_mul _), sm_zero, show sof (fun q => decide (0 < (fun _ => 0) q)) n = 0 from sof_zero.mpr (fun q _ => rfl)]
      rw [show nI 0 = 0 from rfl, Int32.add_zero, Int32.add_zero, Int32.or_zero]
      exact M
    · rw [show nI 0 = 0 from rfl, Int32.add_zero]
  have m0 := M.1
  iterate 3 (first | refine hZ _ _ _ _ ⟨rfl, ?_⟩ | refine hZ _ _ _ _ ⟨_, _, (by repeat (first | exact up_s | assumption | refine up_n (by omega) ?_)), adl (by omega), (by rfl), ?_⟩ | refine hZ _ _ _ _ ⟨_, _, (by repeat (first | exact up_s | assumption | refine up_n (by omega) ?_)), adl (by omega), (by first | assumption | exact vp_in_nI (by omega) (by omega)), ?_⟩ | refine hZ _ _ _ _ ⟨_, (by repeat (first | exact up_s | assumption | refine up_n (by omega) ?_)), adl (by omega), (by rfl), trivial, ?_⟩ | refine hZ _ _ _ _ ⟨trivial, ?_⟩ | refine hZ _ _ _ _ ⟨_, _, _, _, (by repeat (first | exact up_s | assumption | refine up_n (by omega) ?_)), (by first | exact Or.inr (Or.inr rfl) | exact Or.inr (Or.inl rfl) | exact Or.inl rfl), adl (by omega), (by first | assumption | exact vp_in_nI (by omega) (by omega)), (by first | exact rowsF_at (by omega) | exact shF_at (by omega)), ?_⟩ | refine hZ _ _ _ _ ?_)
  show Z _ 3 _ _
  refine hZ _ _ _ _ ⟨fun c => absurd c (by decide), fun c => ?_⟩
  iterate 4 (first | refine hZ _ _ _ _ ⟨rfl, ?_⟩ | refine hZ _ _ _ _ ⟨_, _, (by repeat (first | exact up_s | assumption | refine up_n (by omega) ?_)), adl (by omega), (by rfl), ?_⟩ | refine hZ _ _ _ _ ⟨_, _, (by repeat (first | exact up_s | assumption | refine up_n (by omega) ?_)), adl (by omega), (by first | assumption | exact vp_in_nI (by omega) (by omega)), ?_⟩ | refine hZ _ _ _ _ ⟨_, (by repeat (first | exact up_s | assumption | refine up_n (by omega) ?_)), adl (by omega), (by rfl), trivial, ?_⟩ | refine hZ _ _ _ _ ⟨trivial, ?_⟩ | refine hZ _ _ _ _ ⟨_, _, _, _, (by repeat (first | exact up_s | assumption | refine up_n (by omega) ?_)), (by first | exact Or.inr (Or.inr rfl) | exact Or.inr (Or.inl rfl) | exact Or.inl rfl), adl (by omega), (by first | assumption | exact vp_in_nI (by omega) (by omega)), (by first | exact rowsF_at (by omega) | exact shF_at (by omega)), ?_⟩ | refine hZ _ _ _ _ ?_)
  show Z _ 10 _ _
  by_cases hn0 : n = 0
  · repeat (first | refine hZ _ _ _ _ ⟨rfl, ?_⟩ | refine hZ _ _ _ _ ⟨_, _, (by repeat (first | exact up_s | assumption | refine up_n (by omega) ?_)), adl (by omega), (by rfl), ?_⟩ | refine hZ _ _ _ _ ⟨_, _, (by repeat (first | exact up_s | assumption | refine up_n (by omega) ?_)), adl (by omega), (by first | assumption | exact vp_in_nI (by omega) (by omega)), ?_⟩ | refine hZ _ _ _ _ ⟨_, (by repeat (first | exact up_s | assumption | refine up_n (by omega) ?_)), adl (by omega), (by rfl), trivial, ?_⟩ | refine hZ _ _ _ _ ⟨trivial, ?_⟩ | refine hZ _ _ _ _ ⟨_, _, _, _, (by repeat (first | exact up_s | assumption | refine up_n (by omega) ?_)), (by first | exact Or.inr (Or.inr rfl) | exact Or.inr (Or.inl rfl) | exact Or.inl rfl), adl (by omega), (by first | assumption | exact vp_in_nI (by omega) (by omega)), (by first | exact rowsF_at (by omega) | exact shF_at (by omega)), ?_⟩ | refine hZ _ _ _ _ ?_)
    refine ⟨fun c => ?_, fun c => absurd (show nI n ≤ nI 0 from nI_le (by omega) (by omega)) c⟩
    iterate 2 (first | refine hZ _ _ _ _ ⟨rfl, ?_⟩ | refine hZ _ _ _ _ ⟨_, _, (by repeat (first | exact up_s | assumption | refine up_n (by omega) ?_)), adl (by omega), (by rfl), ?_⟩ | refine hZ _ _ _ _ ⟨_, _, (by repeat (first | exact up_s | assumption | refine up_n (by omega) ?_)), adl (by omega), (by first | assumption | exact vp_in_nI (by omega) (by omega)), ?_⟩ | refine hZ _ _ _ _ ⟨_, (by repeat (first | exact up_s | assumption | refine up_n (by omega) ?_)), adl (by omega), (by rfl), trivial, ?_⟩ | refine hZ _ _ _ _ ⟨trivial, ?_⟩ | refine hZ _ _ _ _ ⟨_, _, _, _, (by repeat (first | exact up_s | assumption | refine up_n (by omega) ?_)), (by first | exact Or.inr (Or.inr rfl) | exact Or.inr (Or.inl rfl) | exact Or.inl rfl), adl (by omega), (by first | assumption | exact vp_in_nI (by omega) (by omega)), (by first | exact rowsF_at (by omega) | exact shF_at (by omega)), ?_⟩ | refine hZ _ _ _ _ ?_)
    show Z _ 3 _ _
    refine hZ _ _ _ _ ⟨fun c => ?_, fun c => absurd (by decide) c⟩
    repeat (first | refine hZ _ _ _ _ ⟨rfl, ?_⟩ | refine hZ _ _ _ _ ⟨_, _, (by repeat (first | exact up_s | assumption | refine up_n (by omega) ?_)), adl (by omega), (by rfl), ?_⟩ | refine hZ _ _ _ _ ⟨_, _, (by repeat (first | exact up_s | assumption | refine up_n (by omega) ?_)), adl (by omega), (by first | assumption | exact vp_in_nI (by omega) (by omega)), ?_⟩ | refine hZ _ _ _ _ ⟨_, (by repeat (first | exact up_s | assumption | refine up_n (by omega) ?_)), adl (by omega), (by rfl), trivial, ?_⟩ | refine hZ _ _ _ _ ⟨trivial, ?_⟩ | refine hZ _ _ _ _ ⟨_, _, _, _, (by repeat (first | exact up_s | assumption | refine up_n (by omega) ?_)), (by first | exact Or.inr (Or.inr rfl) | exact Or.inr (Or.inl rfl) | exact Or.inl rfl), adl (by omega), (by first | assumption | exact vp_in_nI (by omega) (by omega)), (by first | exact rowsF_at (by omega) | exact shF_at (by omega)), ?_⟩ | refine hZ _ _ _ _ ?_)
    exact hp h (fun _ => 0) x ⟨cfg_0, fun q hq => by omega, LA_0⟩ J0
  · repeat (first | refine hZ _ _ _ _ ⟨rfl, ?_⟩ | refine hZ _ _ _ _ ⟨_, _, (by repeat (first | exact up_s | assumption | refine up_n (by omega) ?_)), adl (by omega), (by rfl), ?_⟩ | refine hZ _ _ _ _ ⟨_, _, (by repeat (first | exact up_s | assumption | refine up_n (by omega) ?_)), adl (by omega), (by first | assumption | exact vp_in_nI (by omega) (by omega)), ?_⟩ | refine hZ _ _ _ _ ⟨_, (by repeat (first | exact up_s | assumption | refine up_n (by omega) ?_)), adl (by omega), (by rfl), trivial, ?_⟩ | refine hZ _ _ _ _ ⟨trivial, ?_⟩ | refine hZ _ _ _ _ ⟨_, _, _, _, (by repeat (first | exact up_s | assumption | refine up_n (by omega) ?_)), (by first | exact Or.inr (Or.inr rfl) | exact Or.inr (Or.inl rfl) | exact Or.inl rfl), adl (by omega), (by first | assumption | exact vp_in_nI (by omega) (by omega)), (by first | exact rowsF_at (by omega) | exact shF_at (by omega)), ?_⟩ | refine hZ _ _ _ _ ?_)
    refine ⟨fun c => absurd (show nI n ≤ nI 0 from c) (nI_ge (by omega) (by omega)), fun c => ?_⟩
    exact claim (15 * sm x n) 0 (fun _ => 0) x h 0 J0 (by omega) (by omega) (fun _ q hq => by omega) (Or.inl rfl)
