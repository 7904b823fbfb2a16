/-! ===== Heaps.giveTillSettled ===== -/
theorem sm_updN {n p t : Nat} {u : Nat → Nat} (hp : p < n) : sm (updN u p (u p + t)) n = sm u n + t := by
  have := sm_upd (u := u) (c := fun _ => 1) (t := t) hp
  rw [sm_congr (f := fun r => updN u p (u p + t) r * 1) (g := updN u p (u p + t)) (fun i _ => Nat.mul_one _), sm_congr (f := fun r => u r * 1) (g := u) (fun i _ => Nat.mul_one _), Nat.mul_one] at this
  exact this
theorem sm_mul_le {n c : Nat} {u v : Nat → Nat} (h : ∀ i, i < n → v i ≤ c) : sm (fun i => u i * v i) n ≤ c * sm u n := by
  induction n with
  | zero => exact Nat.zero_le _
  | succ n ih =>
    have h1 := ih (fun i hi => h i (by omega))
    have h2 := Nat.mul_le_mul_left (u n) (h n (by omega))
    show sm _ n + u n * v n ≤ c * (sm u n + u n)
    rw [Nat.mul_add, Nat.mul_comm c (u n)]
    omega
/-- a yard: at most five places, paths both ways, none to itself, at most three between two and to the pit, kinds 0 .. 2, all open -/
def Yw (n : Nat) (a : Nat → Nat → Nat) (w κ : Nat → Nat) : Prop := n ≤ 5 ∧ (∀ p q, p < n → q < n → a p q = a q p) ∧ (∀ p, p < n → a p p = 0) ∧ (∀ p q, p < n → q < n → a p q ≤ 3) ∧ (∀ p, p < n → w p ≤ 3) ∧ (∀ p, p < n → κ p ≤ 2) ∧ Opn n a w
/-- the cells of a Ground hold a yard -/
def Gv (n : Nat) (a : Nat → Nat → Nat) (w κ : Nat → Nat) (B : Nat → Nat → Int32) (pit kind deg brs : Nat → Int32) : Prop := (∀ p q, p < n → q < n → B p q = nI (a p q)) ∧ (∀ p, p < n → pit p = nI (w p)) ∧ (∀ p, p < n → kind p = nI (κ p)) ∧ (∀ p, p < n → deg p = nI (dgr n a w p)) ∧ ∀ p, p < n → brs p = nI (bea (κ p) (dgr n a w p))
abbrev brf (n : Nat) (a : Nat → Nat → Nat) (w κ : Nat → Nat) : Nat → Nat := fun p => bea (κ p) (dgr n a w p)
theorem dgr_pos {n : Nat} {a : Nat → Nat → Nat} {w κ : Nat → Nat} (Y : Yw n a w κ) {p : Nat} (hp : p < n) : 0 < dgr n a w p := by
  obtain ⟨-, -, -, -, -, -, ho⟩ := Y
  obtain ⟨q, hq, hT, h⟩ := ho (fun j => decide (j = p)) ⟨p, hp, decide_eq_true rfl⟩
  have hT : q = p := of_decide_eq_true hT
  subst hT
  unfold dgr
  rcases h with h | ⟨r, hr, -, h⟩
  · omega
  · have := sm_ge (f := a q) hr
    omega
theorem dgr_le {n : Nat} {a : Nat → Nat → Nat} {w κ : Nat → Nat} (Y : Yw n a w κ) {p : Nat} (hp : p < n) : dgr n a w p ≤ 18 := by
  obtain ⟨hn, -, -, ha, hw, -, -⟩ := Y
  have h1 := sm_le (f := a p) (n := n) (b := 3) (fun i hi => ha p i hp hi)
  have h2 := hw p hp
  unfold dgr
  omega
theorem bea_ge (k d : Nat) : d ≤ bea k d := by unfold bea; split; · omega
                                               · split <;> omega
theorem bea_le (k d : Nat) : bea k d ≤ 2 * d + 1 := by unfold bea; split; · omega
                                                       · split <;> omega
theorem y_small {n : Nat} {a : Nat → Nat → Nat} {w κ x u y : Nat → Nat} (Y : Yw n a w κ) (h : cfg n a (dgr n a w) x u y) (hs : sm x n ≤ 66666) : sm u n ≤ 999990 ∧ ∀ q, q < n → y q < 4000000 := by
  have hb := bound Y.1 Y.2.1 h Y.2.2.2.2.2.2
  refine ⟨by omega, fun q hq => ?_⟩
  have h1 := h q hq
  have h2 := sm_mul_le (u := u) (v := fun p => a p q) (n := n) (c := 3) (fun i hi => Y.2.2.2.1 i q hi hq)
  have h3 := sm_ge (f := x) hq
  omega
def SI (N : Nat) (h : AH) (k n : Nat) (a : Nat → Nat → Nat) (w κ x : Nat → Nat) (t : Nat → Int32) (fa to : Int32) (h1 : AH) (u y : Nat → Nat) : Prop :=
  ∃ f1 t1, Hp N h1 k f1 t1 (fa + nI (sm (fun q => u q * w q) n)) (to + nI (sm u n)) ∧ (∀ q, q < n → f1 q = nI (y q)) ∧ (∀ q, q < n → t1 q = t q + nI (u q)) ∧ Fr k (k + 3) h h1 ∧ cfg n a (dgr n a w) x u y ∧ LA n a (dgr n a w) (brf n a w κ) x u
set_option maxHeartbeats 2000000 in
theorem c_Heaps_settle {l : Launch} {N : Nat} {h : AH} {g k n : Nat} {B : Nat → Nat → Int32} {pit kind deg brs : Nat → Int32} {f t : Nat → Int32} {fa to : Int32} {a : Nat → Nat → Nat} {w κ x : Nat → Nat} {P : Option Value → AH → Prop} (G : Gd N h g (nI n) B pit kind deg brs) (V : Gv n a w κ B pit kind deg brs) (Y : Yw n a w κ) (K : Hp N h k f t fa to) (hd : k + 3 ≤ g ∨ g + 11 ≤ k)
    (hf : ∀ q, q < n → f q = nI (x q)) (hs : sm x n ≤ 66666)
    (hp : ∀ h' f' t' u y, Stl n a (dgr n a w) (brf n a w κ) x u y → Hp N h' k f' t' (fa + nI (sm (fun q => u q * w q) n)) (to + nI (sm u n)) → (∀ q, q < n → f' q = nI (y q)) → (∀ q, q < n → t' q = t q + nI (u q)) → Fr k (k + 3) h h' → P (some (.int (nI (sm u n)))) h') : Sem l QX2_giveTillSettled N h [.ref k, .ref g] P := by
  have hn := Y.1
  obtain ⟨vB, vP, vK, vD, vR⟩ := V
  refine iX2_giveTillSettled rfl ?_
  intro Z hZ
  -- the end
  have fin : ∀ h1 u y m r o5 o6, SI N h k n a w κ x t fa to h1 u y → (∀ q, q < n → y q < brf n a w κ q) → Z h1 72 [some (.ref k), some (.ref g), some (.int to), m, r, o5, o6] [] := by
    intro h1 u y m r o5 o6 S hy
    obtain ⟨f1, t1, K1, q1, q2, q3, q4, q5⟩ := S
    have K2 := K1
    obtain ⟨hN, k0, k1, k2⟩ := K1
    repeat (first | refine hZ _ _ _ _ ⟨rfl, ?_⟩ | refine hZ _ _ _ _ ⟨_, _, (by repeat (first | exact up_s | assumption | refine up_n (by omega) ?_)), adl (by omega), (by rfl), ?_⟩ | refine hZ _ _ _ _ ⟨_, _, (by repeat (first | exact up_s | assumption | refine up_n (by omega) ?_)), adl (by omega), (by first | assumption | exact vp_in_nI (by omega) (by omega)), ?_⟩ | refine hZ _ _ _ _ ⟨_, (by repeat (first | exact up_s | assumption | refine up_n (by omega) ?_)), adl (by omega), (by rfl), trivial, ?_⟩ | refine hZ _ _ _ _ ⟨trivial, ?_⟩ | refine hZ _ _ _ _ ?_)
    rw [Int32.add_comm to, Int32.add_sub_cancel]
    exact hp h1 f1 t1 u y ⟨q4, hy, q5⟩ K2 q1 q2 q3
  have outer : ∀ e r h1 u y o5 o6, 15 * sm x n + 1 ≤ sm u n + e → r ≤ sm u n → SI N h k n a w κ x t fa to h1 u y → Z h1 10 [some (.ref k), some (.ref g), some (.int to), some (.int (nI 1)), some (.int (nI r)), o5, o6] [] := by
    intro e
    induction e with
    | zero =>
      intro r h1 u y o5 o6 he
      intro _ S
      obtain ⟨f1, t1, K1, q1, q2, q3, q4, q5⟩ := S
      have := bound Y.1 Y.2.1 q4 Y.2.2.2.2.2.2
      omega
    | succ e ih =>
      intro r h0 u0 y0 o5 o6 he hr S0
      have inner : ∀ i p h1 u y m o6, p + i = n → SI N h k n a w κ x t fa to h1 u y → (m = 1 ∧ sm u0 n + 1 ≤ sm u n ∨ m = 0 ∧ sm u0 n ≤ sm u n ∧ ∀ q, q < p → y q < brf n a w κ q) → Z h1 26 [some (.ref k), some (.ref g), some (.int to), some (.int (nI m)), some (.int (nI r)), some (.int (nI p)), o6] [] := by
        intro i
        induction i with
        | zero =>
          intro p h1 u y m o6 hpi S hm
          have S1 := S
          obtain ⟨f1, t1, K1, q1, q2, q3, q4, q5⟩ := S
          obtain ⟨gN, r0, r1, r2, r3, r4, r5, r6⟩ := G.fr q3 (by omega)
          repeat (first | refine hZ _ _ _ _ ⟨rfl, ?_⟩ | refine hZ _ _ _ _ ⟨_, _, (by repeat (first | exact up_s | assumption | refine up_n (by omega) ?_)), adl (by omega), (by rfl), ?_⟩ | refine hZ _ _ _ _ ⟨_, _, (by repeat (first | exact up_s | assumption | refine up_n (by omega) ?_)), adl (by omega), (by first | assumption | exact vp_in_nI (by omega) (by omega)), ?_⟩ | refine hZ _ _ _ _ ⟨_, (by repeat (first | exact up_s | assumption | refine up_n (by omega) ?_)), adl (by omega), (by rfl), trivial, ?_⟩ | refine hZ _ _ _ _ ⟨trivial, ?_⟩ | refine hZ _ _ _ _ ?_)
          refine ⟨fun c => ?_, fun c => absurd (nI_le (by omega) (by omega)) c⟩
          iterate 2 (first | refine hZ _ _ _ _ ⟨rfl, ?_⟩ | refine hZ _ _ _ _ ⟨_, _, (by repeat (first | exact up_s | assumption | refine up_n (by omega) ?_)), adl (by omega), (by rfl), ?_⟩ | refine hZ _ _ _ _ ⟨_, _, (by repeat (first | exact up_s | assumption | refine up_n (by omega) ?_)), adl (by omega), (by first | assumption | exact vp_in_nI (by omega) (by omega)), ?_⟩ | refine hZ _ _ _ _ ⟨_, (by repeat (first | exact up_s | assumption | refine up_n (by omega) ?_)), adl (by omega), (by rfl), trivial, ?_⟩ | refine hZ _ _ _ _ ⟨trivial, ?_⟩ | refine hZ _ _ _ _ ?_)
          show Z _ 10 _ _
          rw [nI_inc]
          rcases hm with ⟨e1, e2⟩ | ⟨e1, e3, e2⟩
          · subst e1
            exact ih (r + 1) h1 u y _ _ (by omega) (by omega) S1
          · subst e1
            repeat (first | refine hZ _ _ _ _ ⟨rfl, ?_⟩ | refine hZ _ _ _ _ ⟨_, _, (by repeat (first | exact up_s | assumption | refine up_n (by omega) ?_)), adl (by omega), (by rfl), ?_⟩ | refine hZ _ _ _ _ ⟨_, _, (by repeat (first | exact up_s | assumption | refine up_n (by omega) ?_)), adl (by omega), (by first | assumption | exact vp_in_nI (by omega) (by omega)), ?_⟩ | refine hZ _ _ _ _ ⟨_, (by repeat (first | exact up_s | assumption | refine up_n (by omega) ?_)), adl (by omega), (by rfl), trivial, ?_⟩ | refine hZ _ _ _ _ ⟨trivial, ?_⟩ | refine hZ _ _ _ _ ?_)
            refine ⟨fun c => ?_, fun c => absurd rfl c⟩
            exact fin h1 u y _ _ _ _ S1 (fun q hq => e2 q (by omega))
        | succ i ihi =>
          intro p h1 u y m o6 hpi S hm
          have S1 := S
          obtain ⟨f1, t1, K1, q1, q2, q3, q4, q5⟩ := S
          have G1 := G.fr q3 (by omega)
          have K0 := K1
          obtain ⟨hN, k0, k1, k2⟩ := K1
          have G0 := G1
          obtain ⟨gN, r0, r1, r2, r3, r4, r5, r6⟩ := G1
          have hpn : p < n := by omega
          obtain ⟨hu1, hy1⟩ := y_small Y q4 hs
          have hyp := hy1 p hpn
          have hdl := dgr_le Y hpn
          have hd0 := dgr_pos Y hpn
          have hbg : dgr n a w p ≤ brf n a w κ p := bea_ge _ _
          have hbl : brf n a w κ p ≤ 2 * dgr n a w p + 1 := bea_le _ _
          repeat (first | refine hZ _ _ _ _ ⟨rfl, ?_⟩ | refine hZ _ _ _ _ ⟨_, _, (by repeat (first | exact up_s | assumption | refine up_n (by omega) ?_)), adl (by omega), (by rfl), ?_⟩ | refine hZ _ _ _ _ ⟨_, _, (by repeat (first | exact up_s | assumption | refine up_n (by omega) ?_)), adl (by omega), (by first | assumption | exact vp_in_nI (by omega) (by omega)), ?_⟩ | refine hZ _ _ _ _ ⟨_, (by repeat (first | exact up_s | assumption | refine up_n (by omega) ?_)), adl (by omega), (by rfl), trivial, ?_⟩ | refine hZ _ _ _ _ ⟨trivial, ?_⟩ | refine hZ _ _ _ _ ?_)
          refine ⟨fun c => absurd c (nI_ge (by omega) (by omega)), fun c => ?_⟩
          iterate 3 (first | refine hZ _ _ _ _ ⟨rfl, ?_⟩ | refine hZ _ _ _ _ ⟨_, _, (by repeat (first | exact up_s | assumption | refine up_n (by omega) ?_)), adl (by omega), (by rfl), ?_⟩ | refine hZ _ _ _ _ ⟨_, _, (by repeat (first | exact up_s | assumption | refine up_n (by omega) ?_)), adl (by omega), (by first | assumption | exact vp_in_nI (by omega) (by omega)), ?_⟩ | refine hZ _ _ _ _ ⟨_, (by repeat (first | exact up_s | assumption | refine up_n (by omega) ?_)), adl (by omega), (by rfl), trivial, ?_⟩ | refine hZ _ _ _ _ ⟨trivial, ?_⟩ | refine hZ _ _ _ _ ?_)
          show Z _ 39 _ _
          refine hZ _ _ _ _ ⟨⟨_, (by repeat (first | exact up_s | assumption | refine up_n (by omega) ?_))⟩, adl (by omega), rfl, ?_⟩
          refine c_Heaps_times (x := y p) (b := brf n a w κ p) (d := dgr n a w p) G0 K0 (by omega) (q1 p hpn) (vR p hpn) (vD p hpn) (by omega) (by omega) hd0 (by omega) ?_
          show Z _ 42 _ _
          by_cases hc : brf n a w κ p ≤ y p
          · rw [if_pos hc]
            have htq : (y p - brf n a w κ p) / dgr n a w p ≤ y p := Nat.le_trans (Nat.div_le_self _ _) (by omega)
            have hm1 : (y p - brf n a w κ p) / dgr n a w p * dgr n a w p ≤ y p - brf n a w κ p := Nat.div_mul_le_self _ _
            generalize (y p - brf n a w κ p) / dgr n a w p = tm at htq hm1
            repeat (first | refine hZ _ _ _ _ ⟨rfl, ?_⟩ | refine hZ _ _ _ _ ⟨_, _, (by repeat (first | exact up_s | assumption | refine up_n (by omega) ?_)), adl (by omega), (by rfl), ?_⟩ | refine hZ _ _ _ _ ⟨_, _, (by repeat (first | exact up_s | assumption | refine up_n (by omega) ?_)), adl (by omega), (by first | assumption | exact vp_in_nI (by omega) (by omega)), ?_⟩ | refine hZ _ _ _ _ ⟨_, (by repeat (first | exact up_s | assumption | refine up_n (by omega) ?_)), adl (by omega), (by rfl), trivial, ?_⟩ | refine hZ _ _ _ _ ⟨trivial, ?_⟩ | refine hZ _ _ _ _ ?_)
            refine ⟨fun c => absurd c (nI_nle (by omega) (by omega)), fun c => ?_⟩
            iterate 4 (first | refine hZ _ _ _ _ ⟨rfl, ?_⟩ | refine hZ _ _ _ _ ⟨_, _, (by repeat (first | exact up_s | assumption | refine up_n (by omega) ?_)), adl (by omega), (by rfl), ?_⟩ | refine hZ _ _ _ _ ⟨_, _, (by repeat (first | exact up_s | assumption | refine up_n (by omega) ?_)), adl (by omega), (by first | assumption | exact vp_in_nI (by omega) (by omega)), ?_⟩ | refine hZ _ _ _ _ ⟨_, (by repeat (first | exact up_s | assumption | refine up_n (by omega) ?_)), adl (by omega), (by rfl), trivial, ?_⟩ | refine hZ _ _ _ _ ⟨trivial, ?_⟩ | refine hZ _ _ _ _ ?_)
            show Z _ 55 _ _
            refine hZ _ _ _ _ ⟨⟨_, (by repeat (first | exact up_s | assumption | refine up_n (by omega) ?_))⟩, adl (by omega), rfl, ?_⟩
            refine c_Heaps_give (tm := tm + 1) (a := a) (d := dgr n a w) (x := y) G0 K0 hd hn hpn q1 (fun q hq => vB p q hpn hq) (Y.2.2.1 p hpn) (vD p hpn) (by rw [Nat.add_mul]; omega) (fun h2 f2 K2 hf2 F2 => ?_)
            show Z _ 58 _ _
            iterate 4 (first | refine hZ _ _ _ _ ⟨rfl, ?_⟩ | refine hZ _ _ _ _ ⟨_, _, (by repeat (first | exact up_s | assumption | refine up_n (by omega) ?_)), adl (by omega), (by rfl), ?_⟩ | refine hZ _ _ _ _ ⟨_, _, (by repeat (first | exact up_s | assumption | refine up_n (by omega) ?_)), adl (by omega), (by first | assumption | exact vp_in_nI (by omega) (by omega)), ?_⟩ | refine hZ _ _ _ _ ⟨_, (by repeat (first | exact up_s | assumption | refine up_n (by omega) ?_)), adl (by omega), (by rfl), trivial, ?_⟩ | refine hZ _ _ _ _ ⟨trivial, ?_⟩ | refine hZ _ _ _ _ ?_)
            show Z _ 26 _ _
            rw [nI_inc]
            refine ihi (p + 1) h2 (updN u p (u p + (tm + 1))) (tpl a (dgr n a w) y p (tm + 1)) 1 _ (by omega) ⟨f2, upd t1 p (t1 p + nI (tm + 1)), ?_, hf2, ?_, q3.tr F2, cfg_top hpn (Y.2.2.1 p hpn) (by rw [Nat.add_mul]; omega) q4, LA_top hpn (Y.2.2.1 p hpn) (by omega) q4 q5⟩ (Or.inl ⟨rfl, ?_⟩)
            · have e1 : fa + nI (sm (fun q => updN u p (u p + (tm + 1)) q * w q) n) = fa + nI (sm (fun q => u q * w q) n) + nI (tm + 1) * pit p := by
                rw [sm_upd hpn, vP p hpn, pk_mul, Int32.add_assoc, nI_add]
              have e2 : to + nI (sm (updN u p (u p + (tm + 1))) n) = to + nI (sm u n) + nI (tm + 1) := by
                rw [sm_updN hpn, Int32.add_assoc, nI_add]
              rw [e1, e2]
              exact K2
            · intro q hq
              by_cases e1 : q = p
              · subst e1
                rw [pk_us, q2 q hq, show updN u q (u q + (tm + 1)) q = u q + (tm + 1) from if_pos rfl, Int32.add_assoc, nI_add]
              · rw [pk_un e1, q2 q hq, show updN u p (u p + (tm + 1)) q = u q from if_neg e1]
            · rw [sm_updN hpn]
              omega
          · rw [if_neg hc]
            repeat (first | refine hZ _ _ _ _ ⟨rfl, ?_⟩ | refine hZ _ _ _ _ ⟨_, _, (by repeat (first | exact up_s | assumption | refine up_n (by omega) ?_)), adl (by omega), (by rfl), ?_⟩ | refine hZ _ _ _ _ ⟨_, _, (by repeat (first | exact up_s | assumption | refine up_n (by omega) ?_)), adl (by omega), (by first | assumption | exact vp_in_nI (by omega) (by omega)), ?_⟩ | refine hZ _ _ _ _ ⟨_, (by repeat (first | exact up_s | assumption | refine up_n (by omega) ?_)), adl (by omega), (by rfl), trivial, ?_⟩ | refine hZ _ _ _ _ ⟨trivial, ?_⟩ | refine hZ _ _ _ _ ?_)
            refine ⟨fun c => ?_, fun c => absurd (by decide) c⟩
            iterate 2 (first | refine hZ _ _ _ _ ⟨rfl, ?_⟩ | refine hZ _ _ _ _ ⟨_, _, (by repeat (first | exact up_s | assumption | refine up_n (by omega) ?_)), adl (by omega), (by rfl), ?_⟩ | refine hZ _ _ _ _ ⟨_, _, (by repeat (first | exact up_s | assumption | refine up_n (by omega) ?_)), adl (by omega), (by first | assumption | exact vp_in_nI (by omega) (by omega)), ?_⟩ | refine hZ _ _ _ _ ⟨_, (by repeat (first | exact up_s | assumption | refine up_n (by omega) ?_)), adl (by omega), (by rfl), trivial, ?_⟩ | refine hZ _ _ _ _ ⟨trivial, ?_⟩ | refine hZ _ _ _ _ ?_)
            show Z _ 26 _ _
            rw [nI_inc]
            refine ihi (p + 1) h1 u y m _ (by omega) S1 ?_
            rcases hm with e1 | ⟨e1, e4, e2⟩
            · exact Or.inl e1
            · refine Or.inr ⟨e1, e4, fun q hq => ?_⟩
              by_cases e3 : q = p
              · subst e3; omega
              · exact e2 q (by omega)
      have S1 := S0
      obtain ⟨f1, t1, K1, q1, q2, q3, q4, q5⟩ := S0
      have hb := bound Y.1 Y.2.1 q4 Y.2.2.2.2.2.2
      repeat (first | refine hZ _ _ _ _ ⟨rfl, ?_⟩ | refine hZ _ _ _ _ ⟨_, _, (by repeat (first | exact up_s | assumption | refine up_n (by omega) ?_)), adl (by omega), (by rfl), ?_⟩ | refine hZ _ _ _ _ ⟨_, _, (by repeat (first | exact up_s | assumption | refine up_n (by omega) ?_)), adl (by omega), (by first | assumption | exact vp_in_nI (by omega) (by omega)), ?_⟩ | refine hZ _ _ _ _ ⟨_, (by repeat (first | exact up_s | assumption | refine up_n (by omega) ?_)), adl (by omega), (by rfl), trivial, ?_⟩ | refine hZ _ _ _ _ ⟨trivial, ?_⟩ | refine hZ _ _ _ _ ?_)
      refine ⟨fun c => absurd c (by decide), fun c => ?_⟩
      repeat (first | refine hZ _ _ _ _ ⟨rfl, ?_⟩ | refine hZ _ _ _ _ ⟨_, _, (by repeat (first | exact up_s | assumption | refine up_n (by omega) ?_)), adl (by omega), (by rfl), ?_⟩ | refine hZ _ _ _ _ ⟨_, _, (by repeat (first | exact up_s | assumption | refine up_n (by omega) ?_)), adl (by omega), (by first | assumption | exact vp_in_nI (by omega) (by omega)), ?_⟩ | refine hZ _ _ _ _ ⟨_, (by repeat (first | exact up_s | assumption | refine up_n (by omega) ?_)), adl (by omega), (by rfl), trivial, ?_⟩ | refine hZ _ _ _ _ ⟨trivial, ?_⟩ | refine hZ _ _ _ _ ?_)
      refine ⟨fun c => absurd ((nI_leI (a := 1000000) (by omega) (by omega)).mp c) (by omega), fun c => ?_⟩
      iterate 4 (first | refine hZ _ _ _ _ ⟨rfl, ?_⟩ | refine hZ _ _ _ _ ⟨_, _, (by repeat (first | exact up_s | assumption | refine up_n (by omega) ?_)), adl (by omega), (by rfl), ?_⟩ | refine hZ _ _ _ _ ⟨_, _, (by repeat (first | exact up_s | assumption | refine up_n (by omega) ?_)), adl (by omega), (by first | assumption | exact vp_in_nI (by omega) (by omega)), ?_⟩ | refine hZ _ _ _ _ ⟨_, (by repeat (first | exact up_s | assumption | refine up_n (by omega) ?_)), adl (by omega), (by rfl), trivial, ?_⟩ | refine hZ _ _ _ _ ⟨trivial, ?_⟩ | refine hZ _ _ _ _ ?_)
      show Z _ 26 _ _
      exact inner n 0 h0 u0 y0 0 _ (by omega) S1 (Or.inr ⟨rfl, Nat.le_refl _, fun q hq => absurd hq (Nat.not_lt_zero q)⟩)
  have K0 := K
  obtain ⟨hN, k0, k1, k2⟩ := K
  iterate 7 (first | refine hZ _ _ _ _ ⟨rfl, ?_⟩ | refine hZ _ _ _ _ ⟨_, _, (by repeat (first | exact up_s | assumption | refine up_n (by omega) ?_)), adl (by omega), (by rfl), ?_⟩ | refine hZ _ _ _ _ ⟨_, _, (by repeat (first | exact up_s | assumption | refine up_n (by omega) ?_)), adl (by omega), (by first | assumption | exact vp_in_nI (by omega) (by omega)), ?_⟩ | refine hZ _ _ _ _ ⟨_, (by repeat (first | exact up_s | assumption | refine up_n (by omega) ?_)), adl (by omega), (by rfl), trivial, ?_⟩ | refine hZ _ _ _ _ ⟨trivial, ?_⟩ | refine hZ _ _ _ _ ?_)
  show Z _ 10 _ _
  refine outer (15 * sm x n + 1) 0 h (fun _ => 0) x _ _ (by omega) (Nat.zero_le _) ⟨f, t, ?_, hf, fun q _ => ?_, Fr.rf, cfg_0, LA_0⟩
  · rw [sm_zero, sm_congr (g := fun _ => 0) (fun i _ => Nat.zero_mul _), sm_zero, nI_0, Int32.add_zero, Int32.add_zero]
    exact K0
  · show t q = t q + nI 0
    rw [nI_0, Int32.add_zero]
