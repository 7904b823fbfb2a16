/-! ===== Readings.areAllSo ===== -/
noncomputable def cb (p : Prop) : Int32 := @ite Int32 p (Classical.propDecidable p) 1 0
theorem cb_t {p : Prop} (h : p) : cb p = 1 := if_pos h
theorem cb_f {p : Prop} (h : ¬ p) : cb p = 0 := if_neg h
theorem cb_congr {p q : Prop} (h : p ↔ q) : cb p = cb q := by
  by_cases e : p
  · rw [cb_t e, cb_t (h.mp e)]
  · rw [cb_f e, cb_f (fun z => e (h.mpr z))]
/-- one grain more on a place -/
def ad1 (x : Nat → Nat) (p : Nat) : Nat → Nat := fun q => x q + if q = p then 1 else 0
theorem sm_ad1 {n p : Nat} {x : Nat → Nat} (hp : p < n) : sm (ad1 x p) n = sm x n + 1 := by
  have : ∀ m, sm (fun q => if q = p then 1 else 0) m = if p < m then 1 else 0 := by
    intro m
    induction m with
    | zero => rfl
    | succ m ih =>
      show sm _ m + (if m = p then 1 else 0) = _
      rw [ih]
      by_cases e1 : m = p
      · subst e1; rw [if_neg (Nat.lt_irrefl m), if_pos rfl, if_pos (by omega)]
      · rw [if_neg e1]
        by_cases e2 : p < m
        · rw [if_pos e2, if_pos (by omega)]
        · rw [if_neg e2, if_neg (by omega)]
  unfold ad1
  rw [sm_add, this, if_pos hp]
/-- a spill of place p sets off t topplings -/
def SoR (n : Nat) (a : Nat → Nat → Nat) (w κ x : Nat → Nat) (p : Nat) (t : Int32) : Prop := ∃ u y, Stl n a (dgr n a w) (brf n a w κ) (ad1 x p) u y ∧ nI (sm u n) = t
def HpE (N : Nat) (h : AH) (k : Nat) : Prop := ∃ f t fa to, Hp N h k f t fa to
theorem HpE.fr {N : Nat} {h h' : AH} {k lo hi : Nat} (G : HpE N h k) (fr : Fr lo hi h h') (hd : k + 3 ≤ lo ∨ hi ≤ k) : HpE N h' k := by
  obtain ⟨f, t, fa, to, G⟩ := G
  exact ⟨f, t, fa, to, G.fr fr hd⟩
theorem brf_le {n : Nat} {a : Nat → Nat → Nat} {w κ : Nat → Nat} (Y : Yw n a w κ) {p : Nat} (hp : p < n) : brf n a w κ p ≤ 37 := by
  have h1 := bea_le (κ p) (dgr n a w p)
  have h2 := dgr_le Y hp
  show bea (κ p) (dgr n a w p) ≤ 37
  omega
theorem stl_small {n : Nat} {a : Nat → Nat → Nat} {w κ x u y : Nat → Nat} (Y : Yw n a w κ) (h : Stl n a (dgr n a w) (brf n a w κ) x u y) : sm y n ≤ 185 := by
  have h1 := sm_le (f := y) (n := n) (b := 37) (fun i hi => by have := h.2.1 i hi; have := brf_le Y hi; omega)
  have := Y.1
  omega
theorem SoR_iff {n : Nat} {a : Nat → Nat → Nat} {w κ x u y v z : Nat → Nat} {p : Nat} {t : Int32} (h1 : Stl n a (dgr n a w) (brf n a w κ) x u y) (h2 : Stl n a (dgr n a w) (brf n a w κ) (ad1 y p) v z) : SoR n a w κ x p t ↔ nI (sm u n) + nI (sm v n) = t := by
  have h3 := h1.then (g := fun q => if q = p then 1 else 0) h2
  rw [nI_add, ← sm_add]
  constructor
  · rintro ⟨u', y', h4, e⟩
    have := h3.uniq h4
    rw [sm_congr this.1]
    exact e
  · intro e
    exact ⟨_, z, h3, e⟩
set_option maxHeartbeats 2000000 in
theorem c_Readings_areAllSo {l : Launch} {N : Nat} {h : AH} {g k r n cn : Nat} {B : Nat → Nat → Int32} {pit kind deg brs : Nat → Int32} {f t pc td : Nat → Int32} {fa to : Int32} {a : Nat → Nat → Nat} {w κ x pl : Nat → Nat} {P : Option Value → AH → Prop} (G : Gd N h g (nI n) B pit kind deg brs) (V : Gv n a w κ B pit kind deg brs) (Y : Yw n a w κ) (K : Hp N h k f t fa to) (R : Rd N h r pc td (nI cn)) (K1 : HpE N h (r + 3)) (K2 : HpE N h (r + 6))
    (hd1 : r + 9 ≤ g ∨ g + 11 ≤ r) (hd2 : r + 9 ≤ k ∨ k + 3 ≤ r) (hf : ∀ q, q < n → f q = nI (x q)) (hs : sm x n ≤ 66666) (hcn : cn ≤ 8) (hpl : ∀ j, j < cn → pc j = nI (pl j) ∧ pl j < n)
    (hp : ∀ h', HpE N h' (r + 3) → HpE N h' (r + 6) → Fr (r + 3) (r + 9) h h' → P (some (.int (cb (∀ j, j < cn → SoR n a w κ x (pl j) (td j))))) h') : Sem l QX3_areAllSo N h [.ref r, .ref g, .ref k] P := by
  have hn := Y.1
  have R0 := R
  obtain ⟨rN, c0, c1, c2⟩ := R
  obtain ⟨f1, t1, fa1, to1, K1⟩ := K1
  refine iX3_areAllSo rfl ?_
  intro Z hZ
  iterate 3 (first | refine hZ _ _ _ _ ⟨rfl, ?_⟩ | refine hZ _ _ _ _ ⟨_, _, (by repeat (first | exact up_s | assumption | refine up_n (by omega) ?_)), adl (by omega), (by rfl), ?_⟩ | refine hZ _ _ _ _ ⟨_, _, (by repeat (first | exact up_s | assumption | refine up_n (by omega) ?_)), adl (by omega), (by first | assumption | exact vp_in_nI (by omega) (by omega)), ?_⟩ | refine hZ _ _ _ _ ⟨_, (by repeat (first | exact up_s | assumption | refine up_n (by omega) ?_)), adl (by omega), (by rfl), trivial, ?_⟩ | refine hZ _ _ _ _ ⟨trivial, ?_⟩ | refine hZ _ _ _ _ ?_)
  show Z _ 5 _ _
  have K1' := K1
  obtain ⟨-, i0, i1, i2⟩ := K1'
  refine hZ _ _ _ _ ⟨⟨_, (by repeat (first | exact up_s | assumption | refine up_n (by omega) ?_))⟩, adl (by omega), rfl, ?_⟩
  refine c_Heaps_startFrom K1 K (by omega) (fun h2 f2 t2 K3 ef et F2 => ?_)
  show Z _ 8 _ _
  have R2 := R0.fr F2 (by omega)
  obtain ⟨-, d0, d1, d2⟩ := R2
  have K3' := K3
  obtain ⟨-, j0, j1, j2⟩ := K3'
  iterate 3 (first | refine hZ _ _ _ _ ⟨rfl, ?_⟩ | refine hZ _ _ _ _ ⟨_, _, (by repeat (first | exact up_s | assumption | refine up_n (by omega) ?_)), adl (by omega), (by rfl), ?_⟩ | refine hZ _ _ _ _ ⟨_, _, (by repeat (first | exact up_s | assumption | refine up_n (by omega) ?_)), adl (by omega), (by first | assumption | exact vp_in_nI (by omega) (by omega)), ?_⟩ | refine hZ _ _ _ _ ⟨_, (by repeat (first | exact up_s | assumption | refine up_n (by omega) ?_)), adl (by omega), (by rfl), trivial, ?_⟩ | refine hZ _ _ _ _ ⟨trivial, ?_⟩ | refine hZ _ _ _ _ ?_)
  show Z _ 13 _ _
  refine hZ _ _ _ _ ⟨⟨_, (by repeat (first | exact up_s | assumption | refine up_n (by omega) ?_))⟩, adl (by omega), rfl, ?_⟩
  refine c_Heaps_settle (x := x) (G.fr F2 (by omega)) V Y K3 (by omega) (fun q hq => (ef q (by omega)).trans (hf q hq)) hs (fun h3 f3 t3 u y hst K4 hf3 ht3 F3 => ?_)
  show Z _ 16 _ _
  have F03 := (F2.tr F3)
  have y37 := stl_small Y hst
  have loop : ∀ e j h4, j + e = cn → (∀ i, i < j → SoR n a w κ x (pl i) (td i)) → Hp N h4 (r + 3) f3 t3 (0 + nI (sm (fun q => u q * w q) n)) (0 + nI (sm u n)) → HpE N h4 (r + 6) → Fr (r + 3) (r + 9) h h4 → Z h4 20 [some (.ref r), some (.ref g), some (.ref k), some (.int (nI (sm u n))), some (.int (nI j))] [] := by
    intro e
    induction e with
    | zero =>
      intro j h4 hj hso K5 K6 F4
      obtain ⟨-, e0, e1, e2⟩ := R0.fr F4 (by omega)
      repeat (first | refine hZ _ _ _ _ ⟨rfl, ?_⟩ | refine hZ _ _ _ _ ⟨_, _, (by repeat (first | exact up_s | assumption | refine up_n (by omega) ?_)), adl (by omega), (by rfl), ?_⟩ | refine hZ _ _ _ _ ⟨_, _, (by repeat (first | exact up_s | assumption | refine up_n (by omega) ?_)), adl (by omega), (by first | assumption | exact vp_in_nI (by omega) (by omega)), ?_⟩ | refine hZ _ _ _ _ ⟨_, (by repeat (first | exact up_s | assumption | refine up_n (by omega) ?_)), adl (by omega), (by rfl), trivial, ?_⟩ | refine hZ _ _ _ _ ⟨trivial, ?_⟩ | refine hZ _ _ _ _ ?_)
      refine ⟨fun c => ?_, fun c => absurd (nI_le (by omega) (by omega)) c⟩
      repeat (first | refine hZ _ _ _ _ ⟨rfl, ?_⟩ | refine hZ _ _ _ _ ⟨_, _, (by repeat (first | exact up_s | assumption | refine up_n (by omega) ?_)), adl (by omega), (by rfl), ?_⟩ | refine hZ _ _ _ _ ⟨_, _, (by repeat (first | exact up_s | assumption | refine up_n (by omega) ?_)), adl (by omega), (by first | assumption | exact vp_in_nI (by omega) (by omega)), ?_⟩ | refine hZ _ _ _ _ ⟨_, (by repeat (first | exact up_s | assumption | refine up_n (by omega) ?_)), adl (by omega), (by rfl), trivial, ?_⟩ | refine hZ _ _ _ _ ⟨trivial, ?_⟩ | refine hZ _ _ _ _ ?_)
      have := hp h4 ⟨_, _, _, _, K5⟩ K6 F4
      rw [cb_t (fun i hi => hso i (by omega))] at this
      exact this
    | succ e ih =>
      intro j h4 hj hso K5 K6 F4
      have R4 := R0.fr F4 (by omega)
      have hR4 := R4
      obtain ⟨-, e0, e1, e2⟩ := R4
      obtain ⟨hpj, hpn⟩ := hpl j (by omega)
      obtain ⟨f6, t6, fa6, to6, K6⟩ := K6
      have K6' := K6
      obtain ⟨-, l0, l1, l2⟩ := K6'
      repeat (first | refine hZ _ _ _ _ ⟨rfl, ?_⟩ | refine hZ _ _ _ _ ⟨_, _, (by repeat (first | exact up_s | assumption | refine up_n (by omega) ?_)), adl (by omega), (by rfl), ?_⟩ | refine hZ _ _ _ _ ⟨_, _, (by repeat (first | exact up_s | assumption | refine up_n (by omega) ?_)), adl (by omega), (by first | assumption | exact vp_in_nI (by omega) (by omega)), ?_⟩ | refine hZ _ _ _ _ ⟨_, (by repeat (first | exact up_s | assumption | refine up_n (by omega) ?_)), adl (by omega), (by rfl), trivial, ?_⟩ | refine hZ _ _ _ _ ⟨trivial, ?_⟩ | refine hZ _ _ _ _ ?_)
      refine ⟨fun c => absurd c (nI_ge (by omega) (by omega)), fun c => ?_⟩
      iterate 4 (first | refine hZ _ _ _ _ ⟨rfl, ?_⟩ | refine hZ _ _ _ _ ⟨_, _, (by repeat (first | exact up_s | assumption | refine up_n (by omega) ?_)), adl (by omega), (by rfl), ?_⟩ | refine hZ _ _ _ _ ⟨_, _, (by repeat (first | exact up_s | assumption | refine up_n (by omega) ?_)), adl (by omega), (by first | assumption | exact vp_in_nI (by omega) (by omega)), ?_⟩ | refine hZ _ _ _ _ ⟨_, (by repeat (first | exact up_s | assumption | refine up_n (by omega) ?_)), adl (by omega), (by rfl), trivial, ?_⟩ | refine hZ _ _ _ _ ⟨trivial, ?_⟩ | refine hZ _ _ _ _ ?_)
      show Z _ 37 _ _
      refine hZ _ _ _ _ ⟨⟨_, (by repeat (first | exact up_s | assumption | refine up_n (by omega) ?_))⟩, adl (by omega), rfl, ?_⟩
      refine c_Heaps_startFrom K6 K5 (by omega) (fun h5 f5 t5 K7 ef5 et5 F5 => ?_)
      show Z _ 40 _ _
      have F45 := F4.tr (F5.wide (by omega) (by omega))
      have K7' := K7
      obtain ⟨-, m0, m1, m2⟩ := K7'
      obtain ⟨-, n0, n1, n2⟩ := hR4.fr F5 (by omega)
      have vpl : vp_in (pc (nI j).toNatClampNeg) 5 := by
        rw [nI_clamp (by omega), hpj]
        exact vp_in_nI (by omega) (by omega)
      iterate 16 (first | refine hZ _ _ _ _ ⟨rfl, ?_⟩ | refine hZ _ _ _ _ ⟨_, _, (by repeat (first | exact up_s | assumption | refine up_n (by omega) ?_)), adl (by omega), (by rfl), ?_⟩ | refine hZ _ _ _ _ ⟨_, _, (by repeat (first | exact up_s | assumption | refine up_n (by omega) ?_)), adl (by omega), (by first | assumption | exact vp_in_nI (by omega) (by omega)), ?_⟩ | refine hZ _ _ _ _ ⟨_, (by repeat (first | exact up_s | assumption | refine up_n (by omega) ?_)), adl (by omega), (by rfl), trivial, ?_⟩ | refine hZ _ _ _ _ ⟨trivial, ?_⟩ | refine hZ _ _ _ _ ?_)
      show Z _ 65 _ _
      rw [nI_clamp (by omega), hpj, nI_clamp (by omega), ef5 (pl j) (by omega), hf3 (pl j) hpn, nI_inc]
      refine hZ _ _ _ _ ⟨⟨_, (by repeat (first | exact up_s | assumption | refine up_n (by omega) ?_))⟩, adl (by omega), rfl, ?_⟩
      have K8 : Hp N (va_up h5 (r + 6 + 1) (.inl (0, 5, .inl (upd f5 (pl j) (nI (y (pl j) + 1)))))) (r + 6) (upd f5 (pl j) (nI (y (pl j) + 1))) t5 0 0 := ⟨by omega, (by repeat (first | exact up_s | assumption | refine up_n (by omega) ?_)), (by repeat (first | exact up_s | assumption | refine up_n (by omega) ?_)), (by repeat (first | exact up_s | assumption | refine up_n (by omega) ?_))⟩
      have F6 : Fr (r + 3) (r + 9) h (va_up h5 (r + 6 + 1) (.inl (0, 5, .inl (upd f5 (pl j) (nI (y (pl j) + 1)))))) := F45.up (by omega) (by omega)
      refine c_Heaps_settle (x := ad1 y (pl j)) (G.fr F6 (by omega)) V Y K8 (by omega) (fun q hq => ?_) (by rw [sm_ad1 hpn]; omega) (fun h7 f7 t7 v z hst2 K9 hf7 ht7 F7 => ?_)
      · show _ = nI (y q + if q = pl j then 1 else 0)
        by_cases e9 : q = pl j
        · rw [upd_s e9, if_pos e9, e9]
        · rw [pk_un e9, if_neg e9, ef5 q (by omega), hf3 q hq]; rfl
      · show Z _ 68 _ _
        have F8 := F6.tr (F7.wide (by omega) (by omega))
        obtain ⟨-, p0, p1, p2⟩ := R0.fr F8 (by omega)
        repeat (first | refine hZ _ _ _ _ ⟨rfl, ?_⟩ | refine hZ _ _ _ _ ⟨_, _, (by repeat (first | exact up_s | assumption | refine up_n (by omega) ?_)), adl (by omega), (by rfl), ?_⟩ | refine hZ _ _ _ _ ⟨_, _, (by repeat (first | exact up_s | assumption | refine up_n (by omega) ?_)), adl (by omega), (by first | assumption | exact vp_in_nI (by omega) (by omega)), ?_⟩ | refine hZ _ _ _ _ ⟨_, (by repeat (first | exact up_s | assumption | refine up_n (by omega) ?_)), adl (by omega), (by rfl), trivial, ?_⟩ | refine hZ _ _ _ _ ⟨trivial, ?_⟩ | refine hZ _ _ _ _ ?_)
        rw [nI_clamp (by omega)]
        have hiff := SoR_iff (t := td j) hst hst2
        have F58 : Fr (r + 6) (r + 9) h4 h7 := (F5.tr (Fr.rf.up (by omega) (by omega))).tr F7
        refine ⟨fun c => ?_, fun c => ?_⟩
        · iterate 2 (first | refine hZ _ _ _ _ ⟨rfl, ?_⟩ | refine hZ _ _ _ _ ⟨_, _, (by repeat (first | exact up_s | assumption | refine up_n (by omega) ?_)), adl (by omega), (by rfl), ?_⟩ | refine hZ _ _ _ _ ⟨_, _, (by repeat (first | exact up_s | assumption | refine up_n (by omega) ?_)), adl (by omega), (by first | assumption | exact vp_in_nI (by omega) (by omega)), ?_⟩ | refine hZ _ _ _ _ ⟨_, (by repeat (first | exact up_s | assumption | refine up_n (by omega) ?_)), adl (by omega), (by rfl), trivial, ?_⟩ | refine hZ _ _ _ _ ⟨trivial, ?_⟩ | refine hZ _ _ _ _ ?_)
          show Z _ 20 _ _
          rw [nI_inc]
          refine ih (j + 1) h7 (by omega) (fun i hi => ?_) (K5.fr F58 (by omega)) ⟨_, _, _, _, K9⟩ F8
          by_cases e9 : i = j
          · rw [e9]; exact hiff.mpr c
          · exact hso i (by omega)
        · repeat (first | refine hZ _ _ _ _ ⟨rfl, ?_⟩ | refine hZ _ _ _ _ ⟨_, _, (by repeat (first | exact up_s | assumption | refine up_n (by omega) ?_)), adl (by omega), (by rfl), ?_⟩ | refine hZ _ _ _ _ ⟨_, _, (by repeat (first | exact up_s | assumption | refine up_n (by omega) ?_)), adl (by omega), (by first | assumption | exact vp_in_nI (by omega) (by omega)), ?_⟩ | refine hZ _ _ _ _ ⟨_, (by repeat (first | exact up_s | assumption | refine up_n (by omega) ?_)), adl (by omega), (by rfl), trivial, ?_⟩ | refine hZ _ _ _ _ ⟨trivial, ?_⟩ | refine hZ _ _ _ _ ?_)
          have := hp h7 ⟨_, _, _, _, K5.fr F58 (by omega)⟩ ⟨_, _, _, _, K9⟩ F8
          rw [cb_f (fun z => c (hiff.mp (z j (by omega))))] at this
          exact this
  iterate 3 (first | refine hZ _ _ _ _ ⟨rfl, ?_⟩ | refine hZ _ _ _ _ ⟨_, _, (by repeat (first | exact up_s | assumption | refine up_n (by omega) ?_)), adl (by omega), (by rfl), ?_⟩ | refine hZ _ _ _ _ ⟨_, _, (by repeat (first | exact up_s | assumption | refine up_n (by omega) ?_)), adl (by omega), (by first | assumption | exact vp_in_nI (by omega) (by omega)), ?_⟩ | refine hZ _ _ _ _ ⟨_, (by repeat (first | exact up_s | assumption | refine up_n (by omega) ?_)), adl (by omega), (by rfl), trivial, ?_⟩ | refine hZ _ _ _ _ ⟨trivial, ?_⟩ | refine hZ _ _ _ _ ?_)
  show Z _ 20 _ _
  exact loop cn 0 h3 (by omega) (fun i hi => absurd hi (Nat.not_lt_zero i)) K4 (K2.fr F03 (by omega)) (F03.wide (by omega) (by omega))
