/-! ===== the class: over and over again, odds ===== -/
theorem dgr_15 {n : Nat} {a : Nat → Nat → Nat} {w κ : Nat → Nat} (Y : Yw n a w κ) {p : Nat} (hp : p < n) : dgr n a w p ≤ 15 := by
  have h1 := sm_upd (n := n) (p := p) (t := 3) (u := a p) (c := fun _ => 1) hp
  have h2 := sm_le (f := fun r => updN (a p) p (a p p + 3) r * 1) (n := n) (b := 3) (fun i hi => by
    have := Y.2.2.2.1 p i hp hi
    have := Y.2.2.1 p hp
    unfold updN
    split <;> omega)
  have h3 : sm (fun r => a p r * 1) n = sm (a p) n := sm_congr (fun i _ => Nat.mul_one _)
  have h4 := Y.2.2.2.2.1 p hp
  have h5 := Y.1
  rw [h3] at h1
  unfold dgr
  omega
theorem brf_30 {n : Nat} {a : Nat → Nat → Nat} {w κ : Nat → Nat} (Y : Yw n a w κ) {p : Nat} (hp : p < n) : brf n a w κ p ≤ 30 := by
  have h1 := dgr_15 Y hp
  have h2 := dgr_pos Y hp
  show bea _ _ ≤ 30
  unfold bea
  split
  · omega
  · split <;> omega
noncomputable def agn (n : Nat) (a : Nat → Nat → Nat) (w κ x : Nat → Nat) (p : Nat) : Nat → Nat → Nat
  | 0 => (odo n a w κ x).2
  | i + 1 => (odo n a w κ (ad1 (agn n a w κ x p i) p)).2
def fsn (s : Nat → Nat) (last : Nat) : Nat → Nat → Nat
  | 0, k => k
  | e + 1, k => if s k = s last then k else fsn s last e (k + 1)
def agr (s : Nat → Nat) (v : Nat) : Nat → Nat → Int32
  | 0, _ => -9
  | e + 1, g => if fsn s g g 0 < g then (if v = 0 then nI (fsn s g g 0) else nI (g - fsn s g g 0)) else agr s v e (g + 1)
theorem fsn_le {s : Nat → Nat} {last : Nat} : ∀ {e k : Nat}, fsn s last e k ≤ k + e
  | 0, k => Nat.le_refl _
  | e + 1, k => by
    show (if _ then _ else _) ≤ _
    split
    · omega
    · have := fsn_le (s := s) (last := last) (e := e) (k := k + 1)
      omega
noncomputable def S_again (s : St) (p v : Int32) : Int32 := match s with
  | ((n, a, w, κ), (x, _, _, _), _, _, _, _) => if inb p n = false then -1 else if inb v 2 = false then -2 else agr (fun i => pck (agn n a w κ x p.toNatClampNeg i) n) v.toNatClampNeg 500 1
theorem c_firstSeen {l : Launch} {h : AH} {g d k e G : Nat} {tr fl : Int32} {sn : Nat → Int32} {s : Nat → Nat} {P : Option Value → AH → Prop} (o : Obj h g d k e tr fl) (hs : h 24 = .inl (0, 501, .inl sn)) (hG : G ≤ 500) (hv : ∀ j, j ≤ G → sn j = nI (s j)) (hb : ∀ j, j ≤ G → s j < 2 ^ 31) (hp : P (some (.int (nI (fsn s G G 0)))) h) : Sem l QX6_firstSeen 82 h [.ref 0, .int (nI G)] P := by
  unfold Obj at o
  refine iX6_firstSeen rfl ?_
  intro Z hZ
  have loop : ∀ e k, k + e = G → P (some (.int (nI (fsn s G e k)))) h → Z h 2 [some (.ref 0), some (.int (nI G)), some (.int (nI k))] [] := by
    intro e
    induction e with
    | zero =>
      intro k hk hp
      repeat (first | refine hZ _ _ _ _ ⟨rfl, ?_⟩ | refine hZ _ _ _ _ ⟨_, _, (by repeat (first | exact up_s | assumption | refine up_n (by omega) ?_)), adl (by omega), (by rfl), ?_⟩ | refine hZ _ _ _ _ ⟨_, _, (by repeat (first | exact up_s | assumption | refine up_n (by omega) ?_)), adl (by omega), (by first | assumption | exact vp_in_nI (by omega) (by omega)), ?_⟩ | refine hZ _ _ _ _ ⟨_, (by repeat (first | exact up_s | assumption | refine up_n (by omega) ?_)), adl (by omega), (by rfl), trivial, ?_⟩ | refine hZ _ _ _ _ ⟨trivial, ?_⟩ | refine hZ _ _ _ _ ⟨_, _, _, _, (by repeat (first | exact up_s | assumption | refine up_n (by omega) ?_)), (by first | exact Or.inr (Or.inr rfl) | exact Or.inr (Or.inl rfl) | exact Or.inl rfl), adl (by omega), (by first | assumption | exact vp_in_nI (by omega) (by omega)), rowsF_at (by omega), ?_⟩ | refine hZ _ _ _ _ ?_)
      refine ⟨fun c => ?_, fun c => absurd (nI_le (by omega) (by omega)) c⟩
      repeat (first | refine hZ _ _ _ _ ⟨rfl, ?_⟩ | refine hZ _ _ _ _ ⟨_, _, (by repeat (first | exact up_s | assumption | refine up_n (by omega) ?_)), adl (by omega), (by rfl), ?_⟩ | refine hZ _ _ _ _ ⟨_, _, (by repeat (first | exact up_s | assumption | refine up_n (by omega) ?_)), adl (by omega), (by first | assumption | exact vp_in_nI (by omega) (by omega)), ?_⟩ | refine hZ _ _ _ _ ⟨_, (by repeat (first | exact up_s | assumption | refine up_n (by omega) ?_)), adl (by omega), (by rfl), trivial, ?_⟩ | refine hZ _ _ _ _ ⟨trivial, ?_⟩ | refine hZ _ _ _ _ ⟨_, _, _, _, (by repeat (first | exact up_s | assumption | refine up_n (by omega) ?_)), (by first | exact Or.inr (Or.inr rfl) | exact Or.inr (Or.inl rfl) | exact Or.inl rfl), adl (by omega), (by first | assumption | exact vp_in_nI (by omega) (by omega)), rowsF_at (by omega), ?_⟩ | refine hZ _ _ _ _ ?_)
      exact hp
    | succ e ih =>
      intro k hk hp
      repeat (first | refine hZ _ _ _ _ ⟨rfl, ?_⟩ | refine hZ _ _ _ _ ⟨_, _, (by repeat (first | exact up_s | assumption | refine up_n (by omega) ?_)), adl (by omega), (by rfl), ?_⟩ | refine hZ _ _ _ _ ⟨_, _, (by repeat (first | exact up_s | assumption | refine up_n (by omega) ?_)), adl (by omega), (by first | assumption | exact vp_in_nI (by omega) (by omega)), ?_⟩ | refine hZ _ _ _ _ ⟨_, (by repeat (first | exact up_s | assumption | refine up_n (by omega) ?_)), adl (by omega), (by rfl), trivial, ?_⟩ | refine hZ _ _ _ _ ⟨trivial, ?_⟩ | refine hZ _ _ _ _ ⟨_, _, _, _, (by repeat (first | exact up_s | assumption | refine up_n (by omega) ?_)), (by first | exact Or.inr (Or.inr rfl) | exact Or.inr (Or.inl rfl) | exact Or.inl rfl), adl (by omega), (by first | assumption | exact vp_in_nI (by omega) (by omega)), rowsF_at (by omega), ?_⟩ | refine hZ _ _ _ _ ?_)
      refine ⟨fun c => absurd c (nI_ge (by omega) (by omega)), fun c => ?_⟩
      repeat (first | refine hZ _ _ _ _ ⟨rfl, ?_⟩ | refine hZ _ _ _ _ ⟨_, _, (by repeat (first | exact up_s | assumption | refine up_n (by omega) ?_)), adl (by omega), (by rfl), ?_⟩ | refine hZ _ _ _ _ ⟨_, _, (by repeat (first | exact up_s | assumption | refine up_n (by omega) ?_)), adl (by omega), (by first | assumption | exact vp_in_nI (by omega) (by omega)), ?_⟩ | refine hZ _ _ _ _ ⟨_, (by repeat (first | exact up_s | assumption | refine up_n (by omega) ?_)), adl (by omega), (by rfl), trivial, ?_⟩ | refine hZ _ _ _ _ ⟨trivial, ?_⟩ | refine hZ _ _ _ _ ⟨_, _, _, _, (by repeat (first | exact up_s | assumption | refine up_n (by omega) ?_)), (by first | exact Or.inr (Or.inr rfl) | exact Or.inr (Or.inl rfl) | exact Or.inl rfl), adl (by omega), (by first | assumption | exact vp_in_nI (by omega) (by omega)), rowsF_at (by omega), ?_⟩ | refine hZ _ _ _ _ ?_)
      rw [nI_clamp (by omega), nI_clamp (by omega), hv k (by omega), hv G (by omega)]
      by_cases hc : s k = s G
      · rw [show fsn s G (e + 1) k = k from if_pos hc] at hp
        refine ⟨fun c => ?_, fun c => absurd (by rw [hc]) c⟩
        repeat (first | refine hZ _ _ _ _ ⟨rfl, ?_⟩ | refine hZ _ _ _ _ ⟨_, _, (by repeat (first | exact up_s | assumption | refine up_n (by omega) ?_)), adl (by omega), (by rfl), ?_⟩ | refine hZ _ _ _ _ ⟨_, _, (by repeat (first | exact up_s | assumption | refine up_n (by omega) ?_)), adl (by omega), (by first | assumption | exact vp_in_nI (by omega) (by omega)), ?_⟩ | refine hZ _ _ _ _ ⟨_, (by repeat (first | exact up_s | assumption | refine up_n (by omega) ?_)), adl (by omega), (by rfl), trivial, ?_⟩ | refine hZ _ _ _ _ ⟨trivial, ?_⟩ | refine hZ _ _ _ _ ⟨_, _, _, _, (by repeat (first | exact up_s | assumption | refine up_n (by omega) ?_)), (by first | exact Or.inr (Or.inr rfl) | exact Or.inr (Or.inl rfl) | exact Or.inl rfl), adl (by omega), (by first | assumption | exact vp_in_nI (by omega) (by omega)), rowsF_at (by omega), ?_⟩ | refine hZ _ _ _ _ ?_)
        exact hp
      · rw [show fsn s G (e + 1) k = fsn s G e (k + 1) from if_neg hc] at hp
        refine ⟨fun c => absurd ((nI_eq (hb k (by omega)) (hb G (by omega))).mp c) hc, fun c => ?_⟩
        iterate 2 (first | refine hZ _ _ _ _ ⟨rfl, ?_⟩ | refine hZ _ _ _ _ ⟨_, _, (by repeat (first | exact up_s | assumption | refine up_n (by omega) ?_)), adl (by omega), (by rfl), ?_⟩ | refine hZ _ _ _ _ ⟨_, _, (by repeat (first | exact up_s | assumption | refine up_n (by omega) ?_)), adl (by omega), (by first | assumption | exact vp_in_nI (by omega) (by omega)), ?_⟩ | refine hZ _ _ _ _ ⟨_, (by repeat (first | exact up_s | assumption | refine up_n (by omega) ?_)), adl (by omega), (by rfl), trivial, ?_⟩ | refine hZ _ _ _ _ ⟨trivial, ?_⟩ | refine hZ _ _ _ _ ⟨_, _, _, _, (by repeat (first | exact up_s | assumption | refine up_n (by omega) ?_)), (by first | exact Or.inr (Or.inr rfl) | exact Or.inr (Or.inl rfl) | exact Or.inl rfl), adl (by omega), (by first | assumption | exact vp_in_nI (by omega) (by omega)), rowsF_at (by omega), ?_⟩ | refine hZ _ _ _ _ ?_)
        show Z _ 2 _ _
        rw [nI_inc]
        exact ih (k + 1) (by omega) hp
  iterate 2 (first | refine hZ _ _ _ _ ⟨rfl, ?_⟩ | refine hZ _ _ _ _ ⟨_, _, (by repeat (first | exact up_s | assumption | refine up_n (by omega) ?_)), adl (by omega), (by rfl), ?_⟩ | refine hZ _ _ _ _ ⟨_, _, (by repeat (first | exact up_s | assumption | refine up_n (by omega) ?_)), adl (by omega), (by first | assumption | exact vp_in_nI (by omega) (by omega)), ?_⟩ | refine hZ _ _ _ _ ⟨_, (by repeat (first | exact up_s | assumption | refine up_n (by omega) ?_)), adl (by omega), (by rfl), trivial, ?_⟩ | refine hZ _ _ _ _ ⟨trivial, ?_⟩ | refine hZ _ _ _ _ ⟨_, _, _, _, (by repeat (first | exact up_s | assumption | refine up_n (by omega) ?_)), (by first | exact Or.inr (Or.inr rfl) | exact Or.inr (Or.inl rfl) | exact Or.inl rfl), adl (by omega), (by first | assumption | exact vp_in_nI (by omega) (by omega)), rowsF_at (by omega), ?_⟩ | refine hZ _ _ _ _ ?_)
  show Z _ 2 _ _
  exact loop G 0 (by omega) hp
theorem lb500 : (Int16.ofInt 500).toInt32 = nI 500 := by decide
set_option maxHeartbeats 2000000 in
theorem C_again {l : Launch} {h : AH} {s : St} {p v : Int32} {P : Option Value → AH → Prop} (C : CY h s) (O : Ok s) (hx : sm s.2.1.1 s.1.1 ≤ 66666) (hp : ∀ h', Fr 0 61 h h' → CY h' s → P (some (.int (S_again s p v))) h') : Sem l QX6_again 82 h [.ref 0, .int p, .int v] P := by
  have CY0 := C
  obtain ⟨⟨n, a, w, κ⟩, ⟨x, tp, fa, to⟩, ⟨cn, pl, td⟩, ⟨z, m, c⟩, tr, fl⟩ := s
  obtain ⟨g, d, k, e, C⟩ := C
  have CC0 := C
  obtain ⟨c0, c1, c2, c3, c4, c5, c6, c7, c8⟩ := C
  obtain ⟨o1, o2, o3⟩ := O
  have G1 := c5
  unfold Wh at c0
  unfold Obj at c1
  obtain ⟨f, t, K, hf, ht⟩ := c7
  obtain ⟨s4a, s4b, ⟨fT, tT, faT, toT, KT⟩, sn, s4d⟩ := c4
  have kT := KT.2.1
  obtain ⟨B, pit, kind, deg, brs, G, hdi, V⟩ := c5
  have g0 := G.2.1
  refine iX6_again rfl ?_
  intro Z hZ
  unfold S_again at hp
  dsimp only at hp hx
  iterate 3 (first | refine hZ _ _ _ _ ⟨rfl, ?_⟩ | refine hZ _ _ _ _ ⟨_, _, (by repeat (first | exact up_s | assumption | refine up_n (by omega) ?_)), adl (by omega), (by rfl), ?_⟩ | refine hZ _ _ _ _ ⟨_, _, (by repeat (first | exact up_s | assumption | refine up_n (by omega) ?_)), adl (by omega), (by first | assumption | exact vp_in_nI (by omega) (by omega)), ?_⟩ | refine hZ _ _ _ _ ⟨_, (by repeat (first | exact up_s | assumption | refine up_n (by omega) ?_)), adl (by omega), (by rfl), trivial, ?_⟩ | refine hZ _ _ _ _ ⟨trivial, ?_⟩ | refine hZ _ _ _ _ ⟨_, _, _, _, (by repeat (first | exact up_s | assumption | refine up_n (by omega) ?_)), (by first | exact Or.inr (Or.inr rfl) | exact Or.inr (Or.inl rfl) | exact Or.inl rfl), adl (by omega), (by first | assumption | exact vp_in_nI (by omega) (by omega)), rowsF_at (by omega), ?_⟩ | refine hZ _ _ _ _ ?_)
  show Z _ 5 _ _
  refine hZ _ _ _ _ ⟨⟨_, (by repeat (first | exact up_s | assumption | refine up_n (by omega) ?_))⟩, adl (by omega), rfl, ?_⟩
  refine c_isPl G1 o2 ?_
  show Z _ 8 _ _
  rcases inb_of (v := p) (n := n) (by omega) with ⟨h1, h2⟩ | ⟨h1, j, h2, h3⟩
  · rw [h1]
    rw [if_pos h1] at hp
    repeat (first | refine hZ _ _ _ _ ⟨rfl, ?_⟩ | refine hZ _ _ _ _ ⟨_, _, (by repeat (first | exact up_s | assumption | refine up_n (by omega) ?_)), adl (by omega), (by rfl), ?_⟩ | refine hZ _ _ _ _ ⟨_, _, (by repeat (first | exact up_s | assumption | refine up_n (by omega) ?_)), adl (by omega), (by first | assumption | exact vp_in_nI (by omega) (by omega)), ?_⟩ | refine hZ _ _ _ _ ⟨_, (by repeat (first | exact up_s | assumption | refine up_n (by omega) ?_)), adl (by omega), (by rfl), trivial, ?_⟩ | refine hZ _ _ _ _ ⟨trivial, ?_⟩ | refine hZ _ _ _ _ ⟨_, _, _, _, (by repeat (first | exact up_s | assumption | refine up_n (by omega) ?_)), (by first | exact Or.inr (Or.inr rfl) | exact Or.inr (Or.inl rfl) | exact Or.inl rfl), adl (by omega), (by first | assumption | exact vp_in_nI (by omega) (by omega)), rowsF_at (by omega), ?_⟩ | refine hZ _ _ _ _ ?_)
    refine ⟨fun c9 => absurd rfl c9, fun c9 => ?_⟩
    repeat (first | refine hZ _ _ _ _ ⟨rfl, ?_⟩ | refine hZ _ _ _ _ ⟨_, _, (by repeat (first | exact up_s | assumption | refine up_n (by omega) ?_)), adl (by omega), (by rfl), ?_⟩ | refine hZ _ _ _ _ ⟨_, _, (by repeat (first | exact up_s | assumption | refine up_n (by omega) ?_)), adl (by omega), (by first | assumption | exact vp_in_nI (by omega) (by omega)), ?_⟩ | refine hZ _ _ _ _ ⟨_, (by repeat (first | exact up_s | assumption | refine up_n (by omega) ?_)), adl (by omega), (by rfl), trivial, ?_⟩ | refine hZ _ _ _ _ ⟨trivial, ?_⟩ | refine hZ _ _ _ _ ⟨_, _, _, _, (by repeat (first | exact up_s | assumption | refine up_n (by omega) ?_)), (by first | exact Or.inr (Or.inr rfl) | exact Or.inr (Or.inl rfl) | exact Or.inl rfl), adl (by omega), (by first | assumption | exact vp_in_nI (by omega) (by omega)), rowsF_at (by omega), ?_⟩ | refine hZ _ _ _ _ ?_)
    exact hp h Fr.rf CY0
  · rw [h1]
    rw [if_neg (by rw [h1]; decide)] at hp
    subst h3
    rw [nI_clamp (by omega)] at hp
    have Y : Yw n a w κ := by rcases o1 with z | z; · omega
                              · exact z.2
    repeat (first | refine hZ _ _ _ _ ⟨rfl, ?_⟩ | refine hZ _ _ _ _ ⟨_, _, (by repeat (first | exact up_s | assumption | refine up_n (by omega) ?_)), adl (by omega), (by rfl), ?_⟩ | refine hZ _ _ _ _ ⟨_, _, (by repeat (first | exact up_s | assumption | refine up_n (by omega) ?_)), adl (by omega), (by first | assumption | exact vp_in_nI (by omega) (by omega)), ?_⟩ | refine hZ _ _ _ _ ⟨_, (by repeat (first | exact up_s | assumption | refine up_n (by omega) ?_)), adl (by omega), (by rfl), trivial, ?_⟩ | refine hZ _ _ _ _ ⟨trivial, ?_⟩ | refine hZ _ _ _ _ ⟨_, _, _, _, (by repeat (first | exact up_s | assumption | refine up_n (by omega) ?_)), (by first | exact Or.inr (Or.inr rfl) | exact Or.inr (Or.inl rfl) | exact Or.inl rfl), adl (by omega), (by first | assumption | exact vp_in_nI (by omega) (by omega)), rowsF_at (by omega), ?_⟩ | refine hZ _ _ _ _ ?_)
    refine ⟨fun c9 => ?_, fun c9 => absurd c9 (by decide)⟩
    repeat (first | refine hZ _ _ _ _ ⟨rfl, ?_⟩ | refine hZ _ _ _ _ ⟨_, _, (by repeat (first | exact up_s | assumption | refine up_n (by omega) ?_)), adl (by omega), (by rfl), ?_⟩ | refine hZ _ _ _ _ ⟨_, _, (by repeat (first | exact up_s | assumption | refine up_n (by omega) ?_)), adl (by omega), (by first | assumption | exact vp_in_nI (by omega) (by omega)), ?_⟩ | refine hZ _ _ _ _ ⟨_, (by repeat (first | exact up_s | assumption | refine up_n (by omega) ?_)), adl (by omega), (by rfl), trivial, ?_⟩ | refine hZ _ _ _ _ ⟨trivial, ?_⟩ | refine hZ _ _ _ _ ⟨_, _, _, _, (by repeat (first | exact up_s | assumption | refine up_n (by omega) ?_)), (by first | exact Or.inr (Or.inr rfl) | exact Or.inr (Or.inl rfl) | exact Or.inl rfl), adl (by omega), (by first | assumption | exact vp_in_nI (by omega) (by omega)), rowsF_at (by omega), ?_⟩ | refine hZ _ _ _ _ ?_)
    rcases inb_of (v := v) (n := 2) (by decide) with ⟨h4, h5⟩ | ⟨h4, i, h5, h6⟩
    · rw [if_pos h4] at hp
      have bad : Z h 22 [some (.ref 0), some (.int (nI j)), some (.int v), none, none] [] := by
        repeat (first | refine hZ _ _ _ _ ⟨rfl, ?_⟩ | refine hZ _ _ _ _ ⟨_, _, (by repeat (first | exact up_s | assumption | refine up_n (by omega) ?_)), adl (by omega), (by rfl), ?_⟩ | refine hZ _ _ _ _ ⟨_, _, (by repeat (first | exact up_s | assumption | refine up_n (by omega) ?_)), adl (by omega), (by first | assumption | exact vp_in_nI (by omega) (by omega)), ?_⟩ | refine hZ _ _ _ _ ⟨_, (by repeat (first | exact up_s | assumption | refine up_n (by omega) ?_)), adl (by omega), (by rfl), trivial, ?_⟩ | refine hZ _ _ _ _ ⟨trivial, ?_⟩ | refine hZ _ _ _ _ ⟨_, _, _, _, (by repeat (first | exact up_s | assumption | refine up_n (by omega) ?_)), (by first | exact Or.inr (Or.inr rfl) | exact Or.inr (Or.inl rfl) | exact Or.inl rfl), adl (by omega), (by first | assumption | exact vp_in_nI (by omega) (by omega)), rowsF_at (by omega), ?_⟩ | refine hZ _ _ _ _ ?_)
        rw [lbm2]
        exact hp h Fr.rf CY0
      refine ⟨fun c9 => bad, fun c9 => ?_⟩
      rcases h5 with h5 | h5
      · exact absurd h5 c9
      · repeat (first | refine hZ _ _ _ _ ⟨rfl, ?_⟩ | refine hZ _ _ _ _ ⟨_, _, (by repeat (first | exact up_s | assumption | refine up_n (by omega) ?_)), adl (by omega), (by rfl), ?_⟩ | refine hZ _ _ _ _ ⟨_, _, (by repeat (first | exact up_s | assumption | refine up_n (by omega) ?_)), adl (by omega), (by first | assumption | exact vp_in_nI (by omega) (by omega)), ?_⟩ | refine hZ _ _ _ _ ⟨_, (by repeat (first | exact up_s | assumption | refine up_n (by omega) ?_)), adl (by omega), (by rfl), trivial, ?_⟩ | refine hZ _ _ _ _ ⟨trivial, ?_⟩ | refine hZ _ _ _ _ ⟨_, _, _, _, (by repeat (first | exact up_s | assumption | refine up_n (by omega) ?_)), (by first | exact Or.inr (Or.inr rfl) | exact Or.inr (Or.inl rfl) | exact Or.inl rfl), adl (by omega), (by first | assumption | exact vp_in_nI (by omega) (by omega)), rowsF_at (by omega), ?_⟩ | refine hZ _ _ _ _ ?_)
        rw [lit_1]
        exact ⟨fun c9 => absurd c9 (not_le_of_inb (n := 1) (by decide) h5), fun c9 => bad⟩
    · rw [if_neg (by rw [h4]; decide)] at hp
      subst h6
      rw [nI_clamp (by omega)] at hp
      refine ⟨fun c9 => absurd c9 (nI_pos (by omega)), fun c9 => ?_⟩
      repeat (first | refine hZ _ _ _ _ ⟨rfl, ?_⟩ | refine hZ _ _ _ _ ⟨_, _, (by repeat (first | exact up_s | assumption | refine up_n (by omega) ?_)), adl (by omega), (by rfl), ?_⟩ | refine hZ _ _ _ _ ⟨_, _, (by repeat (first | exact up_s | assumption | refine up_n (by omega) ?_)), adl (by omega), (by first | assumption | exact vp_in_nI (by omega) (by omega)), ?_⟩ | refine hZ _ _ _ _ ⟨_, (by repeat (first | exact up_s | assumption | refine up_n (by omega) ?_)), adl (by omega), (by rfl), trivial, ?_⟩ | refine hZ _ _ _ _ ⟨trivial, ?_⟩ | refine hZ _ _ _ _ ⟨_, _, _, _, (by repeat (first | exact up_s | assumption | refine up_n (by omega) ?_)), (by first | exact Or.inr (Or.inr rfl) | exact Or.inr (Or.inl rfl) | exact Or.inl rfl), adl (by omega), (by first | assumption | exact vp_in_nI (by omega) (by omega)), rowsF_at (by omega), ?_⟩ | refine hZ _ _ _ _ ?_)
      rw [lit_1]
      refine ⟨fun c9 => ?_, fun c9 => absurd (nI_le (by omega) (by omega)) c9⟩
      iterate 4 (first | refine hZ _ _ _ _ ⟨rfl, ?_⟩ | refine hZ _ _ _ _ ⟨_, _, (by repeat (first | exact up_s | assumption | refine up_n (by omega) ?_)), adl (by omega), (by rfl), ?_⟩ | refine hZ _ _ _ _ ⟨_, _, (by repeat (first | exact up_s | assumption | refine up_n (by omega) ?_)), adl (by omega), (by first | assumption | exact vp_in_nI (by omega) (by omega)), ?_⟩ | refine hZ _ _ _ _ ⟨_, (by repeat (first | exact up_s | assumption | refine up_n (by omega) ?_)), adl (by omega), (by rfl), trivial, ?_⟩ | refine hZ _ _ _ _ ⟨trivial, ?_⟩ | refine hZ _ _ _ _ ⟨_, _, _, _, (by repeat (first | exact up_s | assumption | refine up_n (by omega) ?_)), (by first | exact Or.inr (Or.inr rfl) | exact Or.inr (Or.inl rfl) | exact Or.inl rfl), adl (by omega), (by first | assumption | exact vp_in_nI (by omega) (by omega)), rowsF_at (by omega), ?_⟩ | refine hZ _ _ _ _ ?_)
      show Z _ 33 _ _
      refine hZ _ _ _ _ ⟨⟨_, (by repeat (first | exact up_s | assumption | refine up_n (by omega) ?_))⟩, adl (by omega), rfl, ?_⟩
      refine c_Heaps_startFrom KT K (by omega) (fun h1 f1 t1 K1 hf1 ht1 F1 => ?_)
      show Z _ 36 _ _
      have C1 := CC0.trl F1 ⟨_, _, _, _, K1⟩
      have c11 := C1.2.1
      unfold Obj at c11
      have k10 := K1.2.1
      iterate 4 (first | refine hZ _ _ _ _ ⟨rfl, ?_⟩ | refine hZ _ _ _ _ ⟨_, _, (by repeat (first | exact up_s | assumption | refine up_n (by omega) ?_)), adl (by omega), (by rfl), ?_⟩ | refine hZ _ _ _ _ ⟨_, _, (by repeat (first | exact up_s | assumption | refine up_n (by omega) ?_)), adl (by omega), (by first | assumption | exact vp_in_nI (by omega) (by omega)), ?_⟩ | refine hZ _ _ _ _ ⟨_, (by repeat (first | exact up_s | assumption | refine up_n (by omega) ?_)), adl (by omega), (by rfl), trivial, ?_⟩ | refine hZ _ _ _ _ ⟨trivial, ?_⟩ | refine hZ _ _ _ _ ⟨_, _, _, _, (by repeat (first | exact up_s | assumption | refine up_n (by omega) ?_)), (by first | exact Or.inr (Or.inr rfl) | exact Or.inr (Or.inl rfl) | exact Or.inl rfl), adl (by omega), (by first | assumption | exact vp_in_nI (by omega) (by omega)), rowsF_at (by omega), ?_⟩ | refine hZ _ _ _ _ ?_)
      show Z _ 44 _ _
      refine hZ _ _ _ _ ⟨⟨_, (by repeat (first | exact up_s | assumption | refine up_n (by omega) ?_))⟩, adl (by omega), rfl, ?_⟩
      refine c_Heaps_settle (x := x) (G.fr F1 (by omega)) V Y K1 (by omega) (fun q hq => (hf1 q (by omega)).trans (hf q hq)) hx (fun h2' f2 t2 u y hst K2 hf2 ht2 F2 => ?_)
      show Z _ 47 _ _
      have C2 := C1.trl F2 ⟨_, _, _, _, K2⟩
      have c12 := C2.2.1
      unfold Obj at c12
      have k20 := K2.2.1
      have F12 := F1.tr F2
      have G2 := G.fr F12 (by omega)
      obtain ⟨q1, q2⟩ := odo_eq hst
      have y30 : ∀ q, q < n → (odo n a w κ x).2 q < 32 := fun q hq => by
        have e1 := hst.2.1 q hq
        have e2 := brf_30 Y hq
        rw [q2 q hq] at e1
        omega
      have hf2' : ∀ q, q < n → f2 q = nI (agn n a w κ x j 0 q) := fun q hq => by rw [hf2 q hq, q2 q hq]; rfl
      iterate 8 (first | refine hZ _ _ _ _ ⟨rfl, ?_⟩ | refine hZ _ _ _ _ ⟨_, _, (by repeat (first | exact up_s | assumption | refine up_n (by omega) ?_)), adl (by omega), (by rfl), ?_⟩ | refine hZ _ _ _ _ ⟨_, _, (by repeat (first | exact up_s | assumption | refine up_n (by omega) ?_)), adl (by omega), (by first | assumption | exact vp_in_nI (by omega) (by omega)), ?_⟩ | refine hZ _ _ _ _ ⟨_, (by repeat (first | exact up_s | assumption | refine up_n (by omega) ?_)), adl (by omega), (by rfl), trivial, ?_⟩ | refine hZ _ _ _ _ ⟨trivial, ?_⟩ | refine hZ _ _ _ _ ⟨_, _, _, _, (by repeat (first | exact up_s | assumption | refine up_n (by omega) ?_)), (by first | exact Or.inr (Or.inr rfl) | exact Or.inr (Or.inl rfl) | exact Or.inl rfl), adl (by omega), (by first | assumption | exact vp_in_nI (by omega) (by omega)), rowsF_at (by omega), ?_⟩ | refine hZ _ _ _ _ ?_)
      show Z _ 61 _ _
      refine hZ _ _ _ _ ⟨⟨_, (by repeat (first | exact up_s | assumption | refine up_n (by omega) ?_))⟩, adl (by omega), rfl, ?_⟩
      refine c_Heaps_packed (y := agn n a w κ x j 0) G2 K2 o2 hf2' y30 ?_
      show Z _ 64 _ _
      have s24 : h2' 24 = .inl (0, 501, .inl sn) := (F12 _ (by omega)).trans s4d
      have v0 : vp_in (Int32.ofInt 0) 501 := vp_in_nI (by decide) (by decide)
      iterate 3 (first | refine hZ _ _ _ _ ⟨rfl, ?_⟩ | refine hZ _ _ _ _ ⟨_, _, (by repeat (first | exact up_s | assumption | refine up_n (by omega) ?_)), adl (by omega), (by rfl), ?_⟩ | refine hZ _ _ _ _ ⟨_, _, (by repeat (first | exact up_s | assumption | refine up_n (by omega) ?_)), adl (by omega), (by first | assumption | exact vp_in_nI (by omega) (by omega)), ?_⟩ | refine hZ _ _ _ _ ⟨_, (by repeat (first | exact up_s | assumption | refine up_n (by omega) ?_)), adl (by omega), (by rfl), trivial, ?_⟩ | refine hZ _ _ _ _ ⟨trivial, ?_⟩ | refine hZ _ _ _ _ ⟨_, _, _, _, (by repeat (first | exact up_s | assumption | refine up_n (by omega) ?_)), (by first | exact Or.inr (Or.inr rfl) | exact Or.inr (Or.inl rfl) | exact Or.inl rfl), adl (by omega), (by first | assumption | exact vp_in_nI (by omega) (by omega)), rowsF_at (by omega), ?_⟩ | refine hZ _ _ _ _ ?_)
      show Z _ 67 _ _
      rw [show (Int32.ofInt 0).toNatClampNeg = 0 by decide, lit_1]
      have loop : ∀ e' G' h3 f3 t3 fa3 to3 sn3, G' + e' = 501 → 1 ≤ G' → CC h3 g d k e ((n, a, w, κ), (x, tp, fa, to), (cn, pl, td), (z, m, c), tr, fl) → Fr 21 25 h h3 → Hp 82 h3 21 f3 t3 fa3 to3 → (∀ q, q < n → f3 q = nI (agn n a w κ x j (G' - 1) q)) → (∀ i, i < G' → ∀ q, q < n → agn n a w κ x j i q < 32) → h3 24 = .inl (0, 501, .inl sn3) → (∀ i, i < G' → sn3 i = nI (pck (agn n a w κ x j i) n)) →
          (∀ h', Fr 0 61 h h' → CY h' ((n, a, w, κ), (x, tp, fa, to), (cn, pl, td), (z, m, c), tr, fl) → P (some (.int (agr (fun i => pck (agn n a w κ x j i) n) i e' G'))) h') → ∀ o4, Z h3 67 [some (.ref 0), some (.int (nI j)), some (.int (nI i)), some (.int (nI G')), o4] [] := by
        intro e'
        induction e' with
        | zero =>
          intro G' h3 f3 t3 fa3 to3 sn3 hG hG1 C3 F3 K3 hf3 hy3 hs3 hsn3 hp3 o4
          repeat (first | refine hZ _ _ _ _ ⟨rfl, ?_⟩ | refine hZ _ _ _ _ ⟨_, _, (by repeat (first | exact up_s | assumption | refine up_n (by omega) ?_)), adl (by omega), (by rfl), ?_⟩ | refine hZ _ _ _ _ ⟨_, _, (by repeat (first | exact up_s | assumption | refine up_n (by omega) ?_)), adl (by omega), (by first | assumption | exact vp_in_nI (by omega) (by omega)), ?_⟩ | refine hZ _ _ _ _ ⟨_, (by repeat (first | exact up_s | assumption | refine up_n (by omega) ?_)), adl (by omega), (by rfl), trivial, ?_⟩ | refine hZ _ _ _ _ ⟨trivial, ?_⟩ | refine hZ _ _ _ _ ⟨_, _, _, _, (by repeat (first | exact up_s | assumption | refine up_n (by omega) ?_)), (by first | exact Or.inr (Or.inr rfl) | exact Or.inr (Or.inl rfl) | exact Or.inl rfl), adl (by omega), (by first | assumption | exact vp_in_nI (by omega) (by omega)), rowsF_at (by omega), ?_⟩ | refine hZ _ _ _ _ ?_)
          rw [lb500]
          refine ⟨fun c9 => ?_, fun c9 => absurd (nI_lt (by omega) (by omega)) c9⟩
          repeat (first | refine hZ _ _ _ _ ⟨rfl, ?_⟩ | refine hZ _ _ _ _ ⟨_, _, (by repeat (first | exact up_s | assumption | refine up_n (by omega) ?_)), adl (by omega), (by rfl), ?_⟩ | refine hZ _ _ _ _ ⟨_, _, (by repeat (first | exact up_s | assumption | refine up_n (by omega) ?_)), adl (by omega), (by first | assumption | exact vp_in_nI (by omega) (by omega)), ?_⟩ | refine hZ _ _ _ _ ⟨_, (by repeat (first | exact up_s | assumption | refine up_n (by omega) ?_)), adl (by omega), (by rfl), trivial, ?_⟩ | refine hZ _ _ _ _ ⟨trivial, ?_⟩ | refine hZ _ _ _ _ ⟨_, _, _, _, (by repeat (first | exact up_s | assumption | refine up_n (by omega) ?_)), (by first | exact Or.inr (Or.inr rfl) | exact Or.inr (Or.inl rfl) | exact Or.inl rfl), adl (by omega), (by first | assumption | exact vp_in_nI (by omega) (by omega)), rowsF_at (by omega), ?_⟩ | refine hZ _ _ _ _ ?_)
          rw [lbm9]
          exact hp3 h3 (F3.wide (by omega) (by omega)) ⟨_, _, _, _, C3⟩
        | succ e' ih =>
          intro G' h3 f3 t3 fa3 to3 sn3 hG hG1 C3 F3 K3 hf3 hy3 hs3 hsn3 hp3 o4
          have c13 := C3.2.1
          unfold Obj at c13
          obtain ⟨k3N, k30, k31, k32⟩ := K3
          repeat (first | refine hZ _ _ _ _ ⟨rfl, ?_⟩ | refine hZ _ _ _ _ ⟨_, _, (by repeat (first | exact up_s | assumption | refine up_n (by omega) ?_)), adl (by omega), (by rfl), ?_⟩ | refine hZ _ _ _ _ ⟨_, _, (by repeat (first | exact up_s | assumption | refine up_n (by omega) ?_)), adl (by omega), (by first | assumption | exact vp_in_nI (by omega) (by omega)), ?_⟩ | refine hZ _ _ _ _ ⟨_, (by repeat (first | exact up_s | assumption | refine up_n (by omega) ?_)), adl (by omega), (by rfl), trivial, ?_⟩ | refine hZ _ _ _ _ ⟨trivial, ?_⟩ | refine hZ _ _ _ _ ⟨_, _, _, _, (by repeat (first | exact up_s | assumption | refine up_n (by omega) ?_)), (by first | exact Or.inr (Or.inr rfl) | exact Or.inr (Or.inl rfl) | exact Or.inl rfl), adl (by omega), (by first | assumption | exact vp_in_nI (by omega) (by omega)), rowsF_at (by omega), ?_⟩ | refine hZ _ _ _ _ ?_)
          rw [lb500]
          refine ⟨fun c9 => absurd c9 (nI_nlt (by omega) (by omega)), fun c9 => ?_⟩
          iterate 9 (first | refine hZ _ _ _ _ ⟨rfl, ?_⟩ | refine hZ _ _ _ _ ⟨_, _, (by repeat (first | exact up_s | assumption | refine up_n (by omega) ?_)), adl (by omega), (by rfl), ?_⟩ | refine hZ _ _ _ _ ⟨_, _, (by repeat (first | exact up_s | assumption | refine up_n (by omega) ?_)), adl (by omega), (by first | assumption | exact vp_in_nI (by omega) (by omega)), ?_⟩ | refine hZ _ _ _ _ ⟨_, (by repeat (first | exact up_s | assumption | refine up_n (by omega) ?_)), adl (by omega), (by rfl), trivial, ?_⟩ | refine hZ _ _ _ _ ⟨trivial, ?_⟩ | refine hZ _ _ _ _ ⟨_, _, _, _, (by repeat (first | exact up_s | assumption | refine up_n (by omega) ?_)), (by first | exact Or.inr (Or.inr rfl) | exact Or.inr (Or.inl rfl) | exact Or.inl rfl), adl (by omega), (by first | assumption | exact vp_in_nI (by omega) (by omega)), rowsF_at (by omega), ?_⟩ | refine hZ _ _ _ _ ?_)
          show Z _ 87 _ _
          rw [nI_clamp (by omega), lit_1]
          generalize hh4 : va_up h3 _ _ = h4
          have F4 : Fr 21 24 h3 h4 := by rw [← hh4]; exact Fr.rf.up (by omega) (by omega)
          have K4 : Hp 82 h4 21 (upd f3 j (f3 j + nI 1)) t3 fa3 to3 := by
            rw [← hh4]
            exact ⟨k3N, up_n (by omega) k30, up_s, up_n (by omega) k32⟩
          have C4 := C3.trl F4 ⟨_, _, _, _, K4⟩
          have c14 := C4.2.1
          unfold Obj at c14
          have k40 := K4.2.1
          have F34 := F3.tr (F4.wide (by omega) (by omega))
          have hsm : sm (agn n a w κ x j (G' - 1)) n ≤ 5 * 32 := Nat.le_trans (sm_le (b := 32) (fun i hi => Nat.le_of_lt (hy3 (G' - 1) (by omega) i hi))) (Nat.mul_le_mul_right _ o2)
          iterate 4 (first | refine hZ _ _ _ _ ⟨rfl, ?_⟩ | refine hZ _ _ _ _ ⟨_, _, (by repeat (first | exact up_s | assumption | refine up_n (by omega) ?_)), adl (by omega), (by rfl), ?_⟩ | refine hZ _ _ _ _ ⟨_, _, (by repeat (first | exact up_s | assumption | refine up_n (by omega) ?_)), adl (by omega), (by first | assumption | exact vp_in_nI (by omega) (by omega)), ?_⟩ | refine hZ _ _ _ _ ⟨_, (by repeat (first | exact up_s | assumption | refine up_n (by omega) ?_)), adl (by omega), (by rfl), trivial, ?_⟩ | refine hZ _ _ _ _ ⟨trivial, ?_⟩ | refine hZ _ _ _ _ ⟨_, _, _, _, (by repeat (first | exact up_s | assumption | refine up_n (by omega) ?_)), (by first | exact Or.inr (Or.inr rfl) | exact Or.inr (Or.inl rfl) | exact Or.inl rfl), adl (by omega), (by first | assumption | exact vp_in_nI (by omega) (by omega)), rowsF_at (by omega), ?_⟩ | refine hZ _ _ _ _ ?_)
          show Z _ 95 _ _
          refine hZ _ _ _ _ ⟨⟨_, (by repeat (first | exact up_s | assumption | refine up_n (by omega) ?_))⟩, adl (by omega), rfl, ?_⟩
          refine c_Heaps_settle (x := ad1 (agn n a w κ x j (G' - 1)) j) (G.fr F34 (by omega)) V Y K4 (by omega) (upd_ad1 h2 hf3) (by rw [sm_ad1 h2]; omega) (fun h5 f5 t5 u5 y5 hst5 K5 hf5 ht5 F5 => ?_)
          show Z _ 98 _ _
          have C5 := C4.trl F5 ⟨_, _, _, _, K5⟩
          have c15 := C5.2.1
          unfold Obj at c15
          have k50 := K5.2.1
          have F45 := F34.tr (F5.wide (by omega) (by omega))
          have G5 := G.fr F45 (by omega)
          obtain ⟨r1, r2⟩ := odo_eq hst5
          have eag : agn n a w κ x j G' = (odo n a w κ (ad1 (agn n a w κ x j (G' - 1)) j)).2 := by
            obtain ⟨G0, rfl⟩ : ∃ G0, G' = G0 + 1 := ⟨G' - 1, by omega⟩
            rfl
          have y5 : ∀ q, q < n → agn n a w κ x j G' q < 32 := fun q hq => by
            have e1 := hst5.2.1 q hq
            have e2 := brf_30 Y hq
            rw [r2 q hq] at e1
            rw [eag]
            omega
          have hf5' : ∀ q, q < n → f5 q = nI (agn n a w κ x j G' q) := fun q hq => by rw [hf5 q hq, r2 q hq, eag]
          iterate 8 (first | refine hZ _ _ _ _ ⟨rfl, ?_⟩ | refine hZ _ _ _ _ ⟨_, _, (by repeat (first | exact up_s | assumption | refine up_n (by omega) ?_)), adl (by omega), (by rfl), ?_⟩ | refine hZ _ _ _ _ ⟨_, _, (by repeat (first | exact up_s | assumption | refine up_n (by omega) ?_)), adl (by omega), (by first | assumption | exact vp_in_nI (by omega) (by omega)), ?_⟩ | refine hZ _ _ _ _ ⟨_, (by repeat (first | exact up_s | assumption | refine up_n (by omega) ?_)), adl (by omega), (by rfl), trivial, ?_⟩ | refine hZ _ _ _ _ ⟨trivial, ?_⟩ | refine hZ _ _ _ _ ⟨_, _, _, _, (by repeat (first | exact up_s | assumption | refine up_n (by omega) ?_)), (by first | exact Or.inr (Or.inr rfl) | exact Or.inr (Or.inl rfl) | exact Or.inl rfl), adl (by omega), (by first | assumption | exact vp_in_nI (by omega) (by omega)), rowsF_at (by omega), ?_⟩ | refine hZ _ _ _ _ ?_)
          show Z _ 112 _ _
          refine hZ _ _ _ _ ⟨⟨_, (by repeat (first | exact up_s | assumption | refine up_n (by omega) ?_))⟩, adl (by omega), rfl, ?_⟩
          refine c_Heaps_packed (y := agn n a w κ x j G') G5 K5 o2 hf5' y5 ?_
          show Z _ 115 _ _
          have s245 : h5 24 = .inl (0, 501, .inl sn3) := (F5 _ (by omega)).trans ((F4 _ (by omega)).trans hs3)
          iterate 1 (first | refine hZ _ _ _ _ ⟨rfl, ?_⟩ | refine hZ _ _ _ _ ⟨_, _, (by repeat (first | exact up_s | assumption | refine up_n (by omega) ?_)), adl (by omega), (by rfl), ?_⟩ | refine hZ _ _ _ _ ⟨_, _, (by repeat (first | exact up_s | assumption | refine up_n (by omega) ?_)), adl (by omega), (by first | assumption | exact vp_in_nI (by omega) (by omega)), ?_⟩ | refine hZ _ _ _ _ ⟨_, (by repeat (first | exact up_s | assumption | refine up_n (by omega) ?_)), adl (by omega), (by rfl), trivial, ?_⟩ | refine hZ _ _ _ _ ⟨trivial, ?_⟩ | refine hZ _ _ _ _ ⟨_, _, _, _, (by repeat (first | exact up_s | assumption | refine up_n (by omega) ?_)), (by first | exact Or.inr (Or.inr rfl) | exact Or.inr (Or.inl rfl) | exact Or.inl rfl), adl (by omega), (by first | assumption | exact vp_in_nI (by omega) (by omega)), rowsF_at (by omega), ?_⟩ | refine hZ _ _ _ _ ?_)
          show Z _ 116 _ _
          rw [nI_clamp (by omega)]
          generalize hh6 : va_up h5 _ _ = h6
          have F6 : Fr 24 25 h5 h6 := by rw [← hh6]; exact Fr.rf.up (by omega) (by omega)
          have s6 : h6 24 = .inl (0, 501, .inl (upd sn3 G' (nI (pck (agn n a w κ x j G') n)))) := by rw [← hh6]; exact up_s
          have S5 : Scr h5 := C5.2.2.2.2.1
          obtain ⟨s5a, s5b, s5c, -⟩ := S5
          have C6 := C5.scr (F6.wide (by omega) (by omega)) ⟨s5a.fr F6 (by omega), s5b.fr F6 (by omega), s5c.fr F6 (by omega), _, s6⟩
          have c16 := C6.2.1
          have c16' := c16
          unfold Obj at c16
          have F56 := F45.tr (F6.wide (by omega) (by omega))
          have hv6 : ∀ i, i < G' + 1 → upd sn3 G' (nI (pck (agn n a w κ x j G') n)) i = nI (pck (agn n a w κ x j i) n) := fun i hi => by
            by_cases e9 : i = G'
            · rw [upd_s e9, e9]
            · rw [pk_un e9]; exact hsn3 i (by omega)
          have hy6 : ∀ i, i < G' + 1 → ∀ q, q < n → agn n a w κ x j i q < 32 := fun i hi => by
            by_cases e9 : i = G'
            · rw [e9]; exact y5
            · exact hy3 i (by omega)
          iterate 2 (first | refine hZ _ _ _ _ ⟨rfl, ?_⟩ | refine hZ _ _ _ _ ⟨_, _, (by repeat (first | exact up_s | assumption | refine up_n (by omega) ?_)), adl (by omega), (by rfl), ?_⟩ | refine hZ _ _ _ _ ⟨_, _, (by repeat (first | exact up_s | assumption | refine up_n (by omega) ?_)), adl (by omega), (by first | assumption | exact vp_in_nI (by omega) (by omega)), ?_⟩ | refine hZ _ _ _ _ ⟨_, (by repeat (first | exact up_s | assumption | refine up_n (by omega) ?_)), adl (by omega), (by rfl), trivial, ?_⟩ | refine hZ _ _ _ _ ⟨trivial, ?_⟩ | refine hZ _ _ _ _ ⟨_, _, _, _, (by repeat (first | exact up_s | assumption | refine up_n (by omega) ?_)), (by first | exact Or.inr (Or.inr rfl) | exact Or.inr (Or.inl rfl) | exact Or.inl rfl), adl (by omega), (by first | assumption | exact vp_in_nI (by omega) (by omega)), rowsF_at (by omega), ?_⟩ | refine hZ _ _ _ _ ?_)
          show Z _ 118 _ _
          refine hZ _ _ _ _ ⟨⟨_, (by repeat (first | exact up_s | assumption | refine up_n (by omega) ?_))⟩, adl (by omega), rfl, ?_⟩
          refine c_firstSeen (s := fun i => pck (agn n a w κ x j i) n) c16' s6 (by omega) (fun i hi => hv6 i (by omega)) (fun i hi => ?_) ?_
          · exact Nat.lt_of_lt_of_le (pck_lt (hy6 i (by omega))) (Nat.le_trans (Nat.pow_le_pow_right (by decide) o2) (by decide))
          show Z _ 121 _ _
          have hfl := fsn_le (s := fun i => pck (agn n a w κ x j i) n) (last := G') (e := G') (k := 0)
          have hp3' : ∀ h', Fr 0 61 h h' → CY h' ((n, a, w, κ), (x, tp, fa, to), (cn, pl, td), (z, m, c), tr, fl) → P (some (.int (if fsn (fun i => pck (agn n a w κ x j i) n) G' G' 0 < G' then (if i = 0 then nI (fsn (fun i => pck (agn n a w κ x j i) n) G' G' 0) else nI (G' - fsn (fun i => pck (agn n a w κ x j i) n) G' G' 0)) else agr (fun i => pck (agn n a w κ x j i) n) i e' (G' + 1)))) h' := hp3
          generalize fsn (fun i => pck (agn n a w κ x j i) n) G' G' 0 = F at *
          by_cases hc : F < G'
          · rw [if_pos hc] at hp3'
            have hp3' := hp3' h6 (F56.wide (by omega) (by omega)) ⟨_, _, _, _, C6⟩
            repeat (first | refine hZ _ _ _ _ ⟨rfl, ?_⟩ | refine hZ _ _ _ _ ⟨_, _, (by repeat (first | exact up_s | assumption | refine up_n (by omega) ?_)), adl (by omega), (by rfl), ?_⟩ | refine hZ _ _ _ _ ⟨_, _, (by repeat (first | exact up_s | assumption | refine up_n (by omega) ?_)), adl (by omega), (by first | assumption | exact vp_in_nI (by omega) (by omega)), ?_⟩ | refine hZ _ _ _ _ ⟨_, (by repeat (first | exact up_s | assumption | refine up_n (by omega) ?_)), adl (by omega), (by rfl), trivial, ?_⟩ | refine hZ _ _ _ _ ⟨trivial, ?_⟩ | refine hZ _ _ _ _ ⟨_, _, _, _, (by repeat (first | exact up_s | assumption | refine up_n (by omega) ?_)), (by first | exact Or.inr (Or.inr rfl) | exact Or.inr (Or.inl rfl) | exact Or.inl rfl), adl (by omega), (by first | assumption | exact vp_in_nI (by omega) (by omega)), rowsF_at (by omega), ?_⟩ | refine hZ _ _ _ _ ?_)
            refine ⟨fun c9 => absurd c9 (nI_ge hc (by omega)), fun c9 => ?_⟩
            repeat (first | refine hZ _ _ _ _ ⟨rfl, ?_⟩ | refine hZ _ _ _ _ ⟨_, _, (by repeat (first | exact up_s | assumption | refine up_n (by omega) ?_)), adl (by omega), (by rfl), ?_⟩ | refine hZ _ _ _ _ ⟨_, _, (by repeat (first | exact up_s | assumption | refine up_n (by omega) ?_)), adl (by omega), (by first | assumption | exact vp_in_nI (by omega) (by omega)), ?_⟩ | refine hZ _ _ _ _ ⟨_, (by repeat (first | exact up_s | assumption | refine up_n (by omega) ?_)), adl (by omega), (by rfl), trivial, ?_⟩ | refine hZ _ _ _ _ ⟨trivial, ?_⟩ | refine hZ _ _ _ _ ⟨_, _, _, _, (by repeat (first | exact up_s | assumption | refine up_n (by omega) ?_)), (by first | exact Or.inr (Or.inr rfl) | exact Or.inr (Or.inl rfl) | exact Or.inl rfl), adl (by omega), (by first | assumption | exact vp_in_nI (by omega) (by omega)), rowsF_at (by omega), ?_⟩ | refine hZ _ _ _ _ ?_)
            refine ⟨fun c9 => ?_, fun c9 => ?_⟩
            · rw [if_neg (show ¬ i = 0 from fun z => c9 (by rw [z]; rfl))] at hp3'
              repeat (first | refine hZ _ _ _ _ ⟨rfl, ?_⟩ | refine hZ _ _ _ _ ⟨_, _, (by repeat (first | exact up_s | assumption | refine up_n (by omega) ?_)), adl (by omega), (by rfl), ?_⟩ | refine hZ _ _ _ _ ⟨_, _, (by repeat (first | exact up_s | assumption | refine up_n (by omega) ?_)), adl (by omega), (by first | assumption | exact vp_in_nI (by omega) (by omega)), ?_⟩ | refine hZ _ _ _ _ ⟨_, (by repeat (first | exact up_s | assumption | refine up_n (by omega) ?_)), adl (by omega), (by rfl), trivial, ?_⟩ | refine hZ _ _ _ _ ⟨trivial, ?_⟩ | refine hZ _ _ _ _ ⟨_, _, _, _, (by repeat (first | exact up_s | assumption | refine up_n (by omega) ?_)), (by first | exact Or.inr (Or.inr rfl) | exact Or.inr (Or.inl rfl) | exact Or.inl rfl), adl (by omega), (by first | assumption | exact vp_in_nI (by omega) (by omega)), rowsF_at (by omega), ?_⟩ | refine hZ _ _ _ _ ?_)
              rw [pk_sub (by omega)]
              exact hp3'
            · rw [if_pos ((nI_eq (b := 0) (by omega) (by omega)).mp c9)] at hp3'
              repeat (first | refine hZ _ _ _ _ ⟨rfl, ?_⟩ | refine hZ _ _ _ _ ⟨_, _, (by repeat (first | exact up_s | assumption | refine up_n (by omega) ?_)), adl (by omega), (by rfl), ?_⟩ | refine hZ _ _ _ _ ⟨_, _, (by repeat (first | exact up_s | assumption | refine up_n (by omega) ?_)), adl (by omega), (by first | assumption | exact vp_in_nI (by omega) (by omega)), ?_⟩ | refine hZ _ _ _ _ ⟨_, (by repeat (first | exact up_s | assumption | refine up_n (by omega) ?_)), adl (by omega), (by rfl), trivial, ?_⟩ | refine hZ _ _ _ _ ⟨trivial, ?_⟩ | refine hZ _ _ _ _ ⟨_, _, _, _, (by repeat (first | exact up_s | assumption | refine up_n (by omega) ?_)), (by first | exact Or.inr (Or.inr rfl) | exact Or.inr (Or.inl rfl) | exact Or.inl rfl), adl (by omega), (by first | assumption | exact vp_in_nI (by omega) (by omega)), rowsF_at (by omega), ?_⟩ | refine hZ _ _ _ _ ?_)
              exact hp3'
          · rw [if_neg hc] at hp3'
            repeat (first | refine hZ _ _ _ _ ⟨rfl, ?_⟩ | refine hZ _ _ _ _ ⟨_, _, (by repeat (first | exact up_s | assumption | refine up_n (by omega) ?_)), adl (by omega), (by rfl), ?_⟩ | refine hZ _ _ _ _ ⟨_, _, (by repeat (first | exact up_s | assumption | refine up_n (by omega) ?_)), adl (by omega), (by first | assumption | exact vp_in_nI (by omega) (by omega)), ?_⟩ | refine hZ _ _ _ _ ⟨_, (by repeat (first | exact up_s | assumption | refine up_n (by omega) ?_)), adl (by omega), (by rfl), trivial, ?_⟩ | refine hZ _ _ _ _ ⟨trivial, ?_⟩ | refine hZ _ _ _ _ ⟨_, _, _, _, (by repeat (first | exact up_s | assumption | refine up_n (by omega) ?_)), (by first | exact Or.inr (Or.inr rfl) | exact Or.inr (Or.inl rfl) | exact Or.inl rfl), adl (by omega), (by first | assumption | exact vp_in_nI (by omega) (by omega)), rowsF_at (by omega), ?_⟩ | refine hZ _ _ _ _ ?_)
            refine ⟨fun c9 => ?_, fun c9 => absurd (nI_le (by omega) (by omega)) c9⟩
            iterate 2 (first | refine hZ _ _ _ _ ⟨rfl, ?_⟩ | refine hZ _ _ _ _ ⟨_, _, (by repeat (first | exact up_s | assumption | refine up_n (by omega) ?_)), adl (by omega), (by rfl), ?_⟩ | refine hZ _ _ _ _ ⟨_, _, (by repeat (first | exact up_s | assumption | refine up_n (by omega) ?_)), adl (by omega), (by first | assumption | exact vp_in_nI (by omega) (by omega)), ?_⟩ | refine hZ _ _ _ _ ⟨_, (by repeat (first | exact up_s | assumption | refine up_n (by omega) ?_)), adl (by omega), (by rfl), trivial, ?_⟩ | refine hZ _ _ _ _ ⟨trivial, ?_⟩ | refine hZ _ _ _ _ ⟨_, _, _, _, (by repeat (first | exact up_s | assumption | refine up_n (by omega) ?_)), (by first | exact Or.inr (Or.inr rfl) | exact Or.inr (Or.inl rfl) | exact Or.inl rfl), adl (by omega), (by first | assumption | exact vp_in_nI (by omega) (by omega)), rowsF_at (by omega), ?_⟩ | refine hZ _ _ _ _ ?_)
            show Z _ 67 _ _
            rw [nI_inc]
            exact ih (G' + 1) h6 f5 t5 _ _ _ (by omega) (by omega) C6 F56 (K5.fr F6 (by omega)) hf5' hy6 s6 hv6 hp3' _
      generalize hh3 : va_up h2' _ _ = h3
      have F3 : Fr 24 25 h2' h3 := by rw [← hh3]; exact Fr.rf.up (by omega) (by omega)
      have s3 : h3 24 = .inl (0, 501, .inl (upd sn 0 (nI (pck (agn n a w κ x j 0) n)))) := by rw [← hh3]; exact up_s
      have S2 : Scr h2' := C2.2.2.2.2.1
      obtain ⟨s5a, s5b, s5c, -⟩ := S2
      have C3 := C2.scr (F3.wide (by omega) (by omega)) ⟨s5a.fr F3 (by omega), s5b.fr F3 (by omega), s5c.fr F3 (by omega), _, s3⟩
      refine loop 500 1 h3 f2 t2 _ _ _ (by omega) (by omega) C3 ((F12.wide (by omega) (by omega)).tr (F3.wide (by omega) (by omega))) (K2.fr F3 (by omega)) hf2' (fun i hi q hq => ?_) s3 (fun i hi => ?_) hp _
      · rw [show i = 0 by omega]; exact y30 q hq
      · rw [upd_s (by omega), show i = 0 by omega]
