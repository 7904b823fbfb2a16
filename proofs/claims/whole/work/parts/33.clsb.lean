/-! ===== the class: settle, readings, counts, telling ===== -/
noncomputable def odo (n : Nat) (a : Nat → Nat → Nat) (w κ x : Nat → Nat) : (Nat → Nat) × (Nat → Nat) := @dite _ (∃ q : (Nat → Nat) × (Nat → Nat), Stl n a (dgr n a w) (brf n a w κ) x q.1 q.2) (Classical.propDecidable _) (fun h => h.choose) (fun _ => (fun _ => 0, x))
theorem odo_stl {n : Nat} {a : Nat → Nat → Nat} {w κ x u y : Nat → Nat} (h : Stl n a (dgr n a w) (brf n a w κ) x u y) : Stl n a (dgr n a w) (brf n a w κ) x (odo n a w κ x).1 (odo n a w κ x).2 := by
  have hx : ∃ q : (Nat → Nat) × (Nat → Nat), Stl n a (dgr n a w) (brf n a w κ) x q.1 q.2 := ⟨(u, y), h⟩
  have e : odo n a w κ x = hx.choose := dif_pos hx
  rw [e]
  exact hx.choose_spec
theorem odo_eq {n : Nat} {a : Nat → Nat → Nat} {w κ x u y : Nat → Nat} (h : Stl n a (dgr n a w) (brf n a w κ) x u y) : (∀ q, q < n → u q = (odo n a w κ x).1 q) ∧ ∀ q, q < n → y q = (odo n a w κ x).2 q := h.uniq (odo_stl h)
noncomputable def S_settle (s : St) : Int32 × St := match s with
  | ((n, a, w, κ), (x, tp, fa, to), R, S, tr, fl) => if n = 0 then (-3, s) else (nI (sm (odo n a w κ x).1 n), ((n, a, w, κ), ((odo n a w κ x).2, fun i => tp i + nI ((odo n a w κ x).1 i), fa + nI (sm (fun i => (odo n a w κ x).1 i * w i) n), to + nI (sm (odo n a w κ x).1 n)), R, S, tr, fl))
theorem C_settle {l : Launch} {h : AH} {s : St} {P : Option Value → AH → Prop} (C : CY h s) (O : Ok s) (hx : sm s.2.1.1 s.1.1 ≤ 66666) (hp : ∀ h', Fr 0 61 h h' → CY h' (S_settle s).2 → P (some (.int (S_settle s).1)) h') : Sem l QX6_settle 82 h [.ref 0] P := by
  have CY0 := C
  obtain ⟨⟨n, a, w, κ⟩, ⟨x, tp, fa, to⟩, ⟨cn, pl, td⟩, ⟨z, m, c⟩, tr, fl⟩ := s
  obtain ⟨g, d, k, e, C⟩ := C
  have CC0 := C
  obtain ⟨c0, c1, c2, c3, c4, c5, c6, c7, c8⟩ := C
  obtain ⟨o1, o2, o3⟩ := O
  unfold Wh at c0
  unfold Obj at c1
  obtain ⟨f, t, K, hf, ht⟩ := c7
  have K0 := K
  obtain ⟨kN, k0, k1, k2⟩ := K
  obtain ⟨B, pit, kind, deg, brs, G, hdi, V⟩ := c5
  refine iX6_settle rfl ?_
  intro Z hZ
  unfold S_settle at hp
  dsimp only at hp
  iterate 1 (first | refine hZ _ _ _ _ ⟨rfl, ?_⟩ | refine hZ _ _ _ _ ⟨_, _, (by repeat (first | exact up_s | assumption | refine up_n (by omega) ?_)), adl (by omega), (by rfl), ?_⟩ | refine hZ _ _ _ _ ⟨_, _, (by repeat (first | exact up_s | assumption | refine up_n (by omega) ?_)), adl (by omega), (by first | assumption | exact vp_in_nI (by omega) (by omega)), ?_⟩ | refine hZ _ _ _ _ ⟨_, (by repeat (first | exact up_s | assumption | refine up_n (by omega) ?_)), adl (by omega), (by rfl), trivial, ?_⟩ | refine hZ _ _ _ _ ⟨trivial, ?_⟩ | refine hZ _ _ _ _ ⟨_, _, _, _, (by repeat (first | exact up_s | assumption | refine up_n (by omega) ?_)), (by first | exact Or.inr (Or.inr rfl) | exact Or.inr (Or.inl rfl) | exact Or.inl rfl), adl (by omega), (by first | assumption | exact vp_in_nI (by omega) (by omega)), rowsF_at (by omega), ?_⟩ | refine hZ _ _ _ _ ?_)
  show Z _ 1 _ _
  refine hZ _ _ _ _ ⟨⟨_, (by repeat (first | exact up_s | assumption | refine up_n (by omega) ?_))⟩, adl (by omega), rfl, ?_⟩
  refine c_hasNoYard CC0 o2 ?_
  show Z _ 4 _ _
  by_cases hn : n = 0
  · rw [if_pos hn] at hp
    rw [decide_eq_true hn]
    repeat (first | refine hZ _ _ _ _ ⟨rfl, ?_⟩ | refine hZ _ _ _ _ ⟨_, _, (by repeat (first | exact up_s | assumption | refine up_n (by omega) ?_)), adl (by omega), (by rfl), ?_⟩ | refine hZ _ _ _ _ ⟨_, _, (by repeat (first | exact up_s | assumption | refine up_n (by omega) ?_)), adl (by omega), (by first | assumption | exact vp_in_nI (by omega) (by omega)), ?_⟩ | refine hZ _ _ _ _ ⟨_, (by repeat (first | exact up_s | assumption | refine up_n (by omega) ?_)), adl (by omega), (by rfl), trivial, ?_⟩ | refine hZ _ _ _ _ ⟨trivial, ?_⟩ | refine hZ _ _ _ _ ⟨_, _, _, _, (by repeat (first | exact up_s | assumption | refine up_n (by omega) ?_)), (by first | exact Or.inr (Or.inr rfl) | exact Or.inr (Or.inl rfl) | exact Or.inl rfl), adl (by omega), (by first | assumption | exact vp_in_nI (by omega) (by omega)), rowsF_at (by omega), ?_⟩ | refine hZ _ _ _ _ ?_)
    refine ⟨fun c => absurd c (by decide), fun c => ?_⟩
    repeat (first | refine hZ _ _ _ _ ⟨rfl, ?_⟩ | refine hZ _ _ _ _ ⟨_, _, (by repeat (first | exact up_s | assumption | refine up_n (by omega) ?_)), adl (by omega), (by rfl), ?_⟩ | refine hZ _ _ _ _ ⟨_, _, (by repeat (first | exact up_s | assumption | refine up_n (by omega) ?_)), adl (by omega), (by first | assumption | exact vp_in_nI (by omega) (by omega)), ?_⟩ | refine hZ _ _ _ _ ⟨_, (by repeat (first | exact up_s | assumption | refine up_n (by omega) ?_)), adl (by omega), (by rfl), trivial, ?_⟩ | refine hZ _ _ _ _ ⟨trivial, ?_⟩ | refine hZ _ _ _ _ ⟨_, _, _, _, (by repeat (first | exact up_s | assumption | refine up_n (by omega) ?_)), (by first | exact Or.inr (Or.inr rfl) | exact Or.inr (Or.inl rfl) | exact Or.inl rfl), adl (by omega), (by first | assumption | exact vp_in_nI (by omega) (by omega)), rowsF_at (by omega), ?_⟩ | refine hZ _ _ _ _ ?_)
    rw [lbm3]
    exact hp h Fr.rf CY0
  · rw [if_neg hn] at hp
    rw [decide_eq_false hn]
    have Y : Yw n a w κ := by rcases o1 with z | z; · omega
                              · exact z.2
    repeat (first | refine hZ _ _ _ _ ⟨rfl, ?_⟩ | refine hZ _ _ _ _ ⟨_, _, (by repeat (first | exact up_s | assumption | refine up_n (by omega) ?_)), adl (by omega), (by rfl), ?_⟩ | refine hZ _ _ _ _ ⟨_, _, (by repeat (first | exact up_s | assumption | refine up_n (by omega) ?_)), adl (by omega), (by first | assumption | exact vp_in_nI (by omega) (by omega)), ?_⟩ | refine hZ _ _ _ _ ⟨_, (by repeat (first | exact up_s | assumption | refine up_n (by omega) ?_)), adl (by omega), (by rfl), trivial, ?_⟩ | refine hZ _ _ _ _ ⟨trivial, ?_⟩ | refine hZ _ _ _ _ ⟨_, _, _, _, (by repeat (first | exact up_s | assumption | refine up_n (by omega) ?_)), (by first | exact Or.inr (Or.inr rfl) | exact Or.inr (Or.inl rfl) | exact Or.inl rfl), adl (by omega), (by first | assumption | exact vp_in_nI (by omega) (by omega)), rowsF_at (by omega), ?_⟩ | refine hZ _ _ _ _ ?_)
    refine ⟨fun c => ?_, fun c => absurd rfl c⟩
    iterate 4 (first | refine hZ _ _ _ _ ⟨rfl, ?_⟩ | refine hZ _ _ _ _ ⟨_, _, (by repeat (first | exact up_s | assumption | refine up_n (by omega) ?_)), adl (by omega), (by rfl), ?_⟩ | refine hZ _ _ _ _ ⟨_, _, (by repeat (first | exact up_s | assumption | refine up_n (by omega) ?_)), adl (by omega), (by first | assumption | exact vp_in_nI (by omega) (by omega)), ?_⟩ | refine hZ _ _ _ _ ⟨_, (by repeat (first | exact up_s | assumption | refine up_n (by omega) ?_)), adl (by omega), (by rfl), trivial, ?_⟩ | refine hZ _ _ _ _ ⟨trivial, ?_⟩ | refine hZ _ _ _ _ ⟨_, _, _, _, (by repeat (first | exact up_s | assumption | refine up_n (by omega) ?_)), (by first | exact Or.inr (Or.inr rfl) | exact Or.inr (Or.inl rfl) | exact Or.inl rfl), adl (by omega), (by first | assumption | exact vp_in_nI (by omega) (by omega)), rowsF_at (by omega), ?_⟩ | refine hZ _ _ _ _ ?_)
    show Z _ 18 _ _
    refine hZ _ _ _ _ ⟨⟨_, (by repeat (first | exact up_s | assumption | refine up_n (by omega) ?_))⟩, adl (by omega), rfl, ?_⟩
    refine c_Heaps_settle G V Y K0 (by omega) hf hx (fun h' f' t' u y hst K' hf' ht' F' => ?_)
    show Z _ 21 _ _
    obtain ⟨q1, q2⟩ := odo_eq hst
    repeat (first | refine hZ _ _ _ _ ⟨rfl, ?_⟩ | refine hZ _ _ _ _ ⟨_, _, (by repeat (first | exact up_s | assumption | refine up_n (by omega) ?_)), adl (by omega), (by rfl), ?_⟩ | refine hZ _ _ _ _ ⟨_, _, (by repeat (first | exact up_s | assumption | refine up_n (by omega) ?_)), adl (by omega), (by first | assumption | exact vp_in_nI (by omega) (by omega)), ?_⟩ | refine hZ _ _ _ _ ⟨_, (by repeat (first | exact up_s | assumption | refine up_n (by omega) ?_)), adl (by omega), (by rfl), trivial, ?_⟩ | refine hZ _ _ _ _ ⟨trivial, ?_⟩ | refine hZ _ _ _ _ ⟨_, _, _, _, (by repeat (first | exact up_s | assumption | refine up_n (by omega) ?_)), (by first | exact Or.inr (Or.inr rfl) | exact Or.inr (Or.inl rfl) | exact Or.inl rfl), adl (by omega), (by first | assumption | exact vp_in_nI (by omega) (by omega)), rowsF_at (by omega), ?_⟩ | refine hZ _ _ _ _ ?_)
    rw [sm_congr q1]
    rw [sm_congr q1, sm_congr (g := fun i => (odo n a w κ x).1 i * w i) (fun i hi => by rw [q1 i hi])] at K'
    refine hp h' (F'.wide (by omega) (by omega)) ⟨g, d, k, e, CC0.hps F' ⟨_, _, K', fun q hq => ?_, fun q hq => ?_⟩⟩
    · rw [hf' q hq, q2 q hq]
    · rw [ht' q hq, ht q hq, q1 q hq]
/-- the readings become others -/
theorem CC.rds {h h' : AH} {g d k e : Nat} {Y : YS} {H : HS} {R : RS} {S : SS} {tr fl : Int32} {cn : Nat} {pl : Nat → Nat} {td : Nat → Int32} (C : CC h g d k e (Y, H, R, S, tr, fl)) (f : Fr 2 11 h h') (hr : Rds h' cn pl td) : CC h' g d k e (Y, H, (cn, pl, td), S, tr, fl) := by
  obtain ⟨n, a, w, κ⟩ := Y
  obtain ⟨x, tp, fa, to⟩ := H
  obtain ⟨cn', pl', td'⟩ := R
  obtain ⟨z, m, c⟩ := S
  obtain ⟨c0, c1, c2, c3, c4, c5, c6, c7, c8⟩ := C
  have hw := c0
  unfold Wh at hw
  exact ⟨c0, c1.fr f (by omega), c2.fr f (by omega), hr, c4.fr f (by omega), c5.fr f (by omega), c6.fr f (by omega), c7.fr f (by omega), c8.fr f (by omega)⟩
def S_reading (s : St) (p t : Int32) : Int32 × St := match s with
  | ((n, a, w, κ), H, (cn, pl, td), S, tr, fl) => if inb p n = false then (-1, s) else if inb t 1000 = false then (-2, s) else if 8 ≤ cn then (-4, s) else (nI cn, ((n, a, w, κ), H, (cn + 1, updN pl cn p.toNatClampNeg, upd td cn t), S, tr, fl))
theorem lb8 : (Int8.ofInt 8).toInt32 = nI 8 := by decide
theorem C_reading {l : Launch} {h : AH} {s : St} {p t : Int32} {P : Option Value → AH → Prop} (C : CY h s) (O : Ok s) (hp : ∀ h', Fr 0 61 h h' → CY h' (S_reading s p t).2 → P (some (.int (S_reading s p t).1)) h') : Sem l QX6_reading 82 h [.ref 0, .int p, .int t] P := by
  have CY0 := C
  obtain ⟨⟨n, a, w, κ⟩, ⟨x, tp, fa, to⟩, ⟨cn, pl, td⟩, ⟨z, m, c⟩, tr, fl⟩ := s
  obtain ⟨g, d, k, e, C⟩ := C
  have CC0 := C
  obtain ⟨c0, c1, c2, c3, c4, c5, c6, c7, c8⟩ := C
  obtain ⟨o1, o2, o3, o4, o5⟩ := O
  have G1 := c5
  unfold Wh at c0
  unfold Obj at c1
  obtain ⟨pc, td', R, hv, h5, h8⟩ := c3
  have R0 := R
  obtain ⟨rN, s0, s1, s2⟩ := R
  obtain ⟨B, pit, kind, deg, brs, G, hdi, V⟩ := c5
  obtain ⟨gN, r0, r1, r2, r3, r4, r5, r6⟩ := G
  refine iX6_reading rfl ?_
  intro Z hZ
  unfold S_reading at hp
  dsimp only at hp
  iterate 3 (first | refine hZ _ _ _ _ ⟨rfl, ?_⟩ | refine hZ _ _ _ _ ⟨_, _, (by repeat (first | exact up_s | assumption | refine up_n (by omega) ?_)), adl (by omega), (by rfl), ?_⟩ | refine hZ _ _ _ _ ⟨_, _, (by repeat (first | exact up_s | assumption | refine up_n (by omega) ?_)), adl (by omega), (by first | assumption | exact vp_in_nI (by omega) (by omega)), ?_⟩ | refine hZ _ _ _ _ ⟨_, (by repeat (first | exact up_s | assumption | refine up_n (by omega) ?_)), adl (by omega), (by rfl), trivial, ?_⟩ | refine hZ _ _ _ _ ⟨trivial, ?_⟩ | refine hZ _ _ _ _ ⟨_, _, _, _, (by repeat (first | exact up_s | assumption | refine up_n (by omega) ?_)), (by first | exact Or.inr (Or.inr rfl) | exact Or.inr (Or.inl rfl) | exact Or.inl rfl), adl (by omega), (by first | assumption | exact vp_in_nI (by omega) (by omega)), rowsF_at (by omega), ?_⟩ | refine hZ _ _ _ _ ?_)
  show Z _ 5 _ _
  refine hZ _ _ _ _ ⟨⟨_, (by repeat (first | exact up_s | assumption | refine up_n (by omega) ?_))⟩, adl (by omega), rfl, ?_⟩
  refine c_isPl G1 o2 ?_
  show Z _ 8 _ _
  rcases inb_of (v := p) (n := n) (by omega) with ⟨h1, h2⟩ | ⟨h1, j, h2, h3⟩
  · rw [h1]
    rw [if_pos h1] at hp
    repeat (first | refine hZ _ _ _ _ ⟨rfl, ?_⟩ | refine hZ _ _ _ _ ⟨_, _, (by repeat (first | exact up_s | assumption | refine up_n (by omega) ?_)), adl (by omega), (by rfl), ?_⟩ | refine hZ _ _ _ _ ⟨_, _, (by repeat (first | exact up_s | assumption | refine up_n (by omega) ?_)), adl (by omega), (by first | assumption | exact vp_in_nI (by omega) (by omega)), ?_⟩ | refine hZ _ _ _ _ ⟨_, (by repeat (first | exact up_s | assumption | refine up_n (by omega) ?_)), adl (by omega), (by rfl), trivial, ?_⟩ | refine hZ _ _ _ _ ⟨trivial, ?_⟩ | refine hZ _ _ _ _ ⟨_, _, _, _, (by repeat (first | exact up_s | assumption | refine up_n (by omega) ?_)), (by first | exact Or.inr (Or.inr rfl) | exact Or.inr (Or.inl rfl) | exact Or.inl rfl), adl (by omega), (by first | assumption | exact vp_in_nI (by omega) (by omega)), rowsF_at (by omega), ?_⟩ | refine hZ _ _ _ _ ?_)
    refine ⟨fun c => absurd rfl c, fun c => ?_⟩
    repeat (first | refine hZ _ _ _ _ ⟨rfl, ?_⟩ | refine hZ _ _ _ _ ⟨_, _, (by repeat (first | exact up_s | assumption | refine up_n (by omega) ?_)), adl (by omega), (by rfl), ?_⟩ | refine hZ _ _ _ _ ⟨_, _, (by repeat (first | exact up_s | assumption | refine up_n (by omega) ?_)), adl (by omega), (by first | assumption | exact vp_in_nI (by omega) (by omega)), ?_⟩ | refine hZ _ _ _ _ ⟨_, (by repeat (first | exact up_s | assumption | refine up_n (by omega) ?_)), adl (by omega), (by rfl), trivial, ?_⟩ | refine hZ _ _ _ _ ⟨trivial, ?_⟩ | refine hZ _ _ _ _ ⟨_, _, _, _, (by repeat (first | exact up_s | assumption | refine up_n (by omega) ?_)), (by first | exact Or.inr (Or.inr rfl) | exact Or.inr (Or.inl rfl) | exact Or.inl rfl), adl (by omega), (by first | assumption | exact vp_in_nI (by omega) (by omega)), rowsF_at (by omega), ?_⟩ | refine hZ _ _ _ _ ?_)
    exact hp h Fr.rf CY0
  · rw [h1]
    rw [if_neg (by rw [h1]; decide)] at hp
    subst h3
    repeat (first | refine hZ _ _ _ _ ⟨rfl, ?_⟩ | refine hZ _ _ _ _ ⟨_, _, (by repeat (first | exact up_s | assumption | refine up_n (by omega) ?_)), adl (by omega), (by rfl), ?_⟩ | refine hZ _ _ _ _ ⟨_, _, (by repeat (first | exact up_s | assumption | refine up_n (by omega) ?_)), adl (by omega), (by first | assumption | exact vp_in_nI (by omega) (by omega)), ?_⟩ | refine hZ _ _ _ _ ⟨_, (by repeat (first | exact up_s | assumption | refine up_n (by omega) ?_)), adl (by omega), (by rfl), trivial, ?_⟩ | refine hZ _ _ _ _ ⟨trivial, ?_⟩ | refine hZ _ _ _ _ ⟨_, _, _, _, (by repeat (first | exact up_s | assumption | refine up_n (by omega) ?_)), (by first | exact Or.inr (Or.inr rfl) | exact Or.inr (Or.inl rfl) | exact Or.inl rfl), adl (by omega), (by first | assumption | exact vp_in_nI (by omega) (by omega)), rowsF_at (by omega), ?_⟩ | refine hZ _ _ _ _ ?_)
    refine ⟨fun c => ?_, fun c => absurd c (by decide)⟩
    repeat (first | refine hZ _ _ _ _ ⟨rfl, ?_⟩ | refine hZ _ _ _ _ ⟨_, _, (by repeat (first | exact up_s | assumption | refine up_n (by omega) ?_)), adl (by omega), (by rfl), ?_⟩ | refine hZ _ _ _ _ ⟨_, _, (by repeat (first | exact up_s | assumption | refine up_n (by omega) ?_)), adl (by omega), (by first | assumption | exact vp_in_nI (by omega) (by omega)), ?_⟩ | refine hZ _ _ _ _ ⟨_, (by repeat (first | exact up_s | assumption | refine up_n (by omega) ?_)), adl (by omega), (by rfl), trivial, ?_⟩ | refine hZ _ _ _ _ ⟨trivial, ?_⟩ | refine hZ _ _ _ _ ⟨_, _, _, _, (by repeat (first | exact up_s | assumption | refine up_n (by omega) ?_)), (by first | exact Or.inr (Or.inr rfl) | exact Or.inr (Or.inl rfl) | exact Or.inl rfl), adl (by omega), (by first | assumption | exact vp_in_nI (by omega) (by omega)), rowsF_at (by omega), ?_⟩ | refine hZ _ _ _ _ ?_)
    rcases inb_of (v := t) (n := 1000) (by decide) with ⟨h4, h5'⟩ | ⟨h4, i, h5', h6⟩
    · rw [if_pos h4] at hp
      have bad : Z h 24 [some (.ref 0), some (.int (nI j)), some (.int t)] [] := by
        repeat (first | refine hZ _ _ _ _ ⟨rfl, ?_⟩ | refine hZ _ _ _ _ ⟨_, _, (by repeat (first | exact up_s | assumption | refine up_n (by omega) ?_)), adl (by omega), (by rfl), ?_⟩ | refine hZ _ _ _ _ ⟨_, _, (by repeat (first | exact up_s | assumption | refine up_n (by omega) ?_)), adl (by omega), (by first | assumption | exact vp_in_nI (by omega) (by omega)), ?_⟩ | refine hZ _ _ _ _ ⟨_, (by repeat (first | exact up_s | assumption | refine up_n (by omega) ?_)), adl (by omega), (by rfl), trivial, ?_⟩ | refine hZ _ _ _ _ ⟨trivial, ?_⟩ | refine hZ _ _ _ _ ⟨_, _, _, _, (by repeat (first | exact up_s | assumption | refine up_n (by omega) ?_)), (by first | exact Or.inr (Or.inr rfl) | exact Or.inr (Or.inl rfl) | exact Or.inl rfl), adl (by omega), (by first | assumption | exact vp_in_nI (by omega) (by omega)), rowsF_at (by omega), ?_⟩ | refine hZ _ _ _ _ ?_)
        rw [lbm2]
        exact hp h Fr.rf CY0
      refine ⟨fun c => bad, fun c => ?_⟩
      rcases h5' with h5' | h5'
      · exact absurd h5' c
      · repeat (first | refine hZ _ _ _ _ ⟨rfl, ?_⟩ | refine hZ _ _ _ _ ⟨_, _, (by repeat (first | exact up_s | assumption | refine up_n (by omega) ?_)), adl (by omega), (by rfl), ?_⟩ | refine hZ _ _ _ _ ⟨_, _, (by repeat (first | exact up_s | assumption | refine up_n (by omega) ?_)), adl (by omega), (by first | assumption | exact vp_in_nI (by omega) (by omega)), ?_⟩ | refine hZ _ _ _ _ ⟨_, (by repeat (first | exact up_s | assumption | refine up_n (by omega) ?_)), adl (by omega), (by rfl), trivial, ?_⟩ | refine hZ _ _ _ _ ⟨trivial, ?_⟩ | refine hZ _ _ _ _ ⟨_, _, _, _, (by repeat (first | exact up_s | assumption | refine up_n (by omega) ?_)), (by first | exact Or.inr (Or.inr rfl) | exact Or.inr (Or.inl rfl) | exact Or.inl rfl), adl (by omega), (by first | assumption | exact vp_in_nI (by omega) (by omega)), rowsF_at (by omega), ?_⟩ | refine hZ _ _ _ _ ?_)
        rw [ls999]
        exact ⟨fun c => absurd c (not_le_of_inb (n := 999) (by decide) h5'), fun c => bad⟩
    · rw [if_neg (by rw [h4]; decide)] at hp
      subst h6
      refine ⟨fun c => absurd c (nI_pos (by omega)), fun c => ?_⟩
      repeat (first | refine hZ _ _ _ _ ⟨rfl, ?_⟩ | refine hZ _ _ _ _ ⟨_, _, (by repeat (first | exact up_s | assumption | refine up_n (by omega) ?_)), adl (by omega), (by rfl), ?_⟩ | refine hZ _ _ _ _ ⟨_, _, (by repeat (first | exact up_s | assumption | refine up_n (by omega) ?_)), adl (by omega), (by first | assumption | exact vp_in_nI (by omega) (by omega)), ?_⟩ | refine hZ _ _ _ _ ⟨_, (by repeat (first | exact up_s | assumption | refine up_n (by omega) ?_)), adl (by omega), (by rfl), trivial, ?_⟩ | refine hZ _ _ _ _ ⟨trivial, ?_⟩ | refine hZ _ _ _ _ ⟨_, _, _, _, (by repeat (first | exact up_s | assumption | refine up_n (by omega) ?_)), (by first | exact Or.inr (Or.inr rfl) | exact Or.inr (Or.inl rfl) | exact Or.inl rfl), adl (by omega), (by first | assumption | exact vp_in_nI (by omega) (by omega)), rowsF_at (by omega), ?_⟩ | refine hZ _ _ _ _ ?_)
      rw [ls999]
      refine ⟨fun c => ?_, fun c => absurd (nI_le (by omega) (by omega)) c⟩
      repeat (first | refine hZ _ _ _ _ ⟨rfl, ?_⟩ | refine hZ _ _ _ _ ⟨_, _, (by repeat (first | exact up_s | assumption | refine up_n (by omega) ?_)), adl (by omega), (by rfl), ?_⟩ | refine hZ _ _ _ _ ⟨_, _, (by repeat (first | exact up_s | assumption | refine up_n (by omega) ?_)), adl (by omega), (by first | assumption | exact vp_in_nI (by omega) (by omega)), ?_⟩ | refine hZ _ _ _ _ ⟨_, (by repeat (first | exact up_s | assumption | refine up_n (by omega) ?_)), adl (by omega), (by rfl), trivial, ?_⟩ | refine hZ _ _ _ _ ⟨trivial, ?_⟩ | refine hZ _ _ _ _ ⟨_, _, _, _, (by repeat (first | exact up_s | assumption | refine up_n (by omega) ?_)), (by first | exact Or.inr (Or.inr rfl) | exact Or.inr (Or.inl rfl) | exact Or.inl rfl), adl (by omega), (by first | assumption | exact vp_in_nI (by omega) (by omega)), rowsF_at (by omega), ?_⟩ | refine hZ _ _ _ _ ?_)
      rw [lb8]
      by_cases hc : 8 ≤ cn
      · rw [if_pos hc] at hp
        refine ⟨fun c => absurd c (nI_nlt hc (by omega)), fun c => ?_⟩
        repeat (first | refine hZ _ _ _ _ ⟨rfl, ?_⟩ | refine hZ _ _ _ _ ⟨_, _, (by repeat (first | exact up_s | assumption | refine up_n (by omega) ?_)), adl (by omega), (by rfl), ?_⟩ | refine hZ _ _ _ _ ⟨_, _, (by repeat (first | exact up_s | assumption | refine up_n (by omega) ?_)), adl (by omega), (by first | assumption | exact vp_in_nI (by omega) (by omega)), ?_⟩ | refine hZ _ _ _ _ ⟨_, (by repeat (first | exact up_s | assumption | refine up_n (by omega) ?_)), adl (by omega), (by rfl), trivial, ?_⟩ | refine hZ _ _ _ _ ⟨trivial, ?_⟩ | refine hZ _ _ _ _ ⟨_, _, _, _, (by repeat (first | exact up_s | assumption | refine up_n (by omega) ?_)), (by first | exact Or.inr (Or.inr rfl) | exact Or.inr (Or.inl rfl) | exact Or.inl rfl), adl (by omega), (by first | assumption | exact vp_in_nI (by omega) (by omega)), rowsF_at (by omega), ?_⟩ | refine hZ _ _ _ _ ?_)
        rw [lbm4]
        exact hp h Fr.rf CY0
      · rw [if_neg hc] at hp
        refine ⟨fun c => ?_, fun c => absurd (nI_lt (by omega) (by omega)) c⟩
        iterate 4 (first | refine hZ _ _ _ _ ⟨rfl, ?_⟩ | refine hZ _ _ _ _ ⟨_, _, (by repeat (first | exact up_s | assumption | refine up_n (by omega) ?_)), adl (by omega), (by rfl), ?_⟩ | refine hZ _ _ _ _ ⟨_, _, (by repeat (first | exact up_s | assumption | refine up_n (by omega) ?_)), adl (by omega), (by first | assumption | exact vp_in_nI (by omega) (by omega)), ?_⟩ | refine hZ _ _ _ _ ⟨_, (by repeat (first | exact up_s | assumption | refine up_n (by omega) ?_)), adl (by omega), (by rfl), trivial, ?_⟩ | refine hZ _ _ _ _ ⟨trivial, ?_⟩ | refine hZ _ _ _ _ ⟨_, _, _, _, (by repeat (first | exact up_s | assumption | refine up_n (by omega) ?_)), (by first | exact Or.inr (Or.inr rfl) | exact Or.inr (Or.inl rfl) | exact Or.inl rfl), adl (by omega), (by first | assumption | exact vp_in_nI (by omega) (by omega)), rowsF_at (by omega), ?_⟩ | refine hZ _ _ _ _ ?_)
        show Z _ 48 _ _
        refine hZ _ _ _ _ ⟨⟨_, (by repeat (first | exact up_s | assumption | refine up_n (by omega) ?_))⟩, adl (by omega), rfl, ?_⟩
        refine c_Readings_note R0 (by omega) (fun h' R' F' => ?_)
        show Z _ 51 _ _
        have c1' : h' 0 = _ := (F' 0 (by omega)).trans c1
        have R1 := R'
        obtain ⟨-, q0, q1, q2⟩ := R'
        repeat (first | refine hZ _ _ _ _ ⟨rfl, ?_⟩ | refine hZ _ _ _ _ ⟨_, _, (by repeat (first | exact up_s | assumption | refine up_n (by omega) ?_)), adl (by omega), (by rfl), ?_⟩ | refine hZ _ _ _ _ ⟨_, _, (by repeat (first | exact up_s | assumption | refine up_n (by omega) ?_)), adl (by omega), (by first | assumption | exact vp_in_nI (by omega) (by omega)), ?_⟩ | refine hZ _ _ _ _ ⟨_, (by repeat (first | exact up_s | assumption | refine up_n (by omega) ?_)), adl (by omega), (by rfl), trivial, ?_⟩ | refine hZ _ _ _ _ ⟨trivial, ?_⟩ | refine hZ _ _ _ _ ⟨_, _, _, _, (by repeat (first | exact up_s | assumption | refine up_n (by omega) ?_)), (by first | exact Or.inr (Or.inr rfl) | exact Or.inr (Or.inl rfl) | exact Or.inl rfl), adl (by omega), (by first | assumption | exact vp_in_nI (by omega) (by omega)), rowsF_at (by omega), ?_⟩ | refine hZ _ _ _ _ ?_)
        rw [lit_1, pk_sub (by omega), Nat.add_sub_cancel]
        rw [nI_clamp (by omega)] at hp
        refine hp h' (F'.wide (by omega) (by omega)) ⟨g, d, k, e, CC0.rds (F'.wide (by omega) (by omega)) ⟨_, _, R1, fun i' hi' => ?_, h5.fr F' (by omega), h8.fr F' (by omega)⟩⟩
        by_cases e1 : i' = cn
        · rw [upd_s e1, upd_s e1, upd_s e1, show updN pl cn j i' = j from if_pos e1]
          exact ⟨rfl, rfl⟩
        · rw [pk_un e1, pk_un e1, pk_un e1, show updN pl cn j i' = pl i' from if_neg e1]
          exact hv i' (by omega)
def S_back (s : St) (v : Int32) : Int32 × St := match s with
  | (Y, H, (cn, pl, td), S, tr, fl) => if inb v (cn + 1) = false then (-2, s) else (nI (cn - v.toNatClampNeg), (Y, H, (cn - v.toNatClampNeg, pl, td), S, tr, fl))
theorem C_back {l : Launch} {h : AH} {s : St} {v : Int32} {P : Option Value → AH → Prop} (C : CY h s) (O : Ok s) (hp : ∀ h', Fr 0 61 h h' → CY h' (S_back s v).2 → P (some (.int (S_back s v).1)) h') : Sem l QX6_back 82 h [.ref 0, .int v] P := by
  have CY0 := C
  obtain ⟨⟨n, a, w, κ⟩, ⟨x, tp, fa, to⟩, ⟨cn, pl, td⟩, ⟨z, m, c⟩, tr, fl⟩ := s
  obtain ⟨g, d, k, e, C⟩ := C
  have CC0 := C
  obtain ⟨c0, c1, c2, c3, c4, c5, c6, c7, c8⟩ := C
  obtain ⟨o1, o2, o3, o4, o5⟩ := O
  unfold Obj at c1
  obtain ⟨pc, td', R, hv, h5, h8⟩ := c3
  obtain ⟨rN, s0, s1, s2⟩ := R
  refine iX6_back rfl ?_
  intro Z hZ
  unfold S_back at hp
  dsimp only at hp
  rcases inb_of (v := v) (n := cn + 1) (by omega) with ⟨h4, h5'⟩ | ⟨h4, i, h5', h6⟩
  · rw [if_pos h4] at hp
    have bad : Z h 15 [some (.ref 0), some (.int v)] [] := by
      repeat (first | refine hZ _ _ _ _ ⟨rfl, ?_⟩ | refine hZ _ _ _ _ ⟨_, _, (by repeat (first | exact up_s | assumption | refine up_n (by omega) ?_)), adl (by omega), (by rfl), ?_⟩ | refine hZ _ _ _ _ ⟨_, _, (by repeat (first | exact up_s | assumption | refine up_n (by omega) ?_)), adl (by omega), (by first | assumption | exact vp_in_nI (by omega) (by omega)), ?_⟩ | refine hZ _ _ _ _ ⟨_, (by repeat (first | exact up_s | assumption | refine up_n (by omega) ?_)), adl (by omega), (by rfl), trivial, ?_⟩ | refine hZ _ _ _ _ ⟨trivial, ?_⟩ | refine hZ _ _ _ _ ⟨_, _, _, _, (by repeat (first | exact up_s | assumption | refine up_n (by omega) ?_)), (by first | exact Or.inr (Or.inr rfl) | exact Or.inr (Or.inl rfl) | exact Or.inl rfl), adl (by omega), (by first | assumption | exact vp_in_nI (by omega) (by omega)), rowsF_at (by omega), ?_⟩ | refine hZ _ _ _ _ ?_)
      rw [lbm2]
      exact hp h Fr.rf CY0
    repeat (first | refine hZ _ _ _ _ ⟨rfl, ?_⟩ | refine hZ _ _ _ _ ⟨_, _, (by repeat (first | exact up_s | assumption | refine up_n (by omega) ?_)), adl (by omega), (by rfl), ?_⟩ | refine hZ _ _ _ _ ⟨_, _, (by repeat (first | exact up_s | assumption | refine up_n (by omega) ?_)), adl (by omega), (by first | assumption | exact vp_in_nI (by omega) (by omega)), ?_⟩ | refine hZ _ _ _ _ ⟨_, (by repeat (first | exact up_s | assumption | refine up_n (by omega) ?_)), adl (by omega), (by rfl), trivial, ?_⟩ | refine hZ _ _ _ _ ⟨trivial, ?_⟩ | refine hZ _ _ _ _ ⟨_, _, _, _, (by repeat (first | exact up_s | assumption | refine up_n (by omega) ?_)), (by first | exact Or.inr (Or.inr rfl) | exact Or.inr (Or.inl rfl) | exact Or.inl rfl), adl (by omega), (by first | assumption | exact vp_in_nI (by omega) (by omega)), rowsF_at (by omega), ?_⟩ | refine hZ _ _ _ _ ?_)
    refine ⟨fun c => bad, fun c => ?_⟩
    rcases h5' with h5' | h5'
    · exact absurd h5' c
    · repeat (first | refine hZ _ _ _ _ ⟨rfl, ?_⟩ | refine hZ _ _ _ _ ⟨_, _, (by repeat (first | exact up_s | assumption | refine up_n (by omega) ?_)), adl (by omega), (by rfl), ?_⟩ | refine hZ _ _ _ _ ⟨_, _, (by repeat (first | exact up_s | assumption | refine up_n (by omega) ?_)), adl (by omega), (by first | assumption | exact vp_in_nI (by omega) (by omega)), ?_⟩ | refine hZ _ _ _ _ ⟨_, (by repeat (first | exact up_s | assumption | refine up_n (by omega) ?_)), adl (by omega), (by rfl), trivial, ?_⟩ | refine hZ _ _ _ _ ⟨trivial, ?_⟩ | refine hZ _ _ _ _ ⟨_, _, _, _, (by repeat (first | exact up_s | assumption | refine up_n (by omega) ?_)), (by first | exact Or.inr (Or.inr rfl) | exact Or.inr (Or.inl rfl) | exact Or.inl rfl), adl (by omega), (by first | assumption | exact vp_in_nI (by omega) (by omega)), rowsF_at (by omega), ?_⟩ | refine hZ _ _ _ _ ?_)
      exact ⟨fun c => absurd c (not_le_of_inb (by omega) h5'), fun c => bad⟩
  · rw [if_neg (by rw [h4]; decide)] at hp
    subst h6
    rw [nI_clamp (by omega)] at hp
    repeat (first | refine hZ _ _ _ _ ⟨rfl, ?_⟩ | refine hZ _ _ _ _ ⟨_, _, (by repeat (first | exact up_s | assumption | refine up_n (by omega) ?_)), adl (by omega), (by rfl), ?_⟩ | refine hZ _ _ _ _ ⟨_, _, (by repeat (first | exact up_s | assumption | refine up_n (by omega) ?_)), adl (by omega), (by first | assumption | exact vp_in_nI (by omega) (by omega)), ?_⟩ | refine hZ _ _ _ _ ⟨_, (by repeat (first | exact up_s | assumption | refine up_n (by omega) ?_)), adl (by omega), (by rfl), trivial, ?_⟩ | refine hZ _ _ _ _ ⟨trivial, ?_⟩ | refine hZ _ _ _ _ ⟨_, _, _, _, (by repeat (first | exact up_s | assumption | refine up_n (by omega) ?_)), (by first | exact Or.inr (Or.inr rfl) | exact Or.inr (Or.inl rfl) | exact Or.inl rfl), adl (by omega), (by first | assumption | exact vp_in_nI (by omega) (by omega)), rowsF_at (by omega), ?_⟩ | refine hZ _ _ _ _ ?_)
    refine ⟨fun c => absurd c (nI_pos (by omega)), fun c => ?_⟩
    repeat (first | refine hZ _ _ _ _ ⟨rfl, ?_⟩ | refine hZ _ _ _ _ ⟨_, _, (by repeat (first | exact up_s | assumption | refine up_n (by omega) ?_)), adl (by omega), (by rfl), ?_⟩ | refine hZ _ _ _ _ ⟨_, _, (by repeat (first | exact up_s | assumption | refine up_n (by omega) ?_)), adl (by omega), (by first | assumption | exact vp_in_nI (by omega) (by omega)), ?_⟩ | refine hZ _ _ _ _ ⟨_, (by repeat (first | exact up_s | assumption | refine up_n (by omega) ?_)), adl (by omega), (by rfl), trivial, ?_⟩ | refine hZ _ _ _ _ ⟨trivial, ?_⟩ | refine hZ _ _ _ _ ⟨_, _, _, _, (by repeat (first | exact up_s | assumption | refine up_n (by omega) ?_)), (by first | exact Or.inr (Or.inr rfl) | exact Or.inr (Or.inl rfl) | exact Or.inl rfl), adl (by omega), (by first | assumption | exact vp_in_nI (by omega) (by omega)), rowsF_at (by omega), ?_⟩ | refine hZ _ _ _ _ ?_)
    refine ⟨fun c => ?_, fun c => absurd (nI_le (by omega) (by omega)) c⟩
    repeat (first | refine hZ _ _ _ _ ⟨rfl, ?_⟩ | refine hZ _ _ _ _ ⟨_, _, (by repeat (first | exact up_s | assumption | refine up_n (by omega) ?_)), adl (by omega), (by rfl), ?_⟩ | refine hZ _ _ _ _ ⟨_, _, (by repeat (first | exact up_s | assumption | refine up_n (by omega) ?_)), adl (by omega), (by first | assumption | exact vp_in_nI (by omega) (by omega)), ?_⟩ | refine hZ _ _ _ _ ⟨_, (by repeat (first | exact up_s | assumption | refine up_n (by omega) ?_)), adl (by omega), (by rfl), trivial, ?_⟩ | refine hZ _ _ _ _ ⟨trivial, ?_⟩ | refine hZ _ _ _ _ ⟨_, _, _, _, (by repeat (first | exact up_s | assumption | refine up_n (by omega) ?_)), (by first | exact Or.inr (Or.inr rfl) | exact Or.inr (Or.inl rfl) | exact Or.inl rfl), adl (by omega), (by first | assumption | exact vp_in_nI (by omega) (by omega)), rowsF_at (by omega), ?_⟩ | refine hZ _ _ _ _ ?_)
    rw [pk_sub (by omega)]
    have F : Fr 2 11 h (va_up h 2 (.inr (3, [.ref (2 + 1), .ref (2 + 2), .ref (2 + 3), .ref (2 + 6), .int (nI (cn - i))]))) := Fr.rf.up (by omega) (by omega)
    have F2 : Fr 2 3 h (va_up h 2 (.inr (3, [.ref (2 + 1), .ref (2 + 2), .ref (2 + 3), .ref (2 + 6), .int (nI (cn - i))]))) := Fr.rf.up (by omega) (by omega)
    refine hp _ (F.wide (by omega) (by omega)) ⟨g, d, k, e, CC0.rds F ⟨pc, td', ⟨rN, (by repeat (first | exact up_s | assumption | refine up_n (by omega) ?_)), (by repeat (first | exact up_s | assumption | refine up_n (by omega) ?_)), (by repeat (first | exact up_s | assumption | refine up_n (by omega) ?_))⟩, fun j hj => hv j (by omega), h5.fr F2 (by omega), h8.fr F2 (by omega)⟩⟩
def S_many (s : St) (v : Int32) : Int32 := match s with
  | ((n, _, _, _), (x, _, fa, to), (cn, _, _), _, _, _) => if v.toInt = 0 then nI n else if v.toInt = 1 then nI (sm x n) else if v.toInt = 2 then fa else if v.toInt = 3 then to else if v.toInt = 4 then nI cn else -2
theorem C_many {l : Launch} {h : AH} {s : St} {v : Int32} {P : Option Value → AH → Prop} (C : CY h s) (O : Ok s) (hp : ∀ h', Fr 0 61 h h' → CY h' s → P (some (.int (S_many s v))) h') : Sem l QX6_many 82 h [.ref 0, .int v] P := by
  have hp := hp h Fr.rf C
  obtain ⟨⟨n, a, w, κ⟩, ⟨x, tp, fa, to⟩, ⟨cn, pl, td⟩, ⟨z, m, c⟩, tr, fl⟩ := s
  obtain ⟨g, d, k, e, c0, c1, c2, c3, c4, c5, c6, c7, c8⟩ := C
  obtain ⟨o1, o2, o3⟩ := O
  unfold Wh at c0
  unfold Obj at c1
  obtain ⟨f, t, K, hf, ht⟩ := c7
  have K0 := K
  obtain ⟨kN, k0, k1, k2⟩ := K
  obtain ⟨B, pit, kind, deg, brs, G, hdi, V⟩ := c5
  have G0 := G
  obtain ⟨gN, r0, r1, r2, r3, r4, r5, r6⟩ := G
  obtain ⟨pc, td', R, hv, h5, h8⟩ := c3
  obtain ⟨rN, s0, s1, s2⟩ := R
  refine iX6_many rfl ?_
  intro Z hZ
  unfold S_many at hp
  dsimp only at hp
  repeat (first | refine hZ _ _ _ _ ⟨rfl, ?_⟩ | refine hZ _ _ _ _ ⟨_, _, (by repeat (first | exact up_s | assumption | refine up_n (by omega) ?_)), adl (by omega), (by rfl), ?_⟩ | refine hZ _ _ _ _ ⟨_, _, (by repeat (first | exact up_s | assumption | refine up_n (by omega) ?_)), adl (by omega), (by first | assumption | exact vp_in_nI (by omega) (by omega)), ?_⟩ | refine hZ _ _ _ _ ⟨_, (by repeat (first | exact up_s | assumption | refine up_n (by omega) ?_)), adl (by omega), (by rfl), trivial, ?_⟩ | refine hZ _ _ _ _ ⟨trivial, ?_⟩ | refine hZ _ _ _ _ ⟨_, _, _, _, (by repeat (first | exact up_s | assumption | refine up_n (by omega) ?_)), (by first | exact Or.inr (Or.inr rfl) | exact Or.inr (Or.inl rfl) | exact Or.inl rfl), adl (by omega), (by first | assumption | exact vp_in_nI (by omega) (by omega)), rowsF_at (by omega), ?_⟩ | refine hZ _ _ _ _ ?_)
  refine ⟨fun c => ?_, fun n0 => ⟨fun c => ?_, fun n1 => ⟨fun c => ?_, fun n2 => ⟨fun c => ?_, fun n3 => ⟨fun c => ?_, fun n4 => ?_⟩⟩⟩⟩⟩
  · rw [if_pos c] at hp
    repeat (first | refine hZ _ _ _ _ ⟨rfl, ?_⟩ | refine hZ _ _ _ _ ⟨_, _, (by repeat (first | exact up_s | assumption | refine up_n (by omega) ?_)), adl (by omega), (by rfl), ?_⟩ | refine hZ _ _ _ _ ⟨_, _, (by repeat (first | exact up_s | assumption | refine up_n (by omega) ?_)), adl (by omega), (by first | assumption | exact vp_in_nI (by omega) (by omega)), ?_⟩ | refine hZ _ _ _ _ ⟨_, (by repeat (first | exact up_s | assumption | refine up_n (by omega) ?_)), adl (by omega), (by rfl), trivial, ?_⟩ | refine hZ _ _ _ _ ⟨trivial, ?_⟩ | refine hZ _ _ _ _ ⟨_, _, _, _, (by repeat (first | exact up_s | assumption | refine up_n (by omega) ?_)), (by first | exact Or.inr (Or.inr rfl) | exact Or.inr (Or.inl rfl) | exact Or.inl rfl), adl (by omega), (by first | assumption | exact vp_in_nI (by omega) (by omega)), rowsF_at (by omega), ?_⟩ | refine hZ _ _ _ _ ?_)
    exact hp
  · have c : v.toInt = 1 := c
    rw [if_neg n0, if_pos c] at hp
    iterate 4 (first | refine hZ _ _ _ _ ⟨rfl, ?_⟩ | refine hZ _ _ _ _ ⟨_, _, (by repeat (first | exact up_s | assumption | refine up_n (by omega) ?_)), adl (by omega), (by rfl), ?_⟩ | refine hZ _ _ _ _ ⟨_, _, (by repeat (first | exact up_s | assumption | refine up_n (by omega) ?_)), adl (by omega), (by first | assumption | exact vp_in_nI (by omega) (by omega)), ?_⟩ | refine hZ _ _ _ _ ⟨_, (by repeat (first | exact up_s | assumption | refine up_n (by omega) ?_)), adl (by omega), (by rfl), trivial, ?_⟩ | refine hZ _ _ _ _ ⟨trivial, ?_⟩ | refine hZ _ _ _ _ ⟨_, _, _, _, (by repeat (first | exact up_s | assumption | refine up_n (by omega) ?_)), (by first | exact Or.inr (Or.inr rfl) | exact Or.inr (Or.inl rfl) | exact Or.inl rfl), adl (by omega), (by first | assumption | exact vp_in_nI (by omega) (by omega)), rowsF_at (by omega), ?_⟩ | refine hZ _ _ _ _ ?_)
    show Z _ 52 _ _
    refine hZ _ _ _ _ ⟨⟨_, (by repeat (first | exact up_s | assumption | refine up_n (by omega) ?_))⟩, adl (by omega), rfl, ?_⟩
    refine c_Heaps_grains G0 K0 o2 hf ?_
    show Z _ 55 _ _
    repeat (first | refine hZ _ _ _ _ ⟨rfl, ?_⟩ | refine hZ _ _ _ _ ⟨_, _, (by repeat (first | exact up_s | assumption | refine up_n (by omega) ?_)), adl (by omega), (by rfl), ?_⟩ | refine hZ _ _ _ _ ⟨_, _, (by repeat (first | exact up_s | assumption | refine up_n (by omega) ?_)), adl (by omega), (by first | assumption | exact vp_in_nI (by omega) (by omega)), ?_⟩ | refine hZ _ _ _ _ ⟨_, (by repeat (first | exact up_s | assumption | refine up_n (by omega) ?_)), adl (by omega), (by rfl), trivial, ?_⟩ | refine hZ _ _ _ _ ⟨trivial, ?_⟩ | refine hZ _ _ _ _ ⟨_, _, _, _, (by repeat (first | exact up_s | assumption | refine up_n (by omega) ?_)), (by first | exact Or.inr (Or.inr rfl) | exact Or.inr (Or.inl rfl) | exact Or.inl rfl), adl (by omega), (by first | assumption | exact vp_in_nI (by omega) (by omega)), rowsF_at (by omega), ?_⟩ | refine hZ _ _ _ _ ?_)
    exact hp
  · have c : v.toInt = 2 := c
    have n1 : ¬ v.toInt = 1 := n1
    rw [if_neg n0, if_neg n1, if_pos c] at hp
    repeat (first | refine hZ _ _ _ _ ⟨rfl, ?_⟩ | refine hZ _ _ _ _ ⟨_, _, (by repeat (first | exact up_s | assumption | refine up_n (by omega) ?_)), adl (by omega), (by rfl), ?_⟩ | refine hZ _ _ _ _ ⟨_, _, (by repeat (first | exact up_s | assumption | refine up_n (by omega) ?_)), adl (by omega), (by first | assumption | exact vp_in_nI (by omega) (by omega)), ?_⟩ | refine hZ _ _ _ _ ⟨_, (by repeat (first | exact up_s | assumption | refine up_n (by omega) ?_)), adl (by omega), (by rfl), trivial, ?_⟩ | refine hZ _ _ _ _ ⟨trivial, ?_⟩ | refine hZ _ _ _ _ ⟨_, _, _, _, (by repeat (first | exact up_s | assumption | refine up_n (by omega) ?_)), (by first | exact Or.inr (Or.inr rfl) | exact Or.inr (Or.inl rfl) | exact Or.inl rfl), adl (by omega), (by first | assumption | exact vp_in_nI (by omega) (by omega)), rowsF_at (by omega), ?_⟩ | refine hZ _ _ _ _ ?_)
    exact hp
  · have c : v.toInt = 3 := c
    have n1 : ¬ v.toInt = 1 := n1
    have n2 : ¬ v.toInt = 2 := n2
    rw [if_neg n0, if_neg n1, if_neg n2, if_pos c] at hp
    repeat (first | refine hZ _ _ _ _ ⟨rfl, ?_⟩ | refine hZ _ _ _ _ ⟨_, _, (by repeat (first | exact up_s | assumption | refine up_n (by omega) ?_)), adl (by omega), (by rfl), ?_⟩ | refine hZ _ _ _ _ ⟨_, _, (by repeat (first | exact up_s | assumption | refine up_n (by omega) ?_)), adl (by omega), (by first | assumption | exact vp_in_nI (by omega) (by omega)), ?_⟩ | refine hZ _ _ _ _ ⟨_, (by repeat (first | exact up_s | assumption | refine up_n (by omega) ?_)), adl (by omega), (by rfl), trivial, ?_⟩ | refine hZ _ _ _ _ ⟨trivial, ?_⟩ | refine hZ _ _ _ _ ⟨_, _, _, _, (by repeat (first | exact up_s | assumption | refine up_n (by omega) ?_)), (by first | exact Or.inr (Or.inr rfl) | exact Or.inr (Or.inl rfl) | exact Or.inl rfl), adl (by omega), (by first | assumption | exact vp_in_nI (by omega) (by omega)), rowsF_at (by omega), ?_⟩ | refine hZ _ _ _ _ ?_)
    exact hp
  · have c : v.toInt = 4 := c
    have n1 : ¬ v.toInt = 1 := n1
    have n2 : ¬ v.toInt = 2 := n2
    have n3 : ¬ v.toInt = 3 := n3
    rw [if_neg n0, if_neg n1, if_neg n2, if_neg n3, if_pos c] at hp
    repeat (first | refine hZ _ _ _ _ ⟨rfl, ?_⟩ | refine hZ _ _ _ _ ⟨_, _, (by repeat (first | exact up_s | assumption | refine up_n (by omega) ?_)), adl (by omega), (by rfl), ?_⟩ | refine hZ _ _ _ _ ⟨_, _, (by repeat (first | exact up_s | assumption | refine up_n (by omega) ?_)), adl (by omega), (by first | assumption | exact vp_in_nI (by omega) (by omega)), ?_⟩ | refine hZ _ _ _ _ ⟨_, (by repeat (first | exact up_s | assumption | refine up_n (by omega) ?_)), adl (by omega), (by rfl), trivial, ?_⟩ | refine hZ _ _ _ _ ⟨trivial, ?_⟩ | refine hZ _ _ _ _ ⟨_, _, _, _, (by repeat (first | exact up_s | assumption | refine up_n (by omega) ?_)), (by first | exact Or.inr (Or.inr rfl) | exact Or.inr (Or.inl rfl) | exact Or.inl rfl), adl (by omega), (by first | assumption | exact vp_in_nI (by omega) (by omega)), rowsF_at (by omega), ?_⟩ | refine hZ _ _ _ _ ?_)
    exact hp
  · have n1 : ¬ v.toInt = 1 := n1
    have n2 : ¬ v.toInt = 2 := n2
    have n3 : ¬ v.toInt = 3 := n3
    have n4 : ¬ v.toInt = 4 := n4
    rw [if_neg n0, if_neg n1, if_neg n2, if_neg n3, if_neg n4] at hp
    repeat (first | refine hZ _ _ _ _ ⟨rfl, ?_⟩ | refine hZ _ _ _ _ ⟨_, _, (by repeat (first | exact up_s | assumption | refine up_n (by omega) ?_)), adl (by omega), (by rfl), ?_⟩ | refine hZ _ _ _ _ ⟨_, _, (by repeat (first | exact up_s | assumption | refine up_n (by omega) ?_)), adl (by omega), (by first | assumption | exact vp_in_nI (by omega) (by omega)), ?_⟩ | refine hZ _ _ _ _ ⟨_, (by repeat (first | exact up_s | assumption | refine up_n (by omega) ?_)), adl (by omega), (by rfl), trivial, ?_⟩ | refine hZ _ _ _ _ ⟨trivial, ?_⟩ | refine hZ _ _ _ _ ⟨_, _, _, _, (by repeat (first | exact up_s | assumption | refine up_n (by omega) ?_)), (by first | exact Or.inr (Or.inr rfl) | exact Or.inr (Or.inl rfl) | exact Or.inl rfl), adl (by omega), (by first | assumption | exact vp_in_nI (by omega) (by omega)), rowsF_at (by omega), ?_⟩ | refine hZ _ _ _ _ ?_)
    exact hp
theorem C_trace {l : Launch} {h : AH} {s : St} {P : Option Value → AH → Prop} (C : CY h s) (hp : ∀ h', Fr 0 61 h h' → CY h' s → P (some (.int s.2.2.2.2.1)) h') : Sem l QX6_trace 82 h [.ref 0] P := by
  have hp := hp h Fr.rf C
  obtain ⟨⟨n, a, w, κ⟩, ⟨x, tp, fa, to⟩, ⟨cn, pl, td⟩, ⟨z, m, c⟩, tr, fl⟩ := s
  obtain ⟨g, d, k, e, c0, c1, c2⟩ := C
  unfold Obj at c1
  refine iX6_trace rfl ?_
  intro Z hZ
  repeat (first | refine hZ _ _ _ _ ⟨rfl, ?_⟩ | refine hZ _ _ _ _ ⟨_, _, (by repeat (first | exact up_s | assumption | refine up_n (by omega) ?_)), adl (by omega), (by rfl), ?_⟩ | refine hZ _ _ _ _ ⟨_, _, (by repeat (first | exact up_s | assumption | refine up_n (by omega) ?_)), adl (by omega), (by first | assumption | exact vp_in_nI (by omega) (by omega)), ?_⟩ | refine hZ _ _ _ _ ⟨_, (by repeat (first | exact up_s | assumption | refine up_n (by omega) ?_)), adl (by omega), (by rfl), trivial, ?_⟩ | refine hZ _ _ _ _ ⟨trivial, ?_⟩ | refine hZ _ _ _ _ ⟨_, _, _, _, (by repeat (first | exact up_s | assumption | refine up_n (by omega) ?_)), (by first | exact Or.inr (Or.inr rfl) | exact Or.inr (Or.inl rfl) | exact Or.inl rfl), adl (by omega), (by first | assumption | exact vp_in_nI (by omega) (by omega)), rowsF_at (by omega), ?_⟩ | refine hZ _ _ _ _ ?_)
  exact hp
theorem C_fault {l : Launch} {h : AH} {s : St} {P : Option Value → AH → Prop} (C : CY h s) (hp : ∀ h', Fr 0 61 h h' → CY h' s → P (some (.int s.2.2.2.2.2)) h') : Sem l QX6_fault 82 h [.ref 0] P := by
  have hp := hp h Fr.rf C
  obtain ⟨⟨n, a, w, κ⟩, ⟨x, tp, fa, to⟩, ⟨cn, pl, td⟩, ⟨z, m, c⟩, tr, fl⟩ := s
  obtain ⟨g, d, k, e, c0, c1, c2⟩ := C
  unfold Obj at c1
  refine iX6_fault rfl ?_
  intro Z hZ
  repeat (first | refine hZ _ _ _ _ ⟨rfl, ?_⟩ | refine hZ _ _ _ _ ⟨_, _, (by repeat (first | exact up_s | assumption | refine up_n (by omega) ?_)), adl (by omega), (by rfl), ?_⟩ | refine hZ _ _ _ _ ⟨_, _, (by repeat (first | exact up_s | assumption | refine up_n (by omega) ?_)), adl (by omega), (by first | assumption | exact vp_in_nI (by omega) (by omega)), ?_⟩ | refine hZ _ _ _ _ ⟨_, (by repeat (first | exact up_s | assumption | refine up_n (by omega) ?_)), adl (by omega), (by rfl), trivial, ?_⟩ | refine hZ _ _ _ _ ⟨trivial, ?_⟩ | refine hZ _ _ _ _ ⟨_, _, _, _, (by repeat (first | exact up_s | assumption | refine up_n (by omega) ?_)), (by first | exact Or.inr (Or.inr rfl) | exact Or.inr (Or.inl rfl) | exact Or.inl rfl), adl (by omega), (by first | assumption | exact vp_in_nI (by omega) (by omega)), rowsF_at (by omega), ?_⟩ | refine hZ _ _ _ _ ?_)
  exact hp
/-- fault and trace set -/
def setF (s : St) (f : Nat) : St := match s with
  | (Y, H, R, S, tr, _) => (Y, H, R, S, tr, nI f)
def setT (s : St) (t : Int32) : St := match s with
  | (Y, H, R, S, _, fl) => (Y, H, R, S, t, fl)
def S_as (s : St) (p v : Int32) : Int32 × St := match s with
  | ((n, _, _, κ), _, _, _, _, _) => if inb p n = false then (-1, setF s 0) else if inb v 3 = false then (-2, setF s 0) else if κ p.toNatClampNeg < v.toNatClampNeg then (-10 - nI 2, setF s 2) else (1, setF s 0)
theorem C_as {l : Launch} {h : AH} {s : St} {p v : Int32} {P : Option Value → AH → Prop} (C : CY h s) (O : Ok s) (hp : ∀ h', Fr 0 61 h h' → CY h' (S_as s p v).2 → P (some (.int (S_as s p v).1)) h') : Sem l QX6_as 82 h [.ref 0, .int p, .int v] P := by
  obtain ⟨⟨n, a, w, κ⟩, ⟨x, tp, fa, to⟩, ⟨cn, pl, td⟩, ⟨z, m, c⟩, tr, fl⟩ := s
  obtain ⟨g, d, k, e, C⟩ := C
  obtain ⟨o1, o2, o3⟩ := O
  have c1 := C.2.1
  have c0 := C.1
  unfold Wh at c0
  unfold Obj at c1
  refine iX6_as rfl ?_
  intro Z hZ
  unfold S_as at hp
  dsimp only at hp
  iterate 3 (first | refine hZ _ _ _ _ ⟨rfl, ?_⟩ | refine hZ _ _ _ _ ⟨_, _, (by repeat (first | exact up_s | assumption | refine up_n (by omega) ?_)), adl (by omega), (by rfl), ?_⟩ | refine hZ _ _ _ _ ⟨_, _, (by repeat (first | exact up_s | assumption | refine up_n (by omega) ?_)), adl (by omega), (by first | assumption | exact vp_in_nI (by omega) (by omega)), ?_⟩ | refine hZ _ _ _ _ ⟨_, (by repeat (first | exact up_s | assumption | refine up_n (by omega) ?_)), adl (by omega), (by rfl), trivial, ?_⟩ | refine hZ _ _ _ _ ⟨trivial, ?_⟩ | refine hZ _ _ _ _ ⟨_, _, _, _, (by repeat (first | exact up_s | assumption | refine up_n (by omega) ?_)), (by first | exact Or.inr (Or.inr rfl) | exact Or.inr (Or.inl rfl) | exact Or.inl rfl), adl (by omega), (by first | assumption | exact vp_in_nI (by omega) (by omega)), rowsF_at (by omega), ?_⟩ | refine hZ _ _ _ _ ?_)
  show Z _ 5 _ _
  rw [lit_0]
  generalize hh : va_up h 0 _ = h1
  have F1 : Fr 0 1 h h1 := by rw [← hh]; exact Fr.rf.up (by omega) (by omega)
  have C1 : CC h1 g d k e ((n, a, w, κ), (x, tp, fa, to), (cn, pl, td), (z, m, c), tr, nI 0) := C.obj F1 (by rw [← hh]; exact up_s)
  have CC1 := C1
  obtain ⟨-, c1', c2, c3, c4, c5, c6, c7, c8⟩ := C1
  unfold Obj at c1'
  have G1 := c5
  obtain ⟨B, pit, kind, deg, brs, G, hdi, V⟩ := c5
  obtain ⟨gN, r0, r1, r2, r3, r4, r5, r6⟩ := G
  obtain ⟨vB, vP, vK, vD, vR⟩ := V
  iterate 3 (first | refine hZ _ _ _ _ ⟨rfl, ?_⟩ | refine hZ _ _ _ _ ⟨_, _, (by repeat (first | exact up_s | assumption | refine up_n (by omega) ?_)), adl (by omega), (by rfl), ?_⟩ | refine hZ _ _ _ _ ⟨_, _, (by repeat (first | exact up_s | assumption | refine up_n (by omega) ?_)), adl (by omega), (by first | assumption | exact vp_in_nI (by omega) (by omega)), ?_⟩ | refine hZ _ _ _ _ ⟨_, (by repeat (first | exact up_s | assumption | refine up_n (by omega) ?_)), adl (by omega), (by rfl), trivial, ?_⟩ | refine hZ _ _ _ _ ⟨trivial, ?_⟩ | refine hZ _ _ _ _ ⟨_, _, _, _, (by repeat (first | exact up_s | assumption | refine up_n (by omega) ?_)), (by first | exact Or.inr (Or.inr rfl) | exact Or.inr (Or.inl rfl) | exact Or.inl rfl), adl (by omega), (by first | assumption | exact vp_in_nI (by omega) (by omega)), rowsF_at (by omega), ?_⟩ | refine hZ _ _ _ _ ?_)
  show Z _ 10 _ _
  refine hZ _ _ _ _ ⟨⟨_, (by repeat (first | exact up_s | assumption | refine up_n (by omega) ?_))⟩, adl (by omega), rfl, ?_⟩
  refine c_isPl G1 o2 ?_
  show Z _ 13 _ _
  rcases inb_of (v := p) (n := n) (by omega) with ⟨h1', h2⟩ | ⟨h1', j, h2, h3⟩
  · rw [h1']
    rw [if_pos h1'] at hp
    repeat (first | refine hZ _ _ _ _ ⟨rfl, ?_⟩ | refine hZ _ _ _ _ ⟨_, _, (by repeat (first | exact up_s | assumption | refine up_n (by omega) ?_)), adl (by omega), (by rfl), ?_⟩ | refine hZ _ _ _ _ ⟨_, _, (by repeat (first | exact up_s | assumption | refine up_n (by omega) ?_)), adl (by omega), (by first | assumption | exact vp_in_nI (by omega) (by omega)), ?_⟩ | refine hZ _ _ _ _ ⟨_, (by repeat (first | exact up_s | assumption | refine up_n (by omega) ?_)), adl (by omega), (by rfl), trivial, ?_⟩ | refine hZ _ _ _ _ ⟨trivial, ?_⟩ | refine hZ _ _ _ _ ⟨_, _, _, _, (by repeat (first | exact up_s | assumption | refine up_n (by omega) ?_)), (by first | exact Or.inr (Or.inr rfl) | exact Or.inr (Or.inl rfl) | exact Or.inl rfl), adl (by omega), (by first | assumption | exact vp_in_nI (by omega) (by omega)), rowsF_at (by omega), ?_⟩ | refine hZ _ _ _ _ ?_)
    refine ⟨fun c => absurd rfl c, fun c => ?_⟩
    repeat (first | refine hZ _ _ _ _ ⟨rfl, ?_⟩ | refine hZ _ _ _ _ ⟨_, _, (by repeat (first | exact up_s | assumption | refine up_n (by omega) ?_)), adl (by omega), (by rfl), ?_⟩ | refine hZ _ _ _ _ ⟨_, _, (by repeat (first | exact up_s | assumption | refine up_n (by omega) ?_)), adl (by omega), (by first | assumption | exact vp_in_nI (by omega) (by omega)), ?_⟩ | refine hZ _ _ _ _ ⟨_, (by repeat (first | exact up_s | assumption | refine up_n (by omega) ?_)), adl (by omega), (by rfl), trivial, ?_⟩ | refine hZ _ _ _ _ ⟨trivial, ?_⟩ | refine hZ _ _ _ _ ⟨_, _, _, _, (by repeat (first | exact up_s | assumption | refine up_n (by omega) ?_)), (by first | exact Or.inr (Or.inr rfl) | exact Or.inr (Or.inl rfl) | exact Or.inl rfl), adl (by omega), (by first | assumption | exact vp_in_nI (by omega) (by omega)), rowsF_at (by omega), ?_⟩ | refine hZ _ _ _ _ ?_)
    exact hp h1 (F1.wide (by omega) (by omega)) ⟨g, d, k, e, CC1⟩
  · rw [h1']
    rw [if_neg (by rw [h1']; decide)] at hp
    subst h3
    repeat (first | refine hZ _ _ _ _ ⟨rfl, ?_⟩ | refine hZ _ _ _ _ ⟨_, _, (by repeat (first | exact up_s | assumption | refine up_n (by omega) ?_)), adl (by omega), (by rfl), ?_⟩ | refine hZ _ _ _ _ ⟨_, _, (by repeat (first | exact up_s | assumption | refine up_n (by omega) ?_)), adl (by omega), (by first | assumption | exact vp_in_nI (by omega) (by omega)), ?_⟩ | refine hZ _ _ _ _ ⟨_, (by repeat (first | exact up_s | assumption | refine up_n (by omega) ?_)), adl (by omega), (by rfl), trivial, ?_⟩ | refine hZ _ _ _ _ ⟨trivial, ?_⟩ | refine hZ _ _ _ _ ⟨_, _, _, _, (by repeat (first | exact up_s | assumption | refine up_n (by omega) ?_)), (by first | exact Or.inr (Or.inr rfl) | exact Or.inr (Or.inl rfl) | exact Or.inl rfl), adl (by omega), (by first | assumption | exact vp_in_nI (by omega) (by omega)), rowsF_at (by omega), ?_⟩ | refine hZ _ _ _ _ ?_)
    refine ⟨fun c => ?_, fun c => absurd c (by decide)⟩
    repeat (first | refine hZ _ _ _ _ ⟨rfl, ?_⟩ | refine hZ _ _ _ _ ⟨_, _, (by repeat (first | exact up_s | assumption | refine up_n (by omega) ?_)), adl (by omega), (by rfl), ?_⟩ | refine hZ _ _ _ _ ⟨_, _, (by repeat (first | exact up_s | assumption | refine up_n (by omega) ?_)), adl (by omega), (by first | assumption | exact vp_in_nI (by omega) (by omega)), ?_⟩ | refine hZ _ _ _ _ ⟨_, (by repeat (first | exact up_s | assumption | refine up_n (by omega) ?_)), adl (by omega), (by rfl), trivial, ?_⟩ | refine hZ _ _ _ _ ⟨trivial, ?_⟩ | refine hZ _ _ _ _ ⟨_, _, _, _, (by repeat (first | exact up_s | assumption | refine up_n (by omega) ?_)), (by first | exact Or.inr (Or.inr rfl) | exact Or.inr (Or.inl rfl) | exact Or.inl rfl), adl (by omega), (by first | assumption | exact vp_in_nI (by omega) (by omega)), rowsF_at (by omega), ?_⟩ | refine hZ _ _ _ _ ?_)
    rcases inb_of (v := v) (n := 3) (by decide) with ⟨h4, h5⟩ | ⟨h4, i, h5, h6⟩
    · rw [if_pos h4] at hp
      have bad : Z h1 27 [some (.ref 0), some (.int (nI j)), some (.int v)] [] := by
        repeat (first | refine hZ _ _ _ _ ⟨rfl, ?_⟩ | refine hZ _ _ _ _ ⟨_, _, (by repeat (first | exact up_s | assumption | refine up_n (by omega) ?_)), adl (by omega), (by rfl), ?_⟩ | refine hZ _ _ _ _ ⟨_, _, (by repeat (first | exact up_s | assumption | refine up_n (by omega) ?_)), adl (by omega), (by first | assumption | exact vp_in_nI (by omega) (by omega)), ?_⟩ | refine hZ _ _ _ _ ⟨_, (by repeat (first | exact up_s | assumption | refine up_n (by omega) ?_)), adl (by omega), (by rfl), trivial, ?_⟩ | refine hZ _ _ _ _ ⟨trivial, ?_⟩ | refine hZ _ _ _ _ ⟨_, _, _, _, (by repeat (first | exact up_s | assumption | refine up_n (by omega) ?_)), (by first | exact Or.inr (Or.inr rfl) | exact Or.inr (Or.inl rfl) | exact Or.inl rfl), adl (by omega), (by first | assumption | exact vp_in_nI (by omega) (by omega)), rowsF_at (by omega), ?_⟩ | refine hZ _ _ _ _ ?_)
        rw [lbm2]
        exact hp h1 (F1.wide (by omega) (by omega)) ⟨g, d, k, e, CC1⟩
      refine ⟨fun c => bad, fun c => ?_⟩
      rcases h5 with h5 | h5
      · exact absurd h5 c
      · repeat (first | refine hZ _ _ _ _ ⟨rfl, ?_⟩ | refine hZ _ _ _ _ ⟨_, _, (by repeat (first | exact up_s | assumption | refine up_n (by omega) ?_)), adl (by omega), (by rfl), ?_⟩ | refine hZ _ _ _ _ ⟨_, _, (by repeat (first | exact up_s | assumption | refine up_n (by omega) ?_)), adl (by omega), (by first | assumption | exact vp_in_nI (by omega) (by omega)), ?_⟩ | refine hZ _ _ _ _ ⟨_, (by repeat (first | exact up_s | assumption | refine up_n (by omega) ?_)), adl (by omega), (by rfl), trivial, ?_⟩ | refine hZ _ _ _ _ ⟨trivial, ?_⟩ | refine hZ _ _ _ _ ⟨_, _, _, _, (by repeat (first | exact up_s | assumption | refine up_n (by omega) ?_)), (by first | exact Or.inr (Or.inr rfl) | exact Or.inr (Or.inl rfl) | exact Or.inl rfl), adl (by omega), (by first | assumption | exact vp_in_nI (by omega) (by omega)), rowsF_at (by omega), ?_⟩ | refine hZ _ _ _ _ ?_)
        rw [lit_2]
        exact ⟨fun c => absurd c (not_le_of_inb (n := 2) (by decide) h5), fun c => bad⟩
    · rw [if_neg (by rw [h4]; decide)] at hp
      subst h6
      rw [nI_clamp (by omega), nI_clamp (by omega)] at hp
      refine ⟨fun c => absurd c (nI_pos (by omega)), fun c => ?_⟩
      repeat (first | refine hZ _ _ _ _ ⟨rfl, ?_⟩ | refine hZ _ _ _ _ ⟨_, _, (by repeat (first | exact up_s | assumption | refine up_n (by omega) ?_)), adl (by omega), (by rfl), ?_⟩ | refine hZ _ _ _ _ ⟨_, _, (by repeat (first | exact up_s | assumption | refine up_n (by omega) ?_)), adl (by omega), (by first | assumption | exact vp_in_nI (by omega) (by omega)), ?_⟩ | refine hZ _ _ _ _ ⟨_, (by repeat (first | exact up_s | assumption | refine up_n (by omega) ?_)), adl (by omega), (by rfl), trivial, ?_⟩ | refine hZ _ _ _ _ ⟨trivial, ?_⟩ | refine hZ _ _ _ _ ⟨_, _, _, _, (by repeat (first | exact up_s | assumption | refine up_n (by omega) ?_)), (by first | exact Or.inr (Or.inr rfl) | exact Or.inr (Or.inl rfl) | exact Or.inl rfl), adl (by omega), (by first | assumption | exact vp_in_nI (by omega) (by omega)), rowsF_at (by omega), ?_⟩ | refine hZ _ _ _ _ ?_)
      rw [lit_2]
      refine ⟨fun c => ?_, fun c => absurd (nI_le (by omega) (by omega)) c⟩
      repeat (first | refine hZ _ _ _ _ ⟨rfl, ?_⟩ | refine hZ _ _ _ _ ⟨_, _, (by repeat (first | exact up_s | assumption | refine up_n (by omega) ?_)), adl (by omega), (by rfl), ?_⟩ | refine hZ _ _ _ _ ⟨_, _, (by repeat (first | exact up_s | assumption | refine up_n (by omega) ?_)), adl (by omega), (by first | assumption | exact vp_in_nI (by omega) (by omega)), ?_⟩ | refine hZ _ _ _ _ ⟨_, (by repeat (first | exact up_s | assumption | refine up_n (by omega) ?_)), adl (by omega), (by rfl), trivial, ?_⟩ | refine hZ _ _ _ _ ⟨trivial, ?_⟩ | refine hZ _ _ _ _ ⟨_, _, _, _, (by repeat (first | exact up_s | assumption | refine up_n (by omega) ?_)), (by first | exact Or.inr (Or.inr rfl) | exact Or.inr (Or.inl rfl) | exact Or.inl rfl), adl (by omega), (by first | assumption | exact vp_in_nI (by omega) (by omega)), rowsF_at (by omega), ?_⟩ | refine hZ _ _ _ _ ?_)
      rw [nI_clamp (by omega), vK j h2]
      have Y : Yw n a w κ := by rcases o1 with z | z; · omega
                                · exact z.2
      have hk2 := Y.2.2.2.2.2.1 j h2
      by_cases hc : κ j < i
      · rw [if_pos hc] at hp
        refine ⟨fun c => ?_, fun c => absurd (nI_lt hc (by omega)) c⟩
        iterate 2 (first | refine hZ _ _ _ _ ⟨rfl, ?_⟩ | refine hZ _ _ _ _ ⟨_, _, (by repeat (first | exact up_s | assumption | refine up_n (by omega) ?_)), adl (by omega), (by rfl), ?_⟩ | refine hZ _ _ _ _ ⟨_, _, (by repeat (first | exact up_s | assumption | refine up_n (by omega) ?_)), adl (by omega), (by first | assumption | exact vp_in_nI (by omega) (by omega)), ?_⟩ | refine hZ _ _ _ _ ⟨_, (by repeat (first | exact up_s | assumption | refine up_n (by omega) ?_)), adl (by omega), (by rfl), trivial, ?_⟩ | refine hZ _ _ _ _ ⟨trivial, ?_⟩ | refine hZ _ _ _ _ ⟨_, _, _, _, (by repeat (first | exact up_s | assumption | refine up_n (by omega) ?_)), (by first | exact Or.inr (Or.inr rfl) | exact Or.inr (Or.inl rfl) | exact Or.inl rfl), adl (by omega), (by first | assumption | exact vp_in_nI (by omega) (by omega)), rowsF_at (by omega), ?_⟩ | refine hZ _ _ _ _ ?_)
        show Z _ 49 _ _
        rw [lit_2]
        refine hZ _ _ _ _ ⟨⟨_, (by repeat (first | exact up_s | assumption | refine up_n (by omega) ?_))⟩, adl (by omega), rfl, ?_⟩
        refine c_faulted CC1 (fun h2 F2 C2 => ?_)
        show Z _ 52 _ _
        repeat (first | refine hZ _ _ _ _ ⟨rfl, ?_⟩ | refine hZ _ _ _ _ ⟨_, _, (by repeat (first | exact up_s | assumption | refine up_n (by omega) ?_)), adl (by omega), (by rfl), ?_⟩ | refine hZ _ _ _ _ ⟨_, _, (by repeat (first | exact up_s | assumption | refine up_n (by omega) ?_)), adl (by omega), (by first | assumption | exact vp_in_nI (by omega) (by omega)), ?_⟩ | refine hZ _ _ _ _ ⟨_, (by repeat (first | exact up_s | assumption | refine up_n (by omega) ?_)), adl (by omega), (by rfl), trivial, ?_⟩ | refine hZ _ _ _ _ ⟨trivial, ?_⟩ | refine hZ _ _ _ _ ⟨_, _, _, _, (by repeat (first | exact up_s | assumption | refine up_n (by omega) ?_)), (by first | exact Or.inr (Or.inr rfl) | exact Or.inr (Or.inl rfl) | exact Or.inl rfl), adl (by omega), (by first | assumption | exact vp_in_nI (by omega) (by omega)), rowsF_at (by omega), ?_⟩ | refine hZ _ _ _ _ ?_)
        exact hp h2 ((F1.tr F2).wide (by omega) (by omega)) ⟨g, d, k, e, C2⟩
      · rw [if_neg hc] at hp
        refine ⟨fun c => absurd c (nI_nlt (by omega) (by omega)), fun c => ?_⟩
        repeat (first | refine hZ _ _ _ _ ⟨rfl, ?_⟩ | refine hZ _ _ _ _ ⟨_, _, (by repeat (first | exact up_s | assumption | refine up_n (by omega) ?_)), adl (by omega), (by rfl), ?_⟩ | refine hZ _ _ _ _ ⟨_, _, (by repeat (first | exact up_s | assumption | refine up_n (by omega) ?_)), adl (by omega), (by first | assumption | exact vp_in_nI (by omega) (by omega)), ?_⟩ | refine hZ _ _ _ _ ⟨_, (by repeat (first | exact up_s | assumption | refine up_n (by omega) ?_)), adl (by omega), (by rfl), trivial, ?_⟩ | refine hZ _ _ _ _ ⟨trivial, ?_⟩ | refine hZ _ _ _ _ ⟨_, _, _, _, (by repeat (first | exact up_s | assumption | refine up_n (by omega) ?_)), (by first | exact Or.inr (Or.inr rfl) | exact Or.inr (Or.inl rfl) | exact Or.inl rfl), adl (by omega), (by first | assumption | exact vp_in_nI (by omega) (by omega)), rowsF_at (by omega), ?_⟩ | refine hZ _ _ _ _ ?_)
        exact hp h1 (F1.wide (by omega) (by omega)) ⟨g, d, k, e, CC1⟩
def trc (t : Int32) (b : Nat) : Int32 := nI 31 * t + nI b
theorem lb31 : (Int8.ofInt 31).toInt32 = nI 31 := by decide
theorem c_leaveTrace {l : Launch} {h : AH} {g d k e b : Nat} {Y : YS} {H : HS} {R : RS} {S : SS} {tr fl : Int32} {P : Option Value → AH → Prop} (C : CC h g d k e (Y, H, R, S, tr, fl))
    (hp : ∀ h', Fr 0 1 h h' → CC h' g d k e (Y, H, R, S, trc tr b, fl) → P none h') : Sem l QX6_leaveTrace 82 h [.ref 0, .int (nI b)] P := by
  have C0 := C
  obtain ⟨c0, c1, c2⟩ := C
  unfold Obj at c1
  refine iX6_leaveTrace rfl ?_
  intro Z hZ
  repeat (first | refine hZ _ _ _ _ ⟨rfl, ?_⟩ | refine hZ _ _ _ _ ⟨_, _, (by repeat (first | exact up_s | assumption | refine up_n (by omega) ?_)), adl (by omega), (by rfl), ?_⟩ | refine hZ _ _ _ _ ⟨_, _, (by repeat (first | exact up_s | assumption | refine up_n (by omega) ?_)), adl (by omega), (by first | assumption | exact vp_in_nI (by omega) (by omega)), ?_⟩ | refine hZ _ _ _ _ ⟨_, (by repeat (first | exact up_s | assumption | refine up_n (by omega) ?_)), adl (by omega), (by rfl), trivial, ?_⟩ | refine hZ _ _ _ _ ⟨trivial, ?_⟩ | refine hZ _ _ _ _ ⟨_, _, _, _, (by repeat (first | exact up_s | assumption | refine up_n (by omega) ?_)), (by first | exact Or.inr (Or.inr rfl) | exact Or.inr (Or.inl rfl) | exact Or.inl rfl), adl (by omega), (by first | assumption | exact vp_in_nI (by omega) (by omega)), rowsF_at (by omega), ?_⟩ | refine hZ _ _ _ _ ?_)
  rw [lb31]
  have F : Fr 0 1 h (va_up h 0 (.inr (6, [.ref 1, .ref 2, .ref 11, .ref 13, .ref 21, .ref 24, .ref g, .ref d, .ref k, .ref e, .int (trc tr b), .int fl]))) := Fr.rf.up (by omega) (by omega)
  exact hp _ F (C0.obj F up_s)
theorem c_strikeLent {l : Launch} {h : AH} {g d k e j n : Nat} {a : Nat → Nat → Nat} {w κ : Nat → Nat} {H : HS} {R : RS} {S : SS} {tr fl : Int32} {P : Option Value → AH → Prop} (C : CC h g d k e ((n, a, w, κ), H, R, S, tr, fl)) (hj : j < n) (hn : n ≤ 5)
    (hp : ∀ h', Fr 0 1 h h' → CC h' g d k e ((n, a, w, κ), H, R, S, trc tr 4, fl) → P (some (.int (nI (w j)))) h') : Sem l QX6_strikeLent 82 h [.ref 0, .int (nI j)] P := by
  have c1 := C.2.1
  unfold Obj at c1
  refine iX6_strikeLent rfl ?_
  intro Z hZ
  iterate 2 (first | refine hZ _ _ _ _ ⟨rfl, ?_⟩ | refine hZ _ _ _ _ ⟨_, _, (by repeat (first | exact up_s | assumption | refine up_n (by omega) ?_)), adl (by omega), (by rfl), ?_⟩ | refine hZ _ _ _ _ ⟨_, _, (by repeat (first | exact up_s | assumption | refine up_n (by omega) ?_)), adl (by omega), (by first | assumption | exact vp_in_nI (by omega) (by omega)), ?_⟩ | refine hZ _ _ _ _ ⟨_, (by repeat (first | exact up_s | assumption | refine up_n (by omega) ?_)), adl (by omega), (by rfl), trivial, ?_⟩ | refine hZ _ _ _ _ ⟨trivial, ?_⟩ | refine hZ _ _ _ _ ⟨_, _, _, _, (by repeat (first | exact up_s | assumption | refine up_n (by omega) ?_)), (by first | exact Or.inr (Or.inr rfl) | exact Or.inr (Or.inl rfl) | exact Or.inl rfl), adl (by omega), (by first | assumption | exact vp_in_nI (by omega) (by omega)), rowsF_at (by omega), ?_⟩ | refine hZ _ _ _ _ ?_)
  show Z _ 2 _ _
  rw [lit_4]
  refine hZ _ _ _ _ ⟨⟨_, (by repeat (first | exact up_s | assumption | refine up_n (by omega) ?_))⟩, adl (by omega), rfl, ?_⟩
  refine c_leaveTrace C (fun h1 F1 C1 => ?_)
  show Z _ 5 _ _
  have CC1 := C1
  obtain ⟨c0, c1', c2, c3, c4, ⟨B, pit, kind, deg, brs, G, hdi, V⟩, c6⟩ := C1
  unfold Wh at c0
  unfold Obj at c1'
  obtain ⟨gN, r0, r1, r2, r3, r4, r5, r6⟩ := G
  repeat (first | refine hZ _ _ _ _ ⟨rfl, ?_⟩ | refine hZ _ _ _ _ ⟨_, _, (by repeat (first | exact up_s | assumption | refine up_n (by omega) ?_)), adl (by omega), (by rfl), ?_⟩ | refine hZ _ _ _ _ ⟨_, _, (by repeat (first | exact up_s | assumption | refine up_n (by omega) ?_)), adl (by omega), (by first | assumption | exact vp_in_nI (by omega) (by omega)), ?_⟩ | refine hZ _ _ _ _ ⟨_, (by repeat (first | exact up_s | assumption | refine up_n (by omega) ?_)), adl (by omega), (by rfl), trivial, ?_⟩ | refine hZ _ _ _ _ ⟨trivial, ?_⟩ | refine hZ _ _ _ _ ⟨_, _, _, _, (by repeat (first | exact up_s | assumption | refine up_n (by omega) ?_)), (by first | exact Or.inr (Or.inr rfl) | exact Or.inr (Or.inl rfl) | exact Or.inl rfl), adl (by omega), (by first | assumption | exact vp_in_nI (by omega) (by omega)), rowsF_at (by omega), ?_⟩ | refine hZ _ _ _ _ ?_)
  rw [nI_clamp (by omega), V.2.1 j hj]
  exact hp h1 F1 CC1
theorem c_strikeDouble {l : Launch} {h : AH} {g d k e : Nat} {Y : YS} {H : HS} {R : RS} {S : SS} {tr fl : Int32} {P : Option Value → AH → Prop} (C : CC h g d k e (Y, H, R, S, tr, fl))
    (hp : ∀ h', Fr 0 1 h h' → CC h' g d k e (Y, H, R, S, trc tr 5, fl) → P (some (.int (nI 60))) h') : Sem l QX6_strikeDouble 82 h [.ref 0] P := by
  have c1 := C.2.1
  unfold Obj at c1
  refine iX6_strikeDouble rfl ?_
  intro Z hZ
  iterate 2 (first | refine hZ _ _ _ _ ⟨rfl, ?_⟩ | refine hZ _ _ _ _ ⟨_, _, (by repeat (first | exact up_s | assumption | refine up_n (by omega) ?_)), adl (by omega), (by rfl), ?_⟩ | refine hZ _ _ _ _ ⟨_, _, (by repeat (first | exact up_s | assumption | refine up_n (by omega) ?_)), adl (by omega), (by first | assumption | exact vp_in_nI (by omega) (by omega)), ?_⟩ | refine hZ _ _ _ _ ⟨_, (by repeat (first | exact up_s | assumption | refine up_n (by omega) ?_)), adl (by omega), (by rfl), trivial, ?_⟩ | refine hZ _ _ _ _ ⟨trivial, ?_⟩ | refine hZ _ _ _ _ ⟨_, _, _, _, (by repeat (first | exact up_s | assumption | refine up_n (by omega) ?_)), (by first | exact Or.inr (Or.inr rfl) | exact Or.inr (Or.inl rfl) | exact Or.inl rfl), adl (by omega), (by first | assumption | exact vp_in_nI (by omega) (by omega)), rowsF_at (by omega), ?_⟩ | refine hZ _ _ _ _ ?_)
  show Z _ 2 _ _
  rw [lit_5]
  refine hZ _ _ _ _ ⟨⟨_, (by repeat (first | exact up_s | assumption | refine up_n (by omega) ?_))⟩, adl (by omega), rfl, ?_⟩
  refine c_leaveTrace C (fun h1 F1 C1 => ?_)
  show Z _ 5 _ _
  repeat (first | refine hZ _ _ _ _ ⟨rfl, ?_⟩ | refine hZ _ _ _ _ ⟨_, _, (by repeat (first | exact up_s | assumption | refine up_n (by omega) ?_)), adl (by omega), (by rfl), ?_⟩ | refine hZ _ _ _ _ ⟨_, _, (by repeat (first | exact up_s | assumption | refine up_n (by omega) ?_)), adl (by omega), (by first | assumption | exact vp_in_nI (by omega) (by omega)), ?_⟩ | refine hZ _ _ _ _ ⟨_, (by repeat (first | exact up_s | assumption | refine up_n (by omega) ?_)), adl (by omega), (by rfl), trivial, ?_⟩ | refine hZ _ _ _ _ ⟨trivial, ?_⟩ | refine hZ _ _ _ _ ⟨_, _, _, _, (by repeat (first | exact up_s | assumption | refine up_n (by omega) ?_)), (by first | exact Or.inr (Or.inr rfl) | exact Or.inr (Or.inl rfl) | exact Or.inl rfl), adl (by omega), (by first | assumption | exact vp_in_nI (by omega) (by omega)), rowsF_at (by omega), ?_⟩ | refine hZ _ _ _ _ ?_)
  exact hp h1 F1 C1
def S_strike (s : St) (p : Int32) : Int32 × St := match s with
  | ((n, _, w, κ), _, _, _, tr, _) => if inb p n = false then (-1, s) else if κ p.toNatClampNeg = 2 then (nI 60, setT s (trc tr 5)) else (nI (w p.toNatClampNeg), setT s (trc tr 4))
theorem C_strike {l : Launch} {h : AH} {s : St} {p : Int32} {P : Option Value → AH → Prop} (C : CY h s) (O : Ok s) (hp : ∀ h', Fr 0 61 h h' → CY h' (S_strike s p).2 → P (some (.int (S_strike s p).1)) h') : Sem l QX6_strike 82 h [.ref 0, .int p] P := by
  have CY0 := C
  obtain ⟨⟨n, a, w, κ⟩, ⟨x, tp, fa, to⟩, ⟨cn, pl, td⟩, ⟨z, m, c⟩, tr, fl⟩ := s
  obtain ⟨g, d, k, e, C⟩ := C
  have CC0 := C
  obtain ⟨c0, c1, c2, c3, c4, c5, c6, c7, c8⟩ := C
  obtain ⟨o1, o2, o3⟩ := O
  have G1 := c5
  unfold Wh at c0
  unfold Obj at c1
  obtain ⟨B, pit, kind, deg, brs, G, hdi, V⟩ := c5
  obtain ⟨gN, r0, r1, r2, r3, r4, r5, r6⟩ := G
  refine iX6_strike rfl ?_
  intro Z hZ
  unfold S_strike at hp
  dsimp only at hp
  iterate 3 (first | refine hZ _ _ _ _ ⟨rfl, ?_⟩ | refine hZ _ _ _ _ ⟨_, _, (by repeat (first | exact up_s | assumption | refine up_n (by omega) ?_)), adl (by omega), (by rfl), ?_⟩ | refine hZ _ _ _ _ ⟨_, _, (by repeat (first | exact up_s | assumption | refine up_n (by omega) ?_)), adl (by omega), (by first | assumption | exact vp_in_nI (by omega) (by omega)), ?_⟩ | refine hZ _ _ _ _ ⟨_, (by repeat (first | exact up_s | assumption | refine up_n (by omega) ?_)), adl (by omega), (by rfl), trivial, ?_⟩ | refine hZ _ _ _ _ ⟨trivial, ?_⟩ | refine hZ _ _ _ _ ⟨_, _, _, _, (by repeat (first | exact up_s | assumption | refine up_n (by omega) ?_)), (by first | exact Or.inr (Or.inr rfl) | exact Or.inr (Or.inl rfl) | exact Or.inl rfl), adl (by omega), (by first | assumption | exact vp_in_nI (by omega) (by omega)), rowsF_at (by omega), ?_⟩ | refine hZ _ _ _ _ ?_)
  show Z _ 5 _ _
  refine hZ _ _ _ _ ⟨⟨_, (by repeat (first | exact up_s | assumption | refine up_n (by omega) ?_))⟩, adl (by omega), rfl, ?_⟩
  refine c_isPl G1 o2 ?_
  show Z _ 8 _ _
  rcases inb_of (v := p) (n := n) (by omega) with ⟨h1, h2⟩ | ⟨h1, j, h2, h3⟩
  · rw [h1]
    rw [if_pos h1] at hp
    repeat (first | refine hZ _ _ _ _ ⟨rfl, ?_⟩ | refine hZ _ _ _ _ ⟨_, _, (by repeat (first | exact up_s | assumption | refine up_n (by omega) ?_)), adl (by omega), (by rfl), ?_⟩ | refine hZ _ _ _ _ ⟨_, _, (by repeat (first | exact up_s | assumption | refine up_n (by omega) ?_)), adl (by omega), (by first | assumption | exact vp_in_nI (by omega) (by omega)), ?_⟩ | refine hZ _ _ _ _ ⟨_, (by repeat (first | exact up_s | assumption | refine up_n (by omega) ?_)), adl (by omega), (by rfl), trivial, ?_⟩ | refine hZ _ _ _ _ ⟨trivial, ?_⟩ | refine hZ _ _ _ _ ⟨_, _, _, _, (by repeat (first | exact up_s | assumption | refine up_n (by omega) ?_)), (by first | exact Or.inr (Or.inr rfl) | exact Or.inr (Or.inl rfl) | exact Or.inl rfl), adl (by omega), (by first | assumption | exact vp_in_nI (by omega) (by omega)), rowsF_at (by omega), ?_⟩ | refine hZ _ _ _ _ ?_)
    refine ⟨fun c => absurd rfl c, fun c => ?_⟩
    repeat (first | refine hZ _ _ _ _ ⟨rfl, ?_⟩ | refine hZ _ _ _ _ ⟨_, _, (by repeat (first | exact up_s | assumption | refine up_n (by omega) ?_)), adl (by omega), (by rfl), ?_⟩ | refine hZ _ _ _ _ ⟨_, _, (by repeat (first | exact up_s | assumption | refine up_n (by omega) ?_)), adl (by omega), (by first | assumption | exact vp_in_nI (by omega) (by omega)), ?_⟩ | refine hZ _ _ _ _ ⟨_, (by repeat (first | exact up_s | assumption | refine up_n (by omega) ?_)), adl (by omega), (by rfl), trivial, ?_⟩ | refine hZ _ _ _ _ ⟨trivial, ?_⟩ | refine hZ _ _ _ _ ⟨_, _, _, _, (by repeat (first | exact up_s | assumption | refine up_n (by omega) ?_)), (by first | exact Or.inr (Or.inr rfl) | exact Or.inr (Or.inl rfl) | exact Or.inl rfl), adl (by omega), (by first | assumption | exact vp_in_nI (by omega) (by omega)), rowsF_at (by omega), ?_⟩ | refine hZ _ _ _ _ ?_)
    exact hp h Fr.rf CY0
  · rw [h1]
    rw [if_neg (by rw [h1]; decide)] at hp
    subst h3
    rw [nI_clamp (by omega)] at hp
    have Y : Yw n a w κ := by rcases o1 with z | z; · omega
                              · exact z.2
    have hk2 := Y.2.2.2.2.2.1 j h2
    repeat (first | refine hZ _ _ _ _ ⟨rfl, ?_⟩ | refine hZ _ _ _ _ ⟨_, _, (by repeat (first | exact up_s | assumption | refine up_n (by omega) ?_)), adl (by omega), (by rfl), ?_⟩ | refine hZ _ _ _ _ ⟨_, _, (by repeat (first | exact up_s | assumption | refine up_n (by omega) ?_)), adl (by omega), (by first | assumption | exact vp_in_nI (by omega) (by omega)), ?_⟩ | refine hZ _ _ _ _ ⟨_, (by repeat (first | exact up_s | assumption | refine up_n (by omega) ?_)), adl (by omega), (by rfl), trivial, ?_⟩ | refine hZ _ _ _ _ ⟨trivial, ?_⟩ | refine hZ _ _ _ _ ⟨_, _, _, _, (by repeat (first | exact up_s | assumption | refine up_n (by omega) ?_)), (by first | exact Or.inr (Or.inr rfl) | exact Or.inr (Or.inl rfl) | exact Or.inl rfl), adl (by omega), (by first | assumption | exact vp_in_nI (by omega) (by omega)), rowsF_at (by omega), ?_⟩ | refine hZ _ _ _ _ ?_)
    refine ⟨fun c => ?_, fun c => absurd c (by decide)⟩
    repeat (first | refine hZ _ _ _ _ ⟨rfl, ?_⟩ | refine hZ _ _ _ _ ⟨_, _, (by repeat (first | exact up_s | assumption | refine up_n (by omega) ?_)), adl (by omega), (by rfl), ?_⟩ | refine hZ _ _ _ _ ⟨_, _, (by repeat (first | exact up_s | assumption | refine up_n (by omega) ?_)), adl (by omega), (by first | assumption | exact vp_in_nI (by omega) (by omega)), ?_⟩ | refine hZ _ _ _ _ ⟨_, (by repeat (first | exact up_s | assumption | refine up_n (by omega) ?_)), adl (by omega), (by rfl), trivial, ?_⟩ | refine hZ _ _ _ _ ⟨trivial, ?_⟩ | refine hZ _ _ _ _ ⟨_, _, _, _, (by repeat (first | exact up_s | assumption | refine up_n (by omega) ?_)), (by first | exact Or.inr (Or.inr rfl) | exact Or.inr (Or.inl rfl) | exact Or.inl rfl), adl (by omega), (by first | assumption | exact vp_in_nI (by omega) (by omega)), rowsF_at (by omega), ?_⟩ | refine hZ _ _ _ _ ?_)
    rw [nI_clamp (by omega), V.2.2.1 j h2, lit_2]
    by_cases hc : κ j = 2
    · rw [if_pos hc] at hp
      refine ⟨fun c => absurd (by rw [hc]) c, fun c => ?_⟩
      iterate 1 (first | refine hZ _ _ _ _ ⟨rfl, ?_⟩ | refine hZ _ _ _ _ ⟨_, _, (by repeat (first | exact up_s | assumption | refine up_n (by omega) ?_)), adl (by omega), (by rfl), ?_⟩ | refine hZ _ _ _ _ ⟨_, _, (by repeat (first | exact up_s | assumption | refine up_n (by omega) ?_)), adl (by omega), (by first | assumption | exact vp_in_nI (by omega) (by omega)), ?_⟩ | refine hZ _ _ _ _ ⟨_, (by repeat (first | exact up_s | assumption | refine up_n (by omega) ?_)), adl (by omega), (by rfl), trivial, ?_⟩ | refine hZ _ _ _ _ ⟨trivial, ?_⟩ | refine hZ _ _ _ _ ⟨_, _, _, _, (by repeat (first | exact up_s | assumption | refine up_n (by omega) ?_)), (by first | exact Or.inr (Or.inr rfl) | exact Or.inr (Or.inl rfl) | exact Or.inl rfl), adl (by omega), (by first | assumption | exact vp_in_nI (by omega) (by omega)), rowsF_at (by omega), ?_⟩ | refine hZ _ _ _ _ ?_)
      show Z _ 27 _ _
      refine hZ _ _ _ _ ⟨⟨_, (by repeat (first | exact up_s | assumption | refine up_n (by omega) ?_))⟩, adl (by omega), rfl, ?_⟩
      refine c_strikeDouble CC0 (fun h1 F1 C1 => ?_)
      show Z _ 30 _ _
      repeat (first | refine hZ _ _ _ _ ⟨rfl, ?_⟩ | refine hZ _ _ _ _ ⟨_, _, (by repeat (first | exact up_s | assumption | refine up_n (by omega) ?_)), adl (by omega), (by rfl), ?_⟩ | refine hZ _ _ _ _ ⟨_, _, (by repeat (first | exact up_s | assumption | refine up_n (by omega) ?_)), adl (by omega), (by first | assumption | exact vp_in_nI (by omega) (by omega)), ?_⟩ | refine hZ _ _ _ _ ⟨_, (by repeat (first | exact up_s | assumption | refine up_n (by omega) ?_)), adl (by omega), (by rfl), trivial, ?_⟩ | refine hZ _ _ _ _ ⟨trivial, ?_⟩ | refine hZ _ _ _ _ ⟨_, _, _, _, (by repeat (first | exact up_s | assumption | refine up_n (by omega) ?_)), (by first | exact Or.inr (Or.inr rfl) | exact Or.inr (Or.inl rfl) | exact Or.inl rfl), adl (by omega), (by first | assumption | exact vp_in_nI (by omega) (by omega)), rowsF_at (by omega), ?_⟩ | refine hZ _ _ _ _ ?_)
      exact hp h1 (F1.wide (by omega) (by omega)) ⟨g, d, k, e, C1⟩
    · rw [if_neg hc] at hp
      refine ⟨fun c => ?_, fun c => absurd ((nI_eq (by omega) (by omega)).mp c) hc⟩
      iterate 2 (first | refine hZ _ _ _ _ ⟨rfl, ?_⟩ | refine hZ _ _ _ _ ⟨_, _, (by repeat (first | exact up_s | assumption | refine up_n (by omega) ?_)), adl (by omega), (by rfl), ?_⟩ | refine hZ _ _ _ _ ⟨_, _, (by repeat (first | exact up_s | assumption | refine up_n (by omega) ?_)), adl (by omega), (by first | assumption | exact vp_in_nI (by omega) (by omega)), ?_⟩ | refine hZ _ _ _ _ ⟨_, (by repeat (first | exact up_s | assumption | refine up_n (by omega) ?_)), adl (by omega), (by rfl), trivial, ?_⟩ | refine hZ _ _ _ _ ⟨trivial, ?_⟩ | refine hZ _ _ _ _ ⟨_, _, _, _, (by repeat (first | exact up_s | assumption | refine up_n (by omega) ?_)), (by first | exact Or.inr (Or.inr rfl) | exact Or.inr (Or.inl rfl) | exact Or.inl rfl), adl (by omega), (by first | assumption | exact vp_in_nI (by omega) (by omega)), rowsF_at (by omega), ?_⟩ | refine hZ _ _ _ _ ?_)
      show Z _ 35 _ _
      refine hZ _ _ _ _ ⟨⟨_, (by repeat (first | exact up_s | assumption | refine up_n (by omega) ?_))⟩, adl (by omega), rfl, ?_⟩
      refine c_strikeLent CC0 h2 o2 (fun h1 F1 C1 => ?_)
      show Z _ 38 _ _
      repeat (first | refine hZ _ _ _ _ ⟨rfl, ?_⟩ | refine hZ _ _ _ _ ⟨_, _, (by repeat (first | exact up_s | assumption | refine up_n (by omega) ?_)), adl (by omega), (by rfl), ?_⟩ | refine hZ _ _ _ _ ⟨_, _, (by repeat (first | exact up_s | assumption | refine up_n (by omega) ?_)), adl (by omega), (by first | assumption | exact vp_in_nI (by omega) (by omega)), ?_⟩ | refine hZ _ _ _ _ ⟨_, (by repeat (first | exact up_s | assumption | refine up_n (by omega) ?_)), adl (by omega), (by rfl), trivial, ?_⟩ | refine hZ _ _ _ _ ⟨trivial, ?_⟩ | refine hZ _ _ _ _ ⟨_, _, _, _, (by repeat (first | exact up_s | assumption | refine up_n (by omega) ?_)), (by first | exact Or.inr (Or.inr rfl) | exact Or.inr (Or.inl rfl) | exact Or.inl rfl), adl (by omega), (by first | assumption | exact vp_in_nI (by omega) (by omega)), rowsF_at (by omega), ?_⟩ | refine hZ _ _ _ _ ?_)
      exact hp h1 (F1.wide (by omega) (by omega)) ⟨g, d, k, e, C1⟩
theorem c_tellPlain {l : Launch} {h : AH} {g d k e j n : Nat} {a : Nat → Nat → Nat} {w κ x : Nat → Nat} {tp : Nat → Int32} {fa to : Int32} {R : RS} {S : SS} {tr fl : Int32} {P : Option Value → AH → Prop} (C : CC h g d k e ((n, a, w, κ), (x, tp, fa, to), R, S, tr, fl)) (hj : j < n) (hn : n ≤ 5)
    (hp : ∀ h', Fr 0 1 h h' → CC h' g d k e ((n, a, w, κ), (x, tp, fa, to), R, S, trc tr 1, fl) → P (some (.int (nI (x j)))) h') : Sem l QX6_tellPlain 82 h [.ref 0, .int (nI j)] P := by
  have c1 := C.2.1
  unfold Obj at c1
  refine iX6_tellPlain rfl ?_
  intro Z hZ
  iterate 2 (first | refine hZ _ _ _ _ ⟨rfl, ?_⟩ | refine hZ _ _ _ _ ⟨_, _, (by repeat (first | exact up_s | assumption | refine up_n (by omega) ?_)), adl (by omega), (by rfl), ?_⟩ | refine hZ _ _ _ _ ⟨_, _, (by repeat (first | exact up_s | assumption | refine up_n (by omega) ?_)), adl (by omega), (by first | assumption | exact vp_in_nI (by omega) (by omega)), ?_⟩ | refine hZ _ _ _ _ ⟨_, (by repeat (first | exact up_s | assumption | refine up_n (by omega) ?_)), adl (by omega), (by rfl), trivial, ?_⟩ | refine hZ _ _ _ _ ⟨trivial, ?_⟩ | refine hZ _ _ _ _ ⟨_, _, _, _, (by repeat (first | exact up_s | assumption | refine up_n (by omega) ?_)), (by first | exact Or.inr (Or.inr rfl) | exact Or.inr (Or.inl rfl) | exact Or.inl rfl), adl (by omega), (by first | assumption | exact vp_in_nI (by omega) (by omega)), rowsF_at (by omega), ?_⟩ | refine hZ _ _ _ _ ?_)
  show Z _ 2 _ _
  rw [lit_1]
  refine hZ _ _ _ _ ⟨⟨_, (by repeat (first | exact up_s | assumption | refine up_n (by omega) ?_))⟩, adl (by omega), rfl, ?_⟩
  refine c_leaveTrace C (fun h1 F1 C1 => ?_)
  show Z _ 5 _ _
  have CC1 := C1
  obtain ⟨c0, c1', c2, c3, c4, c5, c6, ⟨f, t, K, hf, ht⟩, c8⟩ := C1
  unfold Wh at c0
  unfold Obj at c1'
  obtain ⟨kN, k0, k1, k2⟩ := K
  repeat (first | refine hZ _ _ _ _ ⟨rfl, ?_⟩ | refine hZ _ _ _ _ ⟨_, _, (by repeat (first | exact up_s | assumption | refine up_n (by omega) ?_)), adl (by omega), (by rfl), ?_⟩ | refine hZ _ _ _ _ ⟨_, _, (by repeat (first | exact up_s | assumption | refine up_n (by omega) ?_)), adl (by omega), (by first | assumption | exact vp_in_nI (by omega) (by omega)), ?_⟩ | refine hZ _ _ _ _ ⟨_, (by repeat (first | exact up_s | assumption | refine up_n (by omega) ?_)), adl (by omega), (by rfl), trivial, ?_⟩ | refine hZ _ _ _ _ ⟨trivial, ?_⟩ | refine hZ _ _ _ _ ⟨_, _, _, _, (by repeat (first | exact up_s | assumption | refine up_n (by omega) ?_)), (by first | exact Or.inr (Or.inr rfl) | exact Or.inr (Or.inl rfl) | exact Or.inl rfl), adl (by omega), (by first | assumption | exact vp_in_nI (by omega) (by omega)), rowsF_at (by omega), ?_⟩ | refine hZ _ _ _ _ ?_)
  rw [nI_clamp (by omega), hf j hj]
  exact hp h1 F1 CC1
theorem lb100 : (Int8.ofInt 100).toInt32 = nI 100 := by decide
theorem c_tellBroad {l : Launch} {h : AH} {g d k e j n : Nat} {a : Nat → Nat → Nat} {w κ x : Nat → Nat} {tp : Nat → Int32} {fa to : Int32} {R : RS} {S : SS} {tr fl : Int32} {P : Option Value → AH → Prop} (C : CC h g d k e ((n, a, w, κ), (x, tp, fa, to), R, S, tr, fl)) (hj : j < n) (hn : n ≤ 5)
    (hp : ∀ h', Fr 0 1 h h' → CC h' g d k e ((n, a, w, κ), (x, tp, fa, to), R, S, trc (trc tr 2) 1, fl) → P (some (.int (nI (x j + 100)))) h') : Sem l QX6_tellBroad 82 h [.ref 0, .int (nI j)] P := by
  have c1 := C.2.1
  unfold Obj at c1
  refine iX6_tellBroad rfl ?_
  intro Z hZ
  iterate 2 (first | refine hZ _ _ _ _ ⟨rfl, ?_⟩ | refine hZ _ _ _ _ ⟨_, _, (by repeat (first | exact up_s | assumption | refine up_n (by omega) ?_)), adl (by omega), (by rfl), ?_⟩ | refine hZ _ _ _ _ ⟨_, _, (by repeat (first | exact up_s | assumption | refine up_n (by omega) ?_)), adl (by omega), (by first | assumption | exact vp_in_nI (by omega) (by omega)), ?_⟩ | refine hZ _ _ _ _ ⟨_, (by repeat (first | exact up_s | assumption | refine up_n (by omega) ?_)), adl (by omega), (by rfl), trivial, ?_⟩ | refine hZ _ _ _ _ ⟨trivial, ?_⟩ | refine hZ _ _ _ _ ⟨_, _, _, _, (by repeat (first | exact up_s | assumption | refine up_n (by omega) ?_)), (by first | exact Or.inr (Or.inr rfl) | exact Or.inr (Or.inl rfl) | exact Or.inl rfl), adl (by omega), (by first | assumption | exact vp_in_nI (by omega) (by omega)), rowsF_at (by omega), ?_⟩ | refine hZ _ _ _ _ ?_)
  show Z _ 2 _ _
  rw [lit_2]
  refine hZ _ _ _ _ ⟨⟨_, (by repeat (first | exact up_s | assumption | refine up_n (by omega) ?_))⟩, adl (by omega), rfl, ?_⟩
  refine c_leaveTrace C (fun h1 F1 C1 => ?_)
  show Z _ 5 _ _
  have c1' := C1.2.1
  unfold Obj at c1'
  iterate 2 (first | refine hZ _ _ _ _ ⟨rfl, ?_⟩ | refine hZ _ _ _ _ ⟨_, _, (by repeat (first | exact up_s | assumption | refine up_n (by omega) ?_)), adl (by omega), (by rfl), ?_⟩ | refine hZ _ _ _ _ ⟨_, _, (by repeat (first | exact up_s | assumption | refine up_n (by omega) ?_)), adl (by omega), (by first | assumption | exact vp_in_nI (by omega) (by omega)), ?_⟩ | refine hZ _ _ _ _ ⟨_, (by repeat (first | exact up_s | assumption | refine up_n (by omega) ?_)), adl (by omega), (by rfl), trivial, ?_⟩ | refine hZ _ _ _ _ ⟨trivial, ?_⟩ | refine hZ _ _ _ _ ⟨_, _, _, _, (by repeat (first | exact up_s | assumption | refine up_n (by omega) ?_)), (by first | exact Or.inr (Or.inr rfl) | exact Or.inr (Or.inl rfl) | exact Or.inl rfl), adl (by omega), (by first | assumption | exact vp_in_nI (by omega) (by omega)), rowsF_at (by omega), ?_⟩ | refine hZ _ _ _ _ ?_)
  show Z _ 7 _ _
  refine hZ _ _ _ _ ⟨⟨_, (by repeat (first | exact up_s | assumption | refine up_n (by omega) ?_))⟩, adl (by omega), rfl, ?_⟩
  refine c_tellPlain C1 hj hn (fun h2 F2 C2 => ?_)
  show Z _ 10 _ _
  repeat (first | refine hZ _ _ _ _ ⟨rfl, ?_⟩ | refine hZ _ _ _ _ ⟨_, _, (by repeat (first | exact up_s | assumption | refine up_n (by omega) ?_)), adl (by omega), (by rfl), ?_⟩ | refine hZ _ _ _ _ ⟨_, _, (by repeat (first | exact up_s | assumption | refine up_n (by omega) ?_)), adl (by omega), (by first | assumption | exact vp_in_nI (by omega) (by omega)), ?_⟩ | refine hZ _ _ _ _ ⟨_, (by repeat (first | exact up_s | assumption | refine up_n (by omega) ?_)), adl (by omega), (by rfl), trivial, ?_⟩ | refine hZ _ _ _ _ ⟨trivial, ?_⟩ | refine hZ _ _ _ _ ⟨_, _, _, _, (by repeat (first | exact up_s | assumption | refine up_n (by omega) ?_)), (by first | exact Or.inr (Or.inr rfl) | exact Or.inr (Or.inl rfl) | exact Or.inl rfl), adl (by omega), (by first | assumption | exact vp_in_nI (by omega) (by omega)), rowsF_at (by omega), ?_⟩ | refine hZ _ _ _ _ ?_)
  rw [lb100, nI_add]
  exact hp h2 (F1.tr F2) C2
theorem c_tellDouble {l : Launch} {h : AH} {g d k e j n : Nat} {a : Nat → Nat → Nat} {w κ x : Nat → Nat} {tp : Nat → Int32} {fa to : Int32} {R : RS} {S : SS} {tr fl : Int32} {P : Option Value → AH → Prop} (C : CC h g d k e ((n, a, w, κ), (x, tp, fa, to), R, S, tr, fl)) (hj : j < n) (hn : n ≤ 5)
    (hp : ∀ h', Fr 0 1 h h' → CC h' g d k e ((n, a, w, κ), (x, tp, fa, to), R, S, trc (trc (trc (trc tr 3) 2) 1) 1, fl) → P (some (.int (nI (2 * x j + 100)))) h') : Sem l QX6_tellDouble 82 h [.ref 0, .int (nI j)] P := by
  have c1 := C.2.1
  unfold Obj at c1
  refine iX6_tellDouble rfl ?_
  intro Z hZ
  iterate 2 (first | refine hZ _ _ _ _ ⟨rfl, ?_⟩ | refine hZ _ _ _ _ ⟨_, _, (by repeat (first | exact up_s | assumption | refine up_n (by omega) ?_)), adl (by omega), (by rfl), ?_⟩ | refine hZ _ _ _ _ ⟨_, _, (by repeat (first | exact up_s | assumption | refine up_n (by omega) ?_)), adl (by omega), (by first | assumption | exact vp_in_nI (by omega) (by omega)), ?_⟩ | refine hZ _ _ _ _ ⟨_, (by repeat (first | exact up_s | assumption | refine up_n (by omega) ?_)), adl (by omega), (by rfl), trivial, ?_⟩ | refine hZ _ _ _ _ ⟨trivial, ?_⟩ | refine hZ _ _ _ _ ⟨_, _, _, _, (by repeat (first | exact up_s | assumption | refine up_n (by omega) ?_)), (by first | exact Or.inr (Or.inr rfl) | exact Or.inr (Or.inl rfl) | exact Or.inl rfl), adl (by omega), (by first | assumption | exact vp_in_nI (by omega) (by omega)), rowsF_at (by omega), ?_⟩ | refine hZ _ _ _ _ ?_)
  show Z _ 2 _ _
  rw [lit_3]
  refine hZ _ _ _ _ ⟨⟨_, (by repeat (first | exact up_s | assumption | refine up_n (by omega) ?_))⟩, adl (by omega), rfl, ?_⟩
  refine c_leaveTrace C (fun h1 F1 C1 => ?_)
  show Z _ 5 _ _
  have c1' := C1.2.1
  unfold Obj at c1'
  iterate 2 (first | refine hZ _ _ _ _ ⟨rfl, ?_⟩ | refine hZ _ _ _ _ ⟨_, _, (by repeat (first | exact up_s | assumption | refine up_n (by omega) ?_)), adl (by omega), (by rfl), ?_⟩ | refine hZ _ _ _ _ ⟨_, _, (by repeat (first | exact up_s | assumption | refine up_n (by omega) ?_)), adl (by omega), (by first | assumption | exact vp_in_nI (by omega) (by omega)), ?_⟩ | refine hZ _ _ _ _ ⟨_, (by repeat (first | exact up_s | assumption | refine up_n (by omega) ?_)), adl (by omega), (by rfl), trivial, ?_⟩ | refine hZ _ _ _ _ ⟨trivial, ?_⟩ | refine hZ _ _ _ _ ⟨_, _, _, _, (by repeat (first | exact up_s | assumption | refine up_n (by omega) ?_)), (by first | exact Or.inr (Or.inr rfl) | exact Or.inr (Or.inl rfl) | exact Or.inl rfl), adl (by omega), (by first | assumption | exact vp_in_nI (by omega) (by omega)), rowsF_at (by omega), ?_⟩ | refine hZ _ _ _ _ ?_)
  show Z _ 7 _ _
  refine hZ _ _ _ _ ⟨⟨_, (by repeat (first | exact up_s | assumption | refine up_n (by omega) ?_))⟩, adl (by omega), rfl, ?_⟩
  refine c_tellBroad C1 hj hn (fun h2 F2 C2 => ?_)
  show Z _ 10 _ _
  have c1'' := C2.2.1
  unfold Obj at c1''
  iterate 4 (first | refine hZ _ _ _ _ ⟨rfl, ?_⟩ | refine hZ _ _ _ _ ⟨_, _, (by repeat (first | exact up_s | assumption | refine up_n (by omega) ?_)), adl (by omega), (by rfl), ?_⟩ | refine hZ _ _ _ _ ⟨_, _, (by repeat (first | exact up_s | assumption | refine up_n (by omega) ?_)), adl (by omega), (by first | assumption | exact vp_in_nI (by omega) (by omega)), ?_⟩ | refine hZ _ _ _ _ ⟨_, (by repeat (first | exact up_s | assumption | refine up_n (by omega) ?_)), adl (by omega), (by rfl), trivial, ?_⟩ | refine hZ _ _ _ _ ⟨trivial, ?_⟩ | refine hZ _ _ _ _ ⟨_, _, _, _, (by repeat (first | exact up_s | assumption | refine up_n (by omega) ?_)), (by first | exact Or.inr (Or.inr rfl) | exact Or.inr (Or.inl rfl) | exact Or.inl rfl), adl (by omega), (by first | assumption | exact vp_in_nI (by omega) (by omega)), rowsF_at (by omega), ?_⟩ | refine hZ _ _ _ _ ?_)
  show Z _ 14 _ _
  refine hZ _ _ _ _ ⟨⟨_, (by repeat (first | exact up_s | assumption | refine up_n (by omega) ?_))⟩, adl (by omega), rfl, ?_⟩
  refine c_tellPlain C2 hj hn (fun h3 F3 C3 => ?_)
  show Z _ 17 _ _
  repeat (first | refine hZ _ _ _ _ ⟨rfl, ?_⟩ | refine hZ _ _ _ _ ⟨_, _, (by repeat (first | exact up_s | assumption | refine up_n (by omega) ?_)), adl (by omega), (by rfl), ?_⟩ | refine hZ _ _ _ _ ⟨_, _, (by repeat (first | exact up_s | assumption | refine up_n (by omega) ?_)), adl (by omega), (by first | assumption | exact vp_in_nI (by omega) (by omega)), ?_⟩ | refine hZ _ _ _ _ ⟨_, (by repeat (first | exact up_s | assumption | refine up_n (by omega) ?_)), adl (by omega), (by rfl), trivial, ?_⟩ | refine hZ _ _ _ _ ⟨trivial, ?_⟩ | refine hZ _ _ _ _ ⟨_, _, _, _, (by repeat (first | exact up_s | assumption | refine up_n (by omega) ?_)), (by first | exact Or.inr (Or.inr rfl) | exact Or.inr (Or.inl rfl) | exact Or.inl rfl), adl (by omega), (by first | assumption | exact vp_in_nI (by omega) (by omega)), rowsF_at (by omega), ?_⟩ | refine hZ _ _ _ _ ?_)
  rw [nI_add, show x j + 100 + x j = 2 * x j + 100 by omega]
  exact hp h3 ((F1.tr F2).tr F3) C3
def S_tell (s : St) (p : Int32) : Int32 × St := match s with
  | ((n, _, _, κ), (x, _, _, _), _, _, tr, _) => if inb p n = false then (-1, s) else if κ p.toNatClampNeg = 1 then (nI (x p.toNatClampNeg + 100), setT s (trc (trc tr 2) 1)) else if κ p.toNatClampNeg = 2 then (nI (2 * x p.toNatClampNeg + 100), setT s (trc (trc (trc (trc tr 3) 2) 1) 1)) else (nI (x p.toNatClampNeg), setT s (trc tr 1))
theorem C_tell {l : Launch} {h : AH} {s : St} {p : Int32} {P : Option Value → AH → Prop} (C : CY h s) (O : Ok s) (hp : ∀ h', Fr 0 61 h h' → CY h' (S_tell s p).2 → P (some (.int (S_tell s p).1)) h') : Sem l QX6_tell 82 h [.ref 0, .int p] P := by
  have CY0 := C
  obtain ⟨⟨n, a, w, κ⟩, ⟨x, tp, fa, to⟩, ⟨cn, pl, td⟩, ⟨z, m, c⟩, tr, fl⟩ := s
  obtain ⟨g, d, k, e, C⟩ := C
  have CC0 := C
  obtain ⟨c0, c1, c2, c3, c4, c5, c6, c7, c8⟩ := C
  obtain ⟨o1, o2, o3⟩ := O
  have G1 := c5
  unfold Wh at c0
  unfold Obj at c1
  obtain ⟨B, pit, kind, deg, brs, G, hdi, V⟩ := c5
  obtain ⟨gN, r0, r1, r2, r3, r4, r5, r6⟩ := G
  refine iX6_tell rfl ?_
  intro Z hZ
  unfold S_tell at hp
  dsimp only at hp
  iterate 3 (first | refine hZ _ _ _ _ ⟨rfl, ?_⟩ | refine hZ _ _ _ _ ⟨_, _, (by repeat (first | exact up_s | assumption | refine up_n (by omega) ?_)), adl (by omega), (by rfl), ?_⟩ | refine hZ _ _ _ _ ⟨_, _, (by repeat (first | exact up_s | assumption | refine up_n (by omega) ?_)), adl (by omega), (by first | assumption | exact vp_in_nI (by omega) (by omega)), ?_⟩ | refine hZ _ _ _ _ ⟨_, (by repeat (first | exact up_s | assumption | refine up_n (by omega) ?_)), adl (by omega), (by rfl), trivial, ?_⟩ | refine hZ _ _ _ _ ⟨trivial, ?_⟩ | refine hZ _ _ _ _ ⟨_, _, _, _, (by repeat (first | exact up_s | assumption | refine up_n (by omega) ?_)), (by first | exact Or.inr (Or.inr rfl) | exact Or.inr (Or.inl rfl) | exact Or.inl rfl), adl (by omega), (by first | assumption | exact vp_in_nI (by omega) (by omega)), rowsF_at (by omega), ?_⟩ | refine hZ _ _ _ _ ?_)
  show Z _ 5 _ _
  refine hZ _ _ _ _ ⟨⟨_, (by repeat (first | exact up_s | assumption | refine up_n (by omega) ?_))⟩, adl (by omega), rfl, ?_⟩
  refine c_isPl G1 o2 ?_
  show Z _ 8 _ _
  rcases inb_of (v := p) (n := n) (by omega) with ⟨h1, h2⟩ | ⟨h1, j, h2, h3⟩
  · rw [h1]
    rw [if_pos h1] at hp
    repeat (first | refine hZ _ _ _ _ ⟨rfl, ?_⟩ | refine hZ _ _ _ _ ⟨_, _, (by repeat (first | exact up_s | assumption | refine up_n (by omega) ?_)), adl (by omega), (by rfl), ?_⟩ | refine hZ _ _ _ _ ⟨_, _, (by repeat (first | exact up_s | assumption | refine up_n (by omega) ?_)), adl (by omega), (by first | assumption | exact vp_in_nI (by omega) (by omega)), ?_⟩ | refine hZ _ _ _ _ ⟨_, (by repeat (first | exact up_s | assumption | refine up_n (by omega) ?_)), adl (by omega), (by rfl), trivial, ?_⟩ | refine hZ _ _ _ _ ⟨trivial, ?_⟩ | refine hZ _ _ _ _ ⟨_, _, _, _, (by repeat (first | exact up_s | assumption | refine up_n (by omega) ?_)), (by first | exact Or.inr (Or.inr rfl) | exact Or.inr (Or.inl rfl) | exact Or.inl rfl), adl (by omega), (by first | assumption | exact vp_in_nI (by omega) (by omega)), rowsF_at (by omega), ?_⟩ | refine hZ _ _ _ _ ?_)
    refine ⟨fun c => absurd rfl c, fun c => ?_⟩
    repeat (first | refine hZ _ _ _ _ ⟨rfl, ?_⟩ | refine hZ _ _ _ _ ⟨_, _, (by repeat (first | exact up_s | assumption | refine up_n (by omega) ?_)), adl (by omega), (by rfl), ?_⟩ | refine hZ _ _ _ _ ⟨_, _, (by repeat (first | exact up_s | assumption | refine up_n (by omega) ?_)), adl (by omega), (by first | assumption | exact vp_in_nI (by omega) (by omega)), ?_⟩ | refine hZ _ _ _ _ ⟨_, (by repeat (first | exact up_s | assumption | refine up_n (by omega) ?_)), adl (by omega), (by rfl), trivial, ?_⟩ | refine hZ _ _ _ _ ⟨trivial, ?_⟩ | refine hZ _ _ _ _ ⟨_, _, _, _, (by repeat (first | exact up_s | assumption | refine up_n (by omega) ?_)), (by first | exact Or.inr (Or.inr rfl) | exact Or.inr (Or.inl rfl) | exact Or.inl rfl), adl (by omega), (by first | assumption | exact vp_in_nI (by omega) (by omega)), rowsF_at (by omega), ?_⟩ | refine hZ _ _ _ _ ?_)
    exact hp h Fr.rf CY0
  · rw [h1]
    rw [if_neg (by rw [h1]; decide)] at hp
    subst h3
    rw [nI_clamp (by omega)] at hp
    have Y : Yw n a w κ := by rcases o1 with z | z; · omega
                              · exact z.2
    have hk2 := Y.2.2.2.2.2.1 j h2
    repeat (first | refine hZ _ _ _ _ ⟨rfl, ?_⟩ | refine hZ _ _ _ _ ⟨_, _, (by repeat (first | exact up_s | assumption | refine up_n (by omega) ?_)), adl (by omega), (by rfl), ?_⟩ | refine hZ _ _ _ _ ⟨_, _, (by repeat (first | exact up_s | assumption | refine up_n (by omega) ?_)), adl (by omega), (by first | assumption | exact vp_in_nI (by omega) (by omega)), ?_⟩ | refine hZ _ _ _ _ ⟨_, (by repeat (first | exact up_s | assumption | refine up_n (by omega) ?_)), adl (by omega), (by rfl), trivial, ?_⟩ | refine hZ _ _ _ _ ⟨trivial, ?_⟩ | refine hZ _ _ _ _ ⟨_, _, _, _, (by repeat (first | exact up_s | assumption | refine up_n (by omega) ?_)), (by first | exact Or.inr (Or.inr rfl) | exact Or.inr (Or.inl rfl) | exact Or.inl rfl), adl (by omega), (by first | assumption | exact vp_in_nI (by omega) (by omega)), rowsF_at (by omega), ?_⟩ | refine hZ _ _ _ _ ?_)
    refine ⟨fun c => ?_, fun c => absurd c (by decide)⟩
    repeat (first | refine hZ _ _ _ _ ⟨rfl, ?_⟩ | refine hZ _ _ _ _ ⟨_, _, (by repeat (first | exact up_s | assumption | refine up_n (by omega) ?_)), adl (by omega), (by rfl), ?_⟩ | refine hZ _ _ _ _ ⟨_, _, (by repeat (first | exact up_s | assumption | refine up_n (by omega) ?_)), adl (by omega), (by first | assumption | exact vp_in_nI (by omega) (by omega)), ?_⟩ | refine hZ _ _ _ _ ⟨_, (by repeat (first | exact up_s | assumption | refine up_n (by omega) ?_)), adl (by omega), (by rfl), trivial, ?_⟩ | refine hZ _ _ _ _ ⟨trivial, ?_⟩ | refine hZ _ _ _ _ ⟨_, _, _, _, (by repeat (first | exact up_s | assumption | refine up_n (by omega) ?_)), (by first | exact Or.inr (Or.inr rfl) | exact Or.inr (Or.inl rfl) | exact Or.inl rfl), adl (by omega), (by first | assumption | exact vp_in_nI (by omega) (by omega)), rowsF_at (by omega), ?_⟩ | refine hZ _ _ _ _ ?_)
    rw [nI_clamp (by omega), V.2.2.1 j h2]
    have hkt : (nI (κ j)).toInt = κ j := nI_toInt (by omega)
    refine ⟨fun c => ?_, fun n0 => ⟨fun c => ?_, fun n1 => ?_⟩⟩
    · have c : (nI (κ j)).toInt = 1 := c
      rw [if_pos (by omega)] at hp
      iterate 2 (first | refine hZ _ _ _ _ ⟨rfl, ?_⟩ | refine hZ _ _ _ _ ⟨_, _, (by repeat (first | exact up_s | assumption | refine up_n (by omega) ?_)), adl (by omega), (by rfl), ?_⟩ | refine hZ _ _ _ _ ⟨_, _, (by repeat (first | exact up_s | assumption | refine up_n (by omega) ?_)), adl (by omega), (by first | assumption | exact vp_in_nI (by omega) (by omega)), ?_⟩ | refine hZ _ _ _ _ ⟨_, (by repeat (first | exact up_s | assumption | refine up_n (by omega) ?_)), adl (by omega), (by rfl), trivial, ?_⟩ | refine hZ _ _ _ _ ⟨trivial, ?_⟩ | refine hZ _ _ _ _ ⟨_, _, _, _, (by repeat (first | exact up_s | assumption | refine up_n (by omega) ?_)), (by first | exact Or.inr (Or.inr rfl) | exact Or.inr (Or.inl rfl) | exact Or.inl rfl), adl (by omega), (by first | assumption | exact vp_in_nI (by omega) (by omega)), rowsF_at (by omega), ?_⟩ | refine hZ _ _ _ _ ?_)
      show Z _ 56 _ _
      refine hZ _ _ _ _ ⟨⟨_, (by repeat (first | exact up_s | assumption | refine up_n (by omega) ?_))⟩, adl (by omega), rfl, ?_⟩
      refine c_tellBroad CC0 h2 o2 (fun h1 F1 C1 => ?_)
      show Z _ 59 _ _
      repeat (first | refine hZ _ _ _ _ ⟨rfl, ?_⟩ | refine hZ _ _ _ _ ⟨_, _, (by repeat (first | exact up_s | assumption | refine up_n (by omega) ?_)), adl (by omega), (by rfl), ?_⟩ | refine hZ _ _ _ _ ⟨_, _, (by repeat (first | exact up_s | assumption | refine up_n (by omega) ?_)), adl (by omega), (by first | assumption | exact vp_in_nI (by omega) (by omega)), ?_⟩ | refine hZ _ _ _ _ ⟨_, (by repeat (first | exact up_s | assumption | refine up_n (by omega) ?_)), adl (by omega), (by rfl), trivial, ?_⟩ | refine hZ _ _ _ _ ⟨trivial, ?_⟩ | refine hZ _ _ _ _ ⟨_, _, _, _, (by repeat (first | exact up_s | assumption | refine up_n (by omega) ?_)), (by first | exact Or.inr (Or.inr rfl) | exact Or.inr (Or.inl rfl) | exact Or.inl rfl), adl (by omega), (by first | assumption | exact vp_in_nI (by omega) (by omega)), rowsF_at (by omega), ?_⟩ | refine hZ _ _ _ _ ?_)
      exact hp h1 (F1.wide (by omega) (by omega)) ⟨g, d, k, e, C1⟩
    · have c : (nI (κ j)).toInt = 2 := c
      rw [if_neg (by omega), if_pos (by omega)] at hp
      iterate 2 (first | refine hZ _ _ _ _ ⟨rfl, ?_⟩ | refine hZ _ _ _ _ ⟨_, _, (by repeat (first | exact up_s | assumption | refine up_n (by omega) ?_)), adl (by omega), (by rfl), ?_⟩ | refine hZ _ _ _ _ ⟨_, _, (by repeat (first | exact up_s | assumption | refine up_n (by omega) ?_)), adl (by omega), (by first | assumption | exact vp_in_nI (by omega) (by omega)), ?_⟩ | refine hZ _ _ _ _ ⟨_, (by repeat (first | exact up_s | assumption | refine up_n (by omega) ?_)), adl (by omega), (by rfl), trivial, ?_⟩ | refine hZ _ _ _ _ ⟨trivial, ?_⟩ | refine hZ _ _ _ _ ⟨_, _, _, _, (by repeat (first | exact up_s | assumption | refine up_n (by omega) ?_)), (by first | exact Or.inr (Or.inr rfl) | exact Or.inr (Or.inl rfl) | exact Or.inl rfl), adl (by omega), (by first | assumption | exact vp_in_nI (by omega) (by omega)), rowsF_at (by omega), ?_⟩ | refine hZ _ _ _ _ ?_)
      show Z _ 50 _ _
      refine hZ _ _ _ _ ⟨⟨_, (by repeat (first | exact up_s | assumption | refine up_n (by omega) ?_))⟩, adl (by omega), rfl, ?_⟩
      refine c_tellDouble CC0 h2 o2 (fun h1 F1 C1 => ?_)
      show Z _ 53 _ _
      repeat (first | refine hZ _ _ _ _ ⟨rfl, ?_⟩ | refine hZ _ _ _ _ ⟨_, _, (by repeat (first | exact up_s | assumption | refine up_n (by omega) ?_)), adl (by omega), (by rfl), ?_⟩ | refine hZ _ _ _ _ ⟨_, _, (by repeat (first | exact up_s | assumption | refine up_n (by omega) ?_)), adl (by omega), (by first | assumption | exact vp_in_nI (by omega) (by omega)), ?_⟩ | refine hZ _ _ _ _ ⟨_, (by repeat (first | exact up_s | assumption | refine up_n (by omega) ?_)), adl (by omega), (by rfl), trivial, ?_⟩ | refine hZ _ _ _ _ ⟨trivial, ?_⟩ | refine hZ _ _ _ _ ⟨_, _, _, _, (by repeat (first | exact up_s | assumption | refine up_n (by omega) ?_)), (by first | exact Or.inr (Or.inr rfl) | exact Or.inr (Or.inl rfl) | exact Or.inl rfl), adl (by omega), (by first | assumption | exact vp_in_nI (by omega) (by omega)), rowsF_at (by omega), ?_⟩ | refine hZ _ _ _ _ ?_)
      exact hp h1 (F1.wide (by omega) (by omega)) ⟨g, d, k, e, C1⟩
    · have n0 : ¬ (nI (κ j)).toInt = 1 := n0
      have n1 : ¬ (nI (κ j)).toInt = 2 := n1
      rw [if_neg (by omega), if_neg (by omega)] at hp
      iterate 2 (first | refine hZ _ _ _ _ ⟨rfl, ?_⟩ | refine hZ _ _ _ _ ⟨_, _, (by repeat (first | exact up_s | assumption | refine up_n (by omega) ?_)), adl (by omega), (by rfl), ?_⟩ | refine hZ _ _ _ _ ⟨_, _, (by repeat (first | exact up_s | assumption | refine up_n (by omega) ?_)), adl (by omega), (by first | assumption | exact vp_in_nI (by omega) (by omega)), ?_⟩ | refine hZ _ _ _ _ ⟨_, (by repeat (first | exact up_s | assumption | refine up_n (by omega) ?_)), adl (by omega), (by rfl), trivial, ?_⟩ | refine hZ _ _ _ _ ⟨trivial, ?_⟩ | refine hZ _ _ _ _ ⟨_, _, _, _, (by repeat (first | exact up_s | assumption | refine up_n (by omega) ?_)), (by first | exact Or.inr (Or.inr rfl) | exact Or.inr (Or.inl rfl) | exact Or.inl rfl), adl (by omega), (by first | assumption | exact vp_in_nI (by omega) (by omega)), rowsF_at (by omega), ?_⟩ | refine hZ _ _ _ _ ?_)
      show Z _ 62 _ _
      refine hZ _ _ _ _ ⟨⟨_, (by repeat (first | exact up_s | assumption | refine up_n (by omega) ?_))⟩, adl (by omega), rfl, ?_⟩
      refine c_tellPlain CC0 h2 o2 (fun h1 F1 C1 => ?_)
      show Z _ 65 _ _
      repeat (first | refine hZ _ _ _ _ ⟨rfl, ?_⟩ | refine hZ _ _ _ _ ⟨_, _, (by repeat (first | exact up_s | assumption | refine up_n (by omega) ?_)), adl (by omega), (by rfl), ?_⟩ | refine hZ _ _ _ _ ⟨_, _, (by repeat (first | exact up_s | assumption | refine up_n (by omega) ?_)), adl (by omega), (by first | assumption | exact vp_in_nI (by omega) (by omega)), ?_⟩ | refine hZ _ _ _ _ ⟨_, (by repeat (first | exact up_s | assumption | refine up_n (by omega) ?_)), adl (by omega), (by rfl), trivial, ?_⟩ | refine hZ _ _ _ _ ⟨trivial, ?_⟩ | refine hZ _ _ _ _ ⟨_, _, _, _, (by repeat (first | exact up_s | assumption | refine up_n (by omega) ?_)), (by first | exact Or.inr (Or.inr rfl) | exact Or.inr (Or.inl rfl) | exact Or.inl rfl), adl (by omega), (by first | assumption | exact vp_in_nI (by omega) (by omega)), rowsF_at (by omega), ?_⟩ | refine hZ _ _ _ _ ?_)
      exact hp h1 (F1.wide (by omega) (by omega)) ⟨g, d, k, e, C1⟩
