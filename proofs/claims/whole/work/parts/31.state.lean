/-! ===== the state, and how the class holds it ===== -/
abbrev YS : Type := Nat × (Nat → Nat → Nat) × (Nat → Nat) × (Nat → Nat)
abbrev HS : Type := (Nat → Nat) × (Nat → Int32) × Int32 × Int32
abbrev RS : Type := Nat × (Nat → Nat) × (Nat → Int32)
abbrev SS : Type := (Nat → Nat) × (Nat → Nat) × (Nat → Nat → Int32)
/-- yard; heaps, topplings, fallen, how many; readings; sheets (lane, 3 is nothing; length; cells); trace; fault -/
abbrev St : Type := YS × HS × RS × SS × Int32 × Int32
def inb (v : Int32) (n : Nat) : Bool := decide (0 ≤ v.toInt ∧ v.toInt < n)
theorem inb_n {j n : Nat} (h : j < n) (hn : n < 2 ^ 31) : inb (nI j) n = true := by
  unfold inb
  rw [nI_toInt (by omega)]
  exact decide_eq_true (by omega)
theorem inb_of {v : Int32} {n : Nat} (hn : n < 2 ^ 31) : inb v n = false ∧ (v < 0 ∨ (¬ v < 0 ∧ nI n ≤ v)) ∨ inb v n = true ∧ ∃ j, j < n ∧ v = nI j := by
  rcases pk_ix v hn with h | h | ⟨j, h1, h2⟩
  · left
    have := Int32.lt_iff_toInt_lt.mp h
    rw [toInt0] at this
    exact ⟨decide_eq_false (by omega), Or.inl h⟩
  · left
    have h1 := Int32.le_iff_toInt_le.mp h
    rw [nI_toInt hn] at h1
    refine ⟨decide_eq_false (by omega), Or.inr ⟨fun q => ?_, h⟩⟩
    have := Int32.lt_iff_toInt_lt.mp q
    rw [toInt0] at this
    omega
  · right
    subst h2
    exact ⟨inb_n h1 hn, j, h1, rfl⟩
theorem isP_inb {p : Int32} {n : Nat} (hn : n < 2 ^ 31) : (decide (¬ p < 0) && decide (¬ nI n ≤ p)) = inb p n := by
  rcases inb_of (v := p) hn with ⟨h1, h2⟩ | ⟨h1, j, h2, h3⟩
  · rw [h1]
    rcases h2 with h | ⟨h, h3⟩
    · simp [h]
    · simp [h3]
  · rw [h1]
    subst h3
    have a1 : ¬ nI j < 0 := nI_pos (by omega)
    have a2 : ¬ nI n ≤ nI j := nI_ge h2 hn
    simp [a1, a2]
def Ok (s : St) : Prop := match s with
  | ((n, a, w, κ), _, (cn, pl, _), (z, m, _), _, _) => (n = 0 ∨ 2 ≤ n ∧ Yw n a w κ) ∧ n ≤ 5 ∧ (∀ j, j < cn → pl j < n) ∧ cn ≤ 8 ∧ ∀ j, j < 4 → z j ≤ 3 ∧ m j ≤ 60
def shF : Nat → Option Nat := fun i => if i < 4 then some (53 + 2 * i) else none
theorem shF_at {p : Nat} (h : p < 4) : shF (nI p).toNatClampNeg = some (53 + 2 * p) := by
  rw [nI_clamp (by omega)]
  exact if_pos h
def EqE (N : Nat) (h : AH) (e : Nat) : Prop := ∃ pl Rw an, EqO N h e pl Rw an
def GdE (N : Nat) (h : AH) (g : Nat) : Prop := ∃ pl B pit kind deg brs, Gd N h g pl B pit kind deg brs ∧ ∀ i, i < 5 → B i i = 0
/-- the sheets -/
def Shs (h : AH) (z m : Nat → Nat) (c : Nat → Nat → Int32) : Prop := h 1 = .inl (2, 4, .inr (.inr (.inr (.inr shF)))) ∧ ∀ j, j < 4 → ∃ len cc, Sh 82 h (53 + 2 * j) (lnC (z j)) len cc ∧ (z j < 3 → len = nI (m j) ∧ ∀ i, i < 60 → cc i = c j i)
def Rds (h : AH) (cn : Nat) (pl : Nat → Nat) (td : Nat → Int32) : Prop := ∃ pc td', Rd 82 h 2 pc td' (nI cn) ∧ (∀ j, j < cn → pc j = nI (pl j) ∧ td' j = td j) ∧ HpE 82 h 5 ∧ HpE 82 h 8
def Scr (h : AH) : Prop := TrE 82 h 11 ∧ EqE 82 h 13 ∧ HpE 82 h 21 ∧ ∃ sn, h 24 = .inl (0, 501, .inl sn)
def Grd (h : AH) (g n : Nat) (a : Nat → Nat → Nat) (w κ : Nat → Nat) : Prop := ∃ B pit kind deg brs, Gd 82 h g (nI n) B pit kind deg brs ∧ (∀ i, i < 5 → B i i = 0) ∧ Gv n a w κ B pit kind deg brs
def Hps (h : AH) (k n : Nat) (x : Nat → Nat) (tp : Nat → Int32) (fa to : Int32) : Prop := ∃ f t, Hp 82 h k f t fa to ∧ (∀ q, q < n → f q = nI (x q)) ∧ ∀ q, q < n → t q = tp q
def Obj (h : AH) (g d k e : Nat) (tr fl : Int32) : Prop := h 0 = .inr (6, [.ref 1, .ref 2, .ref 11, .ref 13, .ref 21, .ref 24, .ref g, .ref d, .ref k, .ref e, .int tr, .int fl])
def Wh (g d k e : Nat) : Prop := (g = 25 ∧ d = 36 ∨ g = 36 ∧ d = 25) ∧ (k = 47 ∧ e = 50 ∨ k = 50 ∧ e = 47)
/-- all of it, with the places of the grounds and heaps -/
def CC (h : AH) (g d k e : Nat) (s : St) : Prop := match s with
  | ((n, a, w, κ), (x, tp, fa, to), (cn, pl, td), (z, m, c), tr, fl) => Wh g d k e ∧ Obj h g d k e tr fl ∧ Shs h z m c ∧ Rds h cn pl td ∧ Scr h ∧ Grd h g n a w κ ∧ GdE 82 h d ∧ Hps h k n x tp fa to ∧ HpE 82 h e
def CY (h : AH) (s : St) : Prop := ∃ g d k e, CC h g d k e s
theorem EqE.fr {N : Nat} {h h' : AH} {e lo hi : Nat} (G : EqE N h e) (f : Fr lo hi h h') (hd : e + 8 ≤ lo ∨ hi ≤ e) : EqE N h' e := by
  obtain ⟨x, y, z, G⟩ := G
  exact ⟨x, y, z, G.fr f hd⟩
theorem GdE.fr {N : Nat} {h h' : AH} {g lo hi : Nat} (G : GdE N h g) (f : Fr lo hi h h') (hd : g + 11 ≤ lo ∨ hi ≤ g) : GdE N h' g := by
  obtain ⟨pl, B, pit, kind, deg, brs, G, hi⟩ := G
  exact ⟨pl, B, pit, kind, deg, brs, G.fr f hd, hi⟩
theorem TrE.fr {N : Nat} {h h' : AH} {r lo hi : Nat} (G : TrE N h r) (f : Fr lo hi h h') (hd : r + 2 ≤ lo ∨ hi ≤ r) : TrE N h' r := by
  obtain ⟨x1, x2, x3, cd, a0, a1, a2⟩ := G
  exact ⟨x1, x2, x3, cd, a0, (f _ (by omega)).trans a1, (f _ (by omega)).trans a2⟩
theorem Shs.fr {h h' : AH} {lo hi : Nat} {z m : Nat → Nat} {c : Nat → Nat → Int32} (G : Shs h z m c) (f : Fr lo hi h h') (hd : 2 ≤ lo ∧ hi ≤ 53 ∨ hi ≤ 1) : Shs h' z m c := by
  refine ⟨(f 1 (by omega)).trans G.1, fun j hj => ?_⟩
  obtain ⟨len, cc, S, hv⟩ := G.2 j hj
  exact ⟨len, cc, S.fr f (by omega), hv⟩
theorem Rds.fr {h h' : AH} {lo hi cn : Nat} {pl : Nat → Nat} {td : Nat → Int32} (G : Rds h cn pl td) (f : Fr lo hi h h') (hd : 11 ≤ lo ∨ hi ≤ 2) : Rds h' cn pl td := by
  obtain ⟨pc, td', R, hv, h5, h8⟩ := G
  exact ⟨pc, td', R.fr f (by omega), hv, h5.fr f (by omega), h8.fr f (by omega)⟩
theorem Scr.fr {h h' : AH} {lo hi : Nat} (G : Scr h) (f : Fr lo hi h h') (hd : 25 ≤ lo ∨ hi ≤ 11) : Scr h' := by
  obtain ⟨g1, g2, g3, sn, g4⟩ := G
  exact ⟨g1.fr f (by omega), g2.fr f (by omega), g3.fr f (by omega), sn, (f 24 (by omega)).trans g4⟩
theorem Grd.fr {h h' : AH} {g n lo hi : Nat} {a : Nat → Nat → Nat} {w κ : Nat → Nat} (G : Grd h g n a w κ) (f : Fr lo hi h h') (hd : g + 11 ≤ lo ∨ hi ≤ g) : Grd h' g n a w κ := by
  obtain ⟨B, pit, kind, deg, brs, G, hdi, V⟩ := G
  exact ⟨B, pit, kind, deg, brs, G.fr f hd, hdi, V⟩
theorem Hps.fr {h h' : AH} {k n lo hi : Nat} {x : Nat → Nat} {tp : Nat → Int32} {fa to : Int32} (G : Hps h k n x tp fa to) (fr : Fr lo hi h h') (hd : k + 3 ≤ lo ∨ hi ≤ k) : Hps h' k n x tp fa to := by
  obtain ⟨f, t, G, h1, h2⟩ := G
  exact ⟨f, t, G.fr fr hd, h1, h2⟩
theorem Obj.fr {h h' : AH} {g d k e lo hi : Nat} {tr fl : Int32} (G : Obj h g d k e tr fl) (fr : Fr lo hi h h') (hd : 1 ≤ lo ∨ hi ≤ 0) : Obj h' g d k e tr fl := (fr 0 (by omega)).trans G
/-- the object's own two numbers -/
theorem CC.obj {h h' : AH} {g d k e : Nat} {Y : YS} {H : HS} {R : RS} {S : SS} {tr fl tr' fl' : Int32} (C : CC h g d k e (Y, H, R, S, tr, fl)) (f : Fr 0 1 h h') (ho : Obj h' g d k e tr' fl') : CC h' g d k e (Y, H, R, S, tr', fl') := by
  obtain ⟨n, a, w, κ⟩ := Y
  obtain ⟨x, tp, fa, to⟩ := H
  obtain ⟨cn, pl, td⟩ := R
  obtain ⟨z, m, c⟩ := S
  obtain ⟨c0, c1, c2, c3, c4, c5, c6, c7, c8⟩ := C
  have hw := c0
  unfold Wh at hw
  exact ⟨c0, ho, c2.fr f (by omega), c3.fr f (by omega), c4.fr f (by omega), c5.fr f (by omega), c6.fr f (by omega), c7.fr f (by omega), c8.fr f (by omega)⟩
/-! ===== small methods of the class ===== -/
theorem c_isSheet {l : Launch} {h : AH} {k : Int32} {P : Option Value → AH → Prop} (hp : P (some (.int (b2i (inb k 4)))) h) : Sem l QX6_isSheet 82 h [.int k] P := by
  refine iX6_isSheet rfl ?_
  intro Z hZ
  rcases inb_of (v := k) (n := 4) (by decide) with ⟨h1, h2⟩ | ⟨h1, j, h2, h3⟩
  · rw [h1] at hp
    rcases h2 with h2 | ⟨h2, h3⟩
    · repeat (first | refine hZ _ _ _ _ ⟨rfl, ?_⟩ | refine hZ _ _ _ _ ⟨_, _, (by repeat (first | exact up_s | assumption | refine up_n (by omega) ?_)), adl (by omega), (by rfl), ?_⟩ | refine hZ _ _ _ _ ⟨_, _, (by repeat (first | exact up_s | assumption | refine up_n (by omega) ?_)), adl (by omega), (by first | assumption | exact vp_in_nI (by omega) (by omega)), ?_⟩ | refine hZ _ _ _ _ ⟨_, (by repeat (first | exact up_s | assumption | refine up_n (by omega) ?_)), adl (by omega), (by rfl), trivial, ?_⟩ | refine hZ _ _ _ _ ⟨trivial, ?_⟩ | refine hZ _ _ _ _ ⟨_, _, _, _, (by repeat (first | exact up_s | assumption | refine up_n (by omega) ?_)), (by first | exact Or.inr (Or.inr rfl) | exact Or.inr (Or.inl rfl) | exact Or.inl rfl), adl (by omega), (by first | assumption | exact vp_in_nI (by omega) (by omega)), rowsF_at (by omega), ?_⟩ | refine hZ _ _ _ _ ?_)
      refine ⟨fun c => ?_, fun c => absurd h2 c⟩
      repeat (first | refine hZ _ _ _ _ ⟨rfl, ?_⟩ | refine hZ _ _ _ _ ⟨_, _, (by repeat (first | exact up_s | assumption | refine up_n (by omega) ?_)), adl (by omega), (by rfl), ?_⟩ | refine hZ _ _ _ _ ⟨_, _, (by repeat (first | exact up_s | assumption | refine up_n (by omega) ?_)), adl (by omega), (by first | assumption | exact vp_in_nI (by omega) (by omega)), ?_⟩ | refine hZ _ _ _ _ ⟨_, (by repeat (first | exact up_s | assumption | refine up_n (by omega) ?_)), adl (by omega), (by rfl), trivial, ?_⟩ | refine hZ _ _ _ _ ⟨trivial, ?_⟩ | refine hZ _ _ _ _ ⟨_, _, _, _, (by repeat (first | exact up_s | assumption | refine up_n (by omega) ?_)), (by first | exact Or.inr (Or.inr rfl) | exact Or.inr (Or.inl rfl) | exact Or.inl rfl), adl (by omega), (by first | assumption | exact vp_in_nI (by omega) (by omega)), rowsF_at (by omega), ?_⟩ | refine hZ _ _ _ _ ?_)
      exact hp
    · repeat (first | refine hZ _ _ _ _ ⟨rfl, ?_⟩ | refine hZ _ _ _ _ ⟨_, _, (by repeat (first | exact up_s | assumption | refine up_n (by omega) ?_)), adl (by omega), (by rfl), ?_⟩ | refine hZ _ _ _ _ ⟨_, _, (by repeat (first | exact up_s | assumption | refine up_n (by omega) ?_)), adl (by omega), (by first | assumption | exact vp_in_nI (by omega) (by omega)), ?_⟩ | refine hZ _ _ _ _ ⟨_, (by repeat (first | exact up_s | assumption | refine up_n (by omega) ?_)), adl (by omega), (by rfl), trivial, ?_⟩ | refine hZ _ _ _ _ ⟨trivial, ?_⟩ | refine hZ _ _ _ _ ⟨_, _, _, _, (by repeat (first | exact up_s | assumption | refine up_n (by omega) ?_)), (by first | exact Or.inr (Or.inr rfl) | exact Or.inr (Or.inl rfl) | exact Or.inl rfl), adl (by omega), (by first | assumption | exact vp_in_nI (by omega) (by omega)), rowsF_at (by omega), ?_⟩ | refine hZ _ _ _ _ ?_)
      refine ⟨fun c => absurd c h2, fun c => ?_⟩
      repeat (first | refine hZ _ _ _ _ ⟨rfl, ?_⟩ | refine hZ _ _ _ _ ⟨_, _, (by repeat (first | exact up_s | assumption | refine up_n (by omega) ?_)), adl (by omega), (by rfl), ?_⟩ | refine hZ _ _ _ _ ⟨_, _, (by repeat (first | exact up_s | assumption | refine up_n (by omega) ?_)), adl (by omega), (by first | assumption | exact vp_in_nI (by omega) (by omega)), ?_⟩ | refine hZ _ _ _ _ ⟨_, (by repeat (first | exact up_s | assumption | refine up_n (by omega) ?_)), adl (by omega), (by rfl), trivial, ?_⟩ | refine hZ _ _ _ _ ⟨trivial, ?_⟩ | refine hZ _ _ _ _ ⟨_, _, _, _, (by repeat (first | exact up_s | assumption | refine up_n (by omega) ?_)), (by first | exact Or.inr (Or.inr rfl) | exact Or.inr (Or.inl rfl) | exact Or.inl rfl), adl (by omega), (by first | assumption | exact vp_in_nI (by omega) (by omega)), rowsF_at (by omega), ?_⟩ | refine hZ _ _ _ _ ?_)
      refine ⟨fun c => ?_, fun c => absurd h3 c⟩
      repeat (first | refine hZ _ _ _ _ ⟨rfl, ?_⟩ | refine hZ _ _ _ _ ⟨_, _, (by repeat (first | exact up_s | assumption | refine up_n (by omega) ?_)), adl (by omega), (by rfl), ?_⟩ | refine hZ _ _ _ _ ⟨_, _, (by repeat (first | exact up_s | assumption | refine up_n (by omega) ?_)), adl (by omega), (by first | assumption | exact vp_in_nI (by omega) (by omega)), ?_⟩ | refine hZ _ _ _ _ ⟨_, (by repeat (first | exact up_s | assumption | refine up_n (by omega) ?_)), adl (by omega), (by rfl), trivial, ?_⟩ | refine hZ _ _ _ _ ⟨trivial, ?_⟩ | refine hZ _ _ _ _ ⟨_, _, _, _, (by repeat (first | exact up_s | assumption | refine up_n (by omega) ?_)), (by first | exact Or.inr (Or.inr rfl) | exact Or.inr (Or.inl rfl) | exact Or.inl rfl), adl (by omega), (by first | assumption | exact vp_in_nI (by omega) (by omega)), rowsF_at (by omega), ?_⟩ | refine hZ _ _ _ _ ?_)
      exact hp
  · rw [h1] at hp
    subst h3
    repeat (first | refine hZ _ _ _ _ ⟨rfl, ?_⟩ | refine hZ _ _ _ _ ⟨_, _, (by repeat (first | exact up_s | assumption | refine up_n (by omega) ?_)), adl (by omega), (by rfl), ?_⟩ | refine hZ _ _ _ _ ⟨_, _, (by repeat (first | exact up_s | assumption | refine up_n (by omega) ?_)), adl (by omega), (by first | assumption | exact vp_in_nI (by omega) (by omega)), ?_⟩ | refine hZ _ _ _ _ ⟨_, (by repeat (first | exact up_s | assumption | refine up_n (by omega) ?_)), adl (by omega), (by rfl), trivial, ?_⟩ | refine hZ _ _ _ _ ⟨trivial, ?_⟩ | refine hZ _ _ _ _ ⟨_, _, _, _, (by repeat (first | exact up_s | assumption | refine up_n (by omega) ?_)), (by first | exact Or.inr (Or.inr rfl) | exact Or.inr (Or.inl rfl) | exact Or.inl rfl), adl (by omega), (by first | assumption | exact vp_in_nI (by omega) (by omega)), rowsF_at (by omega), ?_⟩ | refine hZ _ _ _ _ ?_)
    refine ⟨fun c => absurd c (nI_pos (by omega)), fun c => ?_⟩
    repeat (first | refine hZ _ _ _ _ ⟨rfl, ?_⟩ | refine hZ _ _ _ _ ⟨_, _, (by repeat (first | exact up_s | assumption | refine up_n (by omega) ?_)), adl (by omega), (by rfl), ?_⟩ | refine hZ _ _ _ _ ⟨_, _, (by repeat (first | exact up_s | assumption | refine up_n (by omega) ?_)), adl (by omega), (by first | assumption | exact vp_in_nI (by omega) (by omega)), ?_⟩ | refine hZ _ _ _ _ ⟨_, (by repeat (first | exact up_s | assumption | refine up_n (by omega) ?_)), adl (by omega), (by rfl), trivial, ?_⟩ | refine hZ _ _ _ _ ⟨trivial, ?_⟩ | refine hZ _ _ _ _ ⟨_, _, _, _, (by repeat (first | exact up_s | assumption | refine up_n (by omega) ?_)), (by first | exact Or.inr (Or.inr rfl) | exact Or.inr (Or.inl rfl) | exact Or.inl rfl), adl (by omega), (by first | assumption | exact vp_in_nI (by omega) (by omega)), rowsF_at (by omega), ?_⟩ | refine hZ _ _ _ _ ?_)
    refine ⟨fun c => absurd c (nI_ge (b := 4) h2 (by omega)), fun c => ?_⟩
    repeat (first | refine hZ _ _ _ _ ⟨rfl, ?_⟩ | refine hZ _ _ _ _ ⟨_, _, (by repeat (first | exact up_s | assumption | refine up_n (by omega) ?_)), adl (by omega), (by rfl), ?_⟩ | refine hZ _ _ _ _ ⟨_, _, (by repeat (first | exact up_s | assumption | refine up_n (by omega) ?_)), adl (by omega), (by first | assumption | exact vp_in_nI (by omega) (by omega)), ?_⟩ | refine hZ _ _ _ _ ⟨_, (by repeat (first | exact up_s | assumption | refine up_n (by omega) ?_)), adl (by omega), (by rfl), trivial, ?_⟩ | refine hZ _ _ _ _ ⟨trivial, ?_⟩ | refine hZ _ _ _ _ ⟨_, _, _, _, (by repeat (first | exact up_s | assumption | refine up_n (by omega) ?_)), (by first | exact Or.inr (Or.inr rfl) | exact Or.inr (Or.inl rfl) | exact Or.inl rfl), adl (by omega), (by first | assumption | exact vp_in_nI (by omega) (by omega)), rowsF_at (by omega), ?_⟩ | refine hZ _ _ _ _ ?_)
    exact hp
theorem c_isLane {l : Launch} {h : AH} {k : Int32} {P : Option Value → AH → Prop} (hp : P (some (.int (b2i (inb k 3)))) h) : Sem l QX6_isLane 82 h [.int k] P := by
  refine iX6_isLane rfl ?_
  intro Z hZ
  rcases inb_of (v := k) (n := 3) (by decide) with ⟨h1, h2⟩ | ⟨h1, j, h2, h3⟩
  · rw [h1] at hp
    rcases h2 with h2 | ⟨h2, h3⟩
    · repeat (first | refine hZ _ _ _ _ ⟨rfl, ?_⟩ | refine hZ _ _ _ _ ⟨_, _, (by repeat (first | exact up_s | assumption | refine up_n (by omega) ?_)), adl (by omega), (by rfl), ?_⟩ | refine hZ _ _ _ _ ⟨_, _, (by repeat (first | exact up_s | assumption | refine up_n (by omega) ?_)), adl (by omega), (by first | assumption | exact vp_in_nI (by omega) (by omega)), ?_⟩ | refine hZ _ _ _ _ ⟨_, (by repeat (first | exact up_s | assumption | refine up_n (by omega) ?_)), adl (by omega), (by rfl), trivial, ?_⟩ | refine hZ _ _ _ _ ⟨trivial, ?_⟩ | refine hZ _ _ _ _ ⟨_, _, _, _, (by repeat (first | exact up_s | assumption | refine up_n (by omega) ?_)), (by first | exact Or.inr (Or.inr rfl) | exact Or.inr (Or.inl rfl) | exact Or.inl rfl), adl (by omega), (by first | assumption | exact vp_in_nI (by omega) (by omega)), rowsF_at (by omega), ?_⟩ | refine hZ _ _ _ _ ?_)
      refine ⟨fun c => ?_, fun c => absurd h2 c⟩
      repeat (first | refine hZ _ _ _ _ ⟨rfl, ?_⟩ | refine hZ _ _ _ _ ⟨_, _, (by repeat (first | exact up_s | assumption | refine up_n (by omega) ?_)), adl (by omega), (by rfl), ?_⟩ | refine hZ _ _ _ _ ⟨_, _, (by repeat (first | exact up_s | assumption | refine up_n (by omega) ?_)), adl (by omega), (by first | assumption | exact vp_in_nI (by omega) (by omega)), ?_⟩ | refine hZ _ _ _ _ ⟨_, (by repeat (first | exact up_s | assumption | refine up_n (by omega) ?_)), adl (by omega), (by rfl), trivial, ?_⟩ | refine hZ _ _ _ _ ⟨trivial, ?_⟩ | refine hZ _ _ _ _ ⟨_, _, _, _, (by repeat (first | exact up_s | assumption | refine up_n (by omega) ?_)), (by first | exact Or.inr (Or.inr rfl) | exact Or.inr (Or.inl rfl) | exact Or.inl rfl), adl (by omega), (by first | assumption | exact vp_in_nI (by omega) (by omega)), rowsF_at (by omega), ?_⟩ | refine hZ _ _ _ _ ?_)
      exact hp
    · repeat (first | refine hZ _ _ _ _ ⟨rfl, ?_⟩ | refine hZ _ _ _ _ ⟨_, _, (by repeat (first | exact up_s | assumption | refine up_n (by omega) ?_)), adl (by omega), (by rfl), ?_⟩ | refine hZ _ _ _ _ ⟨_, _, (by repeat (first | exact up_s | assumption | refine up_n (by omega) ?_)), adl (by omega), (by first | assumption | exact vp_in_nI (by omega) (by omega)), ?_⟩ | refine hZ _ _ _ _ ⟨_, (by repeat (first | exact up_s | assumption | refine up_n (by omega) ?_)), adl (by omega), (by rfl), trivial, ?_⟩ | refine hZ _ _ _ _ ⟨trivial, ?_⟩ | refine hZ _ _ _ _ ⟨_, _, _, _, (by repeat (first | exact up_s | assumption | refine up_n (by omega) ?_)), (by first | exact Or.inr (Or.inr rfl) | exact Or.inr (Or.inl rfl) | exact Or.inl rfl), adl (by omega), (by first | assumption | exact vp_in_nI (by omega) (by omega)), rowsF_at (by omega), ?_⟩ | refine hZ _ _ _ _ ?_)
      refine ⟨fun c => absurd c h2, fun c => ?_⟩
      repeat (first | refine hZ _ _ _ _ ⟨rfl, ?_⟩ | refine hZ _ _ _ _ ⟨_, _, (by repeat (first | exact up_s | assumption | refine up_n (by omega) ?_)), adl (by omega), (by rfl), ?_⟩ | refine hZ _ _ _ _ ⟨_, _, (by repeat (first | exact up_s | assumption | refine up_n (by omega) ?_)), adl (by omega), (by first | assumption | exact vp_in_nI (by omega) (by omega)), ?_⟩ | refine hZ _ _ _ _ ⟨_, (by repeat (first | exact up_s | assumption | refine up_n (by omega) ?_)), adl (by omega), (by rfl), trivial, ?_⟩ | refine hZ _ _ _ _ ⟨trivial, ?_⟩ | refine hZ _ _ _ _ ⟨_, _, _, _, (by repeat (first | exact up_s | assumption | refine up_n (by omega) ?_)), (by first | exact Or.inr (Or.inr rfl) | exact Or.inr (Or.inl rfl) | exact Or.inl rfl), adl (by omega), (by first | assumption | exact vp_in_nI (by omega) (by omega)), rowsF_at (by omega), ?_⟩ | refine hZ _ _ _ _ ?_)
      refine ⟨fun c => ?_, fun c => absurd (Int32.lt_iff_toInt_lt.mpr ?_) c⟩
      · repeat (first | refine hZ _ _ _ _ ⟨rfl, ?_⟩ | refine hZ _ _ _ _ ⟨_, _, (by repeat (first | exact up_s | assumption | refine up_n (by omega) ?_)), adl (by omega), (by rfl), ?_⟩ | refine hZ _ _ _ _ ⟨_, _, (by repeat (first | exact up_s | assumption | refine up_n (by omega) ?_)), adl (by omega), (by first | assumption | exact vp_in_nI (by omega) (by omega)), ?_⟩ | refine hZ _ _ _ _ ⟨_, (by repeat (first | exact up_s | assumption | refine up_n (by omega) ?_)), adl (by omega), (by rfl), trivial, ?_⟩ | refine hZ _ _ _ _ ⟨trivial, ?_⟩ | refine hZ _ _ _ _ ⟨_, _, _, _, (by repeat (first | exact up_s | assumption | refine up_n (by omega) ?_)), (by first | exact Or.inr (Or.inr rfl) | exact Or.inr (Or.inl rfl) | exact Or.inl rfl), adl (by omega), (by first | assumption | exact vp_in_nI (by omega) (by omega)), rowsF_at (by omega), ?_⟩ | refine hZ _ _ _ _ ?_)
        exact hp
      · have := Int32.le_iff_toInt_le.mp h3
        rw [nI_toInt (by omega)] at this
        rw [show (Int32.ofInt 2).toInt = 2 by decide]
        omega
  · rw [h1] at hp
    subst h3
    repeat (first | refine hZ _ _ _ _ ⟨rfl, ?_⟩ | refine hZ _ _ _ _ ⟨_, _, (by repeat (first | exact up_s | assumption | refine up_n (by omega) ?_)), adl (by omega), (by rfl), ?_⟩ | refine hZ _ _ _ _ ⟨_, _, (by repeat (first | exact up_s | assumption | refine up_n (by omega) ?_)), adl (by omega), (by first | assumption | exact vp_in_nI (by omega) (by omega)), ?_⟩ | refine hZ _ _ _ _ ⟨_, (by repeat (first | exact up_s | assumption | refine up_n (by omega) ?_)), adl (by omega), (by rfl), trivial, ?_⟩ | refine hZ _ _ _ _ ⟨trivial, ?_⟩ | refine hZ _ _ _ _ ⟨_, _, _, _, (by repeat (first | exact up_s | assumption | refine up_n (by omega) ?_)), (by first | exact Or.inr (Or.inr rfl) | exact Or.inr (Or.inl rfl) | exact Or.inl rfl), adl (by omega), (by first | assumption | exact vp_in_nI (by omega) (by omega)), rowsF_at (by omega), ?_⟩ | refine hZ _ _ _ _ ?_)
    refine ⟨fun c => absurd c (nI_pos (by omega)), fun c => ?_⟩
    repeat (first | refine hZ _ _ _ _ ⟨rfl, ?_⟩ | refine hZ _ _ _ _ ⟨_, _, (by repeat (first | exact up_s | assumption | refine up_n (by omega) ?_)), adl (by omega), (by rfl), ?_⟩ | refine hZ _ _ _ _ ⟨_, _, (by repeat (first | exact up_s | assumption | refine up_n (by omega) ?_)), adl (by omega), (by first | assumption | exact vp_in_nI (by omega) (by omega)), ?_⟩ | refine hZ _ _ _ _ ⟨_, (by repeat (first | exact up_s | assumption | refine up_n (by omega) ?_)), adl (by omega), (by rfl), trivial, ?_⟩ | refine hZ _ _ _ _ ⟨trivial, ?_⟩ | refine hZ _ _ _ _ ⟨_, _, _, _, (by repeat (first | exact up_s | assumption | refine up_n (by omega) ?_)), (by first | exact Or.inr (Or.inr rfl) | exact Or.inr (Or.inl rfl) | exact Or.inl rfl), adl (by omega), (by first | assumption | exact vp_in_nI (by omega) (by omega)), rowsF_at (by omega), ?_⟩ | refine hZ _ _ _ _ ?_)
    refine ⟨fun c => absurd c (nI_nlt (b := j) (a := 2) (by omega) (by omega)), fun c => ?_⟩
    repeat (first | refine hZ _ _ _ _ ⟨rfl, ?_⟩ | refine hZ _ _ _ _ ⟨_, _, (by repeat (first | exact up_s | assumption | refine up_n (by omega) ?_)), adl (by omega), (by rfl), ?_⟩ | refine hZ _ _ _ _ ⟨_, _, (by repeat (first | exact up_s | assumption | refine up_n (by omega) ?_)), adl (by omega), (by first | assumption | exact vp_in_nI (by omega) (by omega)), ?_⟩ | refine hZ _ _ _ _ ⟨_, (by repeat (first | exact up_s | assumption | refine up_n (by omega) ?_)), adl (by omega), (by rfl), trivial, ?_⟩ | refine hZ _ _ _ _ ⟨trivial, ?_⟩ | refine hZ _ _ _ _ ⟨_, _, _, _, (by repeat (first | exact up_s | assumption | refine up_n (by omega) ?_)), (by first | exact Or.inr (Or.inr rfl) | exact Or.inr (Or.inl rfl) | exact Or.inl rfl), adl (by omega), (by first | assumption | exact vp_in_nI (by omega) (by omega)), rowsF_at (by omega), ?_⟩ | refine hZ _ _ _ _ ?_)
    exact hp
theorem c_faulted {l : Launch} {h : AH} {g d k e f : Nat} {Y : YS} {H : HS} {R : RS} {S : SS} {tr fl : Int32} {P : Option Value → AH → Prop} (C : CC h g d k e (Y, H, R, S, tr, fl))
    (hp : ∀ h', Fr 0 1 h h' → CC h' g d k e (Y, H, R, S, tr, nI f) → P (some (.int (-10 - nI f))) h') : Sem l QX6_faulted 82 h [.ref 0, .int (nI f)] P := by
  have C0 := C
  obtain ⟨c0, c1, c2⟩ := C
  unfold Obj at c1
  refine iX6_faulted rfl ?_
  intro Z hZ
  repeat (first | refine hZ _ _ _ _ ⟨rfl, ?_⟩ | refine hZ _ _ _ _ ⟨_, _, (by repeat (first | exact up_s | assumption | refine up_n (by omega) ?_)), adl (by omega), (by rfl), ?_⟩ | refine hZ _ _ _ _ ⟨_, _, (by repeat (first | exact up_s | assumption | refine up_n (by omega) ?_)), adl (by omega), (by first | assumption | exact vp_in_nI (by omega) (by omega)), ?_⟩ | refine hZ _ _ _ _ ⟨_, (by repeat (first | exact up_s | assumption | refine up_n (by omega) ?_)), adl (by omega), (by rfl), trivial, ?_⟩ | refine hZ _ _ _ _ ⟨trivial, ?_⟩ | refine hZ _ _ _ _ ⟨_, _, _, _, (by repeat (first | exact up_s | assumption | refine up_n (by omega) ?_)), (by first | exact Or.inr (Or.inr rfl) | exact Or.inr (Or.inl rfl) | exact Or.inl rfl), adl (by omega), (by first | assumption | exact vp_in_nI (by omega) (by omega)), rowsF_at (by omega), ?_⟩ | refine hZ _ _ _ _ ?_)
  have F : Fr 0 1 h (va_up h 0 (.inr (6, [.ref 1, .ref 2, .ref 11, .ref 13, .ref 21, .ref 24, .ref g, .ref d, .ref k, .ref e, .int tr, .int (nI f)]))) := Fr.rf.up (by omega) (by omega)
  exact hp _ F (C0.obj F up_s)
theorem c_hasNoYard {l : Launch} {h : AH} {g d k e n : Nat} {a : Nat → Nat → Nat} {w κ : Nat → Nat} {H : HS} {R : RS} {S : SS} {tr fl : Int32} {P : Option Value → AH → Prop} (C : CC h g d k e ((n, a, w, κ), H, R, S, tr, fl)) (hn : n ≤ 5)
    (hp : P (some (.int (b2i (decide (n = 0))))) h) : Sem l QX6_hasNoYard 82 h [.ref 0] P := by
  obtain ⟨c0, c1, c2, c3, c4, ⟨B, pit, kind, deg, brs, G, hdi, V⟩, c6⟩ := C
  unfold Obj at c1
  obtain ⟨gN, r0, r1, r2, r3, r4, r5, r6⟩ := G
  refine iX6_hasNoYard rfl ?_
  intro Z hZ
  repeat (first | refine hZ _ _ _ _ ⟨rfl, ?_⟩ | refine hZ _ _ _ _ ⟨_, _, (by repeat (first | exact up_s | assumption | refine up_n (by omega) ?_)), adl (by omega), (by rfl), ?_⟩ | refine hZ _ _ _ _ ⟨_, _, (by repeat (first | exact up_s | assumption | refine up_n (by omega) ?_)), adl (by omega), (by first | assumption | exact vp_in_nI (by omega) (by omega)), ?_⟩ | refine hZ _ _ _ _ ⟨_, (by repeat (first | exact up_s | assumption | refine up_n (by omega) ?_)), adl (by omega), (by rfl), trivial, ?_⟩ | refine hZ _ _ _ _ ⟨trivial, ?_⟩ | refine hZ _ _ _ _ ⟨_, _, _, _, (by repeat (first | exact up_s | assumption | refine up_n (by omega) ?_)), (by first | exact Or.inr (Or.inr rfl) | exact Or.inr (Or.inl rfl) | exact Or.inl rfl), adl (by omega), (by first | assumption | exact vp_in_nI (by omega) (by omega)), rowsF_at (by omega), ?_⟩ | refine hZ _ _ _ _ ?_)
  refine ⟨fun c => ?_, fun c => ?_⟩
  · rw [decide_eq_false (fun z => c (by rw [z]; rfl))] at hp
    repeat (first | refine hZ _ _ _ _ ⟨rfl, ?_⟩ | refine hZ _ _ _ _ ⟨_, _, (by repeat (first | exact up_s | assumption | refine up_n (by omega) ?_)), adl (by omega), (by rfl), ?_⟩ | refine hZ _ _ _ _ ⟨_, _, (by repeat (first | exact up_s | assumption | refine up_n (by omega) ?_)), adl (by omega), (by first | assumption | exact vp_in_nI (by omega) (by omega)), ?_⟩ | refine hZ _ _ _ _ ⟨_, (by repeat (first | exact up_s | assumption | refine up_n (by omega) ?_)), adl (by omega), (by rfl), trivial, ?_⟩ | refine hZ _ _ _ _ ⟨trivial, ?_⟩ | refine hZ _ _ _ _ ⟨_, _, _, _, (by repeat (first | exact up_s | assumption | refine up_n (by omega) ?_)), (by first | exact Or.inr (Or.inr rfl) | exact Or.inr (Or.inl rfl) | exact Or.inl rfl), adl (by omega), (by first | assumption | exact vp_in_nI (by omega) (by omega)), rowsF_at (by omega), ?_⟩ | refine hZ _ _ _ _ ?_)
    exact hp
  · rw [decide_eq_true ((nI_eq (by omega) (by omega)).mp (show nI n = nI 0 from c))] at hp
    repeat (first | refine hZ _ _ _ _ ⟨rfl, ?_⟩ | refine hZ _ _ _ _ ⟨_, _, (by repeat (first | exact up_s | assumption | refine up_n (by omega) ?_)), adl (by omega), (by rfl), ?_⟩ | refine hZ _ _ _ _ ⟨_, _, (by repeat (first | exact up_s | assumption | refine up_n (by omega) ?_)), adl (by omega), (by first | assumption | exact vp_in_nI (by omega) (by omega)), ?_⟩ | refine hZ _ _ _ _ ⟨_, (by repeat (first | exact up_s | assumption | refine up_n (by omega) ?_)), adl (by omega), (by rfl), trivial, ?_⟩ | refine hZ _ _ _ _ ⟨trivial, ?_⟩ | refine hZ _ _ _ _ ⟨_, _, _, _, (by repeat (first | exact up_s | assumption | refine up_n (by omega) ?_)), (by first | exact Or.inr (Or.inr rfl) | exact Or.inr (Or.inl rfl) | exact Or.inl rfl), adl (by omega), (by first | assumption | exact vp_in_nI (by omega) (by omega)), rowsF_at (by omega), ?_⟩ | refine hZ _ _ _ _ ?_)
    exact hp
theorem c_isPl {l : Launch} {h : AH} {g n : Nat} {a : Nat → Nat → Nat} {w κ : Nat → Nat} {p : Int32} {P : Option Value → AH → Prop} (G : Grd h g n a w κ) (hn : n ≤ 5) (hp : P (some (.int (b2i (inb p n)))) h) : Sem l QX1_isPlace 82 h [.ref g, .int p] P := by
  obtain ⟨B, pit, kind, deg, brs, G, hdi, V⟩ := G
  refine c_Ground_isPlace G ?_
  rw [isP_inb (by omega)]
  exact hp
