/-! ===== the class: a text becomes the yard ===== -/
theorem flt_ok2 {z m : Nat} {asked i n : Int32} (hm : m < 2 ^ 30) (h : flt z asked i n m = 0) : ¬ z = 3 ∧ asked = nI z ∧ ∃ a b, i = nI a ∧ n = nI b ∧ a + b ≤ m := by
  unfold flt at h
  by_cases e : z = 3
  · rw [if_pos e] at h; omega
  · rw [if_neg e] at h
    by_cases e1 : asked = nI z
    · rw [if_neg (fun q => q e1)] at h
      by_cases e2 : n.toInt < 0
      · rw [if_pos e2] at h; omega
      · rw [if_neg e2] at h
        by_cases e3 : inC i n m = true
        · exact ⟨e, e1, inC_ok hm e2 e3⟩
        · rw [if_neg e3] at h; omega
    · rw [if_pos e1] at h; omega
theorem lso_all {S : Nat} : ∀ {e k : Nat}, ¬ lso S e k < k + e → lso S e k = k + e ∧ ∀ q, k ≤ q → q < k + e → bt1 S q = 1
  | 0, k, _ => ⟨rfl, fun q h1 h2 => by omega⟩
  | e + 1, k, h => by
    by_cases hb : bt1 S k = 1
    · have e1 : lso S (e + 1) k = lso S e (k + 1) := if_pos hb
      rw [e1] at h ⊢
      obtain ⟨i1, i2⟩ := lso_all (S := S) (e := e) (k := k + 1) (by omega)
      refine ⟨by omega, fun q h1 h2 => ?_⟩
      by_cases hq : q = k
      · rw [hq]; exact hb
      · exact i2 q (by omega) (by omega)
    · have e1 : lso S (e + 1) k = k := if_neg hb
      rw [e1] at h
      omega
theorem ktL_le (c : Int32) : ktL c ≤ 2 := by
  unfold ktL
  split
  · decide
  · split <;> decide
/-- a text that is one starts as one -/
theorem yOk_st {cd : Nat → Int32} {m : Nat} (h : (yEnd cd m).1 = false) : (ySt cd m).1 = (false, 2) := by
  obtain ⟨-, -, h3, -⟩ := ySt_n (cd := cd) (m := m)
  have hb : (ySt cd m).1.1 = false := by
    cases hh : (ySt cd m).1.1 with
    | false => rfl
    | true =>
      have := rst_wrong (ck := ckT (ySt cd m).2) (cd := cd) (m := m) (s0 := (ySt cd m).1) (j := 0) hh (pA (ySt cd m).2 (ySt cd m).2 + 4 * (ySt cd m).2)
      rw [Nat.zero_add] at this
      unfold yEnd at h
      rw [this] at h
      have h : (ySt cd m).1.1 = false := h
      rw [hh] at h
      exact absurd h (by decide)
  exact Prod.ext hb (h3 hb)
theorem yOk_rst {cd : Nat → Int32} {m : Nat} (h : (yEnd cd m).1 = false) : (rst (ckT (ySt cd m).2) cd m (false, 2) (pA (ySt cd m).2 (ySt cd m).2 + 4 * (ySt cd m).2)).1 = false := by
  have e := yOk_st h
  unfold yEnd at h
  rw [e] at h
  exact h
theorem y_bounds {cd : Nat → Int32} {m n : Nat} (ho : (rst (ckT n) cd m (false, 2) (pA n n + 4 * n)).1 = false) : (∀ p q, p < n → q < n → ya cd n p q ≤ 3) ∧ (∀ p, p < n → yw cd n p ≤ 3) ∧ (∀ p, p < n → yh cd n p ≤ 9) := by
  have up : ∀ p q, p < q → q < n → dgv (cd (yp n p q)) ≤ 3 := fun p q h1 h2 => by
    have hi := pA_in h1 h2
    have := (rst_pass ho (i := pA n p + (q - p - 1)) (by omega)).2
    rw [ck_pair hi] at this
    have e : yp n p q = (false, 2).2 + (pA n p + (q - p - 1)) := by unfold yp; show _ = 2 + _; omega
    rw [e]
    exact (dg_val (by decide) this).1
  refine ⟨fun p q hp hq => ?_, fun p hp => ?_, fun p hp => ?_⟩
  · unfold ya
    split
    · exact up p q (by assumption) hq
    · split
      · exact up q p (by assumption) hp
      · omega
  · have := (rst_pass ho (i := pA n n + 4 * p + 2) (by omega)).2
    rw [ck_2] at this
    exact (dg_val (by decide) this).1
  · have := (rst_pass ho (i := pA n n + 4 * p + 3) (by omega)).2
    rw [ck_3] at this
    exact (dg_val (by decide) this).1
theorem ya_sym (cd : Nat → Int32) (n p q : Nat) : ya cd n p q = ya cd n q p := by
  unfold ya
  by_cases h : p < q
  · rw [if_pos h, if_neg (by omega), if_pos h]
  · rw [if_neg h]
    by_cases h2 : q < p
    · rw [if_pos h2, if_pos h2]
    · rw [if_neg h2, if_neg h2, if_neg h]
theorem ya_dg (cd : Nat → Int32) (n p : Nat) : ya cd n p p = 0 := by
  unfold ya
  rw [if_neg (by omega), if_neg (by omega)]
theorem y_yw {cd : Nat → Int32} {m n : Nat} (hn : n ≤ 5) (ho : (rst (ckT n) cd m (false, 2) (pA n n + 4 * n)).1 = false) (hs : ¬ lso (itr (opc n (ya cd n) (yw cd n)) n n) n 0 < n) : Yw n (ya cd n) (yw cd n) (yk cd n) := by
  obtain ⟨b1, b2, b3⟩ := y_bounds ho
  obtain ⟨s1, s2⟩ := lso_all (S := itr (opc n (ya cd n) (yw cd n)) n n) (e := n) (k := 0) (by rw [Nat.zero_add]; exact hs)
  exact ⟨hn, fun p q _ _ => ya_sym cd n p q, fun p _ => ya_dg cd n p, b1, b2, fun p _ => ktL_le _, opn_of (fun q hq => s2 q (Nat.zero_le _) (by omega))⟩
def S_yard (s : St) (k lane i v : Int32) : Int32 × St := match s with
  | (_, _, (_, pl, td), (z, m, c), tr, _) => if inb k 4 = false then (-1, setF s 0) else if inb lane 3 = false then (-2, setF s 0) else if ¬ flt (z k.toNatClampNeg) lane i v (m k.toNatClampNeg) = 0 then (-10 - nI (flt (z k.toNatClampNeg) lane i v (m k.toNatClampNeg)), setF s (flt (z k.toNatClampNeg) lane i v (m k.toNatClampNeg))) else
    if ¬ ((yEnd (fun j => c k.toNatClampNeg (i.toNatClampNeg + j)) v.toNatClampNeg).1 = false ∧ (yEnd (fun j => c k.toNatClampNeg (i.toNatClampNeg + j)) v.toNatClampNeg).2 = v.toNatClampNeg) then (-100 - nI (yEnd (fun j => c k.toNatClampNeg (i.toNatClampNeg + j)) v.toNatClampNeg).2, setF s 0) else
    if lso (itr (opc (ySt (fun j => c k.toNatClampNeg (i.toNatClampNeg + j)) v.toNatClampNeg).2 (ya (fun j => c k.toNatClampNeg (i.toNatClampNeg + j)) (ySt (fun j => c k.toNatClampNeg (i.toNatClampNeg + j)) v.toNatClampNeg).2) (yw (fun j => c k.toNatClampNeg (i.toNatClampNeg + j)) (ySt (fun j => c k.toNatClampNeg (i.toNatClampNeg + j)) v.toNatClampNeg).2)) (ySt (fun j => c k.toNatClampNeg (i.toNatClampNeg + j)) v.toNatClampNeg).2 (ySt (fun j => c k.toNatClampNeg (i.toNatClampNeg + j)) v.toNatClampNeg).2) (ySt (fun j => c k.toNatClampNeg (i.toNatClampNeg + j)) v.toNatClampNeg).2 0 < (ySt (fun j => c k.toNatClampNeg (i.toNatClampNeg + j)) v.toNatClampNeg).2 then
      (-200 - nI (lso (itr (opc (ySt (fun j => c k.toNatClampNeg (i.toNatClampNeg + j)) v.toNatClampNeg).2 (ya (fun j => c k.toNatClampNeg (i.toNatClampNeg + j)) (ySt (fun j => c k.toNatClampNeg (i.toNatClampNeg + j)) v.toNatClampNeg).2) (yw (fun j => c k.toNatClampNeg (i.toNatClampNeg + j)) (ySt (fun j => c k.toNatClampNeg (i.toNatClampNeg + j)) v.toNatClampNeg).2)) (ySt (fun j => c k.toNatClampNeg (i.toNatClampNeg + j)) v.toNatClampNeg).2 (ySt (fun j => c k.toNatClampNeg (i.toNatClampNeg + j)) v.toNatClampNeg).2) (ySt (fun j => c k.toNatClampNeg (i.toNatClampNeg + j)) v.toNatClampNeg).2 0), setF s 0)
    else (nI (ySt (fun j => c k.toNatClampNeg (i.toNatClampNeg + j)) v.toNatClampNeg).2, (((ySt (fun j => c k.toNatClampNeg (i.toNatClampNeg + j)) v.toNatClampNeg).2, ya (fun j => c k.toNatClampNeg (i.toNatClampNeg + j)) (ySt (fun j => c k.toNatClampNeg (i.toNatClampNeg + j)) v.toNatClampNeg).2, yw (fun j => c k.toNatClampNeg (i.toNatClampNeg + j)) (ySt (fun j => c k.toNatClampNeg (i.toNatClampNeg + j)) v.toNatClampNeg).2, yk (fun j => c k.toNatClampNeg (i.toNatClampNeg + j)) (ySt (fun j => c k.toNatClampNeg (i.toNatClampNeg + j)) v.toNatClampNeg).2), (yh (fun j => c k.toNatClampNeg (i.toNatClampNeg + j)) (ySt (fun j => c k.toNatClampNeg (i.toNatClampNeg + j)) v.toNatClampNeg).2, fun _ => 0, 0, 0), (0, pl, td), (z, m, c), tr, nI 0))
theorem EqO.frp {N : Nat} {h h' : AH} {e : Nat} {C : Nat → Prop} {pl : Int32} {Rw : Nat → Nat → Int64} {an : Nat → Int64} (G : EqO N h e pl Rw an) (f : FrP C h h') (hd : ∀ j, e ≤ j → j < e + 8 → ¬ C j) : EqO N h' e pl Rw an := by
  obtain ⟨a0, a1, a2, a3, a4⟩ := G
  exact ⟨a0, (f _ (hd _ (by omega) (by omega))).trans a1, (f _ (hd _ (by omega) (by omega))).trans a2, fun i hi => (f _ (hd _ (by omega) (by omega))).trans (a3 i hi), (f _ (hd _ (by omega) (by omega))).trans a4⟩
/-- the drafts and the reader become others -/
theorem CC.drf {h h' : AH} {g d k e : Nat} {s : St} (C : CC h g d k e s) (f : FrP (fun j => (11 ≤ j ∧ j < 11 + 2) ∨ (d ≤ j ∧ j < d + 11) ∨ (e ≤ j ∧ j < e + 3)) h h') (hr : TrE 82 h' 11) (hg : GdE 82 h' d) (hh : HpE 82 h' e) : CC h' g d k e s := by
  obtain ⟨⟨n, a, w, κ⟩, ⟨x, tp, fa, to⟩, ⟨cn, pl, td⟩, ⟨z, m, c⟩, tr, fl⟩ := s
  obtain ⟨c0, c1, c2, ⟨pc, td', R, hv, ⟨f5, t5, fa5, to5, h5⟩, ⟨f8, t8, fa8, to8, h8⟩⟩, ⟨c4, ⟨q1, q2, q3, c4b⟩, ⟨q4, q5, q6, q7, c4c⟩, sn, c4d⟩, ⟨B, pit, kind, deg, brs, G, hdi, V⟩, c6, ⟨f', t', K, hf, ht⟩, c8⟩ := C
  have hw := c0
  unfold Wh at hw
  refine ⟨c0, (f _ (by omega)).trans c1, ⟨(f _ (by omega)).trans c2.1, fun j hj => ?_⟩, ⟨pc, td', ⟨R.1, (f _ (by omega)).trans R.2.1, (f _ (by omega)).trans R.2.2.1, (f _ (by omega)).trans R.2.2.2⟩, hv, ⟨_, _, _, _, h5.frp f (fun j h1 h2 => by omega)⟩, ⟨_, _, _, _, h8.frp f (fun j h1 h2 => by omega)⟩⟩, ⟨hr, ⟨_, _, _, c4b.frp f (fun j h1 h2 => by omega)⟩, ⟨_, _, _, _, c4c.frp f (fun j h1 h2 => by omega)⟩, sn, (f _ (by omega)).trans c4d⟩, ⟨B, pit, kind, deg, brs, G.frp f (fun j h1 h2 => by omega), hdi, V⟩, hg, ⟨_, _, K.frp f (fun j h1 h2 => by omega), hf, ht⟩, hh⟩
  obtain ⟨len, cc, S, hvv⟩ := c2.2 j hj
  exact ⟨len, cc, ⟨S.1, (f _ (by omega)).trans S.2.1, (f _ (by omega)).trans S.2.2⟩, hvv⟩
theorem c_takeDrafts {l : Launch} {h : AH} {g d k e n n' : Nat} {a a' : Nat → Nat → Nat} {w κ w' κ' x' : Nat → Nat} {H : HS} {cn : Nat} {pl : Nat → Nat} {td : Nat → Int32} {S : SS} {tr fl : Int32} {P : Option Value → AH → Prop} (C : CC h g d k e ((n, a, w, κ), H, (cn, pl, td), S, tr, fl)) (G' : Grd h d n' a' w' κ') (K' : Hps h e n' x' (fun _ => 0) 0 0)
    (hp : ∀ h', Fr 0 3 h h' → CC h' d g e k ((n', a', w', κ'), (x', fun _ => 0, 0, 0), (0, pl, td), S, tr, fl) → P none h') : Sem l QX6_takeDrafts 82 h [.ref 0] P := by
  obtain ⟨x, tp, fa, to⟩ := H
  obtain ⟨z, m, c⟩ := S
  obtain ⟨c0, c1, c2, ⟨pc, td', R, hv, h5, h8⟩, c4, ⟨B, pit, kind, deg, brs, G, hdi, V⟩, c6, ⟨f', t', K, hf, ht⟩, c8⟩ := C
  have hw := c0
  unfold Wh at hw
  unfold Obj at c1
  obtain ⟨rN, r0, r1, r2⟩ := R
  refine iX6_takeDrafts rfl ?_
  intro Z hZ
  repeat (first | refine hZ _ _ _ _ ⟨rfl, ?_⟩ | refine hZ _ _ _ _ ⟨_, _, (by repeat (first | exact up_s | assumption | refine up_n (by omega) ?_)), adl (by omega), (by rfl), ?_⟩ | refine hZ _ _ _ _ ⟨_, _, (by repeat (first | exact up_s | assumption | refine up_n (by omega) ?_)), adl (by omega), (by first | assumption | exact vp_in_nI (by omega) (by omega)), ?_⟩ | refine hZ _ _ _ _ ⟨_, (by repeat (first | exact up_s | assumption | refine up_n (by omega) ?_)), adl (by omega), (by rfl), trivial, ?_⟩ | refine hZ _ _ _ _ ⟨trivial, ?_⟩ | refine hZ _ _ _ _ ⟨_, _, _, _, (by repeat (first | exact up_s | assumption | refine up_n (by omega) ?_)), (by first | exact Or.inr (Or.inr rfl) | exact Or.inr (Or.inl rfl) | exact Or.inl rfl), adl (by omega), (by first | assumption | exact vp_in_nI (by omega) (by omega)), (by first | exact rowsF_at (by omega) | exact shF_at (by omega)), ?_⟩ | refine hZ _ _ _ _ ?_)
  generalize hh : va_up _ 2 _ = h1
  have F : Fr 0 3 h h1 := by
    rw [← hh]
    exact ((((Fr.rf.up (by omega) (by omega)).up (by omega) (by omega)).up (by omega) (by omega)).up (by omega) (by omega)).up (by omega) (by omega)
  have o1 : h1 0 = .inr (6, [.ref 1, .ref 2, .ref 11, .ref 13, .ref 21, .ref 24, .ref d, .ref g, .ref e, .ref k, .int tr, .int fl]) := by
    rw [← hh]; exact up_n (by omega) up_s
  have o2 : h1 2 = .inr (3, [.ref 3, .ref 4, .ref 5, .ref 8, .int 0]) := by
    rw [← hh]; exact up_s
  have o3 : h1 1 = h 1 := by
    rw [← hh]; exact up_n (by omega) (up_n (by omega) (up_n (by omega) (up_n (by omega) (up_n (by omega) rfl))))
  refine hp h1 F ⟨by unfold Wh; omega, o1, ⟨o3.trans c2.1, fun j hj => ?_⟩, ⟨pc, td', ⟨rN, o2, (F _ (by omega)).trans r1, (F _ (by omega)).trans r2⟩, fun j hj => by omega, h5.fr F (by omega), h8.fr F (by omega)⟩, c4.fr F (by omega), G'.fr F (by omega), ⟨_, _, _, _, _, _, G.fr F (by omega), hdi⟩, K'.fr F (by omega), ⟨_, _, _, _, K.fr F (by omega)⟩⟩
  obtain ⟨len, cc, S, hvv⟩ := c2.2 j hj
  exact ⟨len, cc, S.fr F (by omega), hvv⟩

theorem lbm100 : (Int8.ofInt (-100)).toInt32 = -100 := by decide
theorem lbm9 : (Int8.ofInt (-9)).toInt32 = -9 := by decide
theorem lsm200 : (Int16.ofInt (-200)).toInt32 = -200 := by decide
set_option maxHeartbeats 4000000 in
theorem C_yard {l : Launch} {h : AH} {s : St} {k lane i v : Int32} {P : Option Value → AH → Prop} (C : CY h s) (O : Ok s) (hp : ∀ h', Fr 0 61 h h' → CY h' (S_yard s k lane i v).2 → P (some (.int (S_yard s k lane i v).1)) h') : Sem l QX6_yard 82 h [.ref 0, .int k, .int lane, .int i, .int v] P := by
  obtain ⟨⟨n, a, w, κ⟩, ⟨x, tp, fa, to⟩, ⟨cn, pl, td⟩, ⟨z, m, c⟩, tr, fl⟩ := s
  obtain ⟨g, d, q, e, C⟩ := C
  obtain ⟨o1, o2, o3, o4, o5⟩ := O
  have c1 := C.2.1
  unfold Obj at c1
  refine iX6_yard rfl ?_
  intro Z hZ
  unfold S_yard at hp
  dsimp only at hp
  iterate 3 (first | refine hZ _ _ _ _ ⟨rfl, ?_⟩ | refine hZ _ _ _ _ ⟨_, _, (by repeat (first | exact up_s | assumption | refine up_n (by omega) ?_)), adl (by omega), (by rfl), ?_⟩ | refine hZ _ _ _ _ ⟨_, _, (by repeat (first | exact up_s | assumption | refine up_n (by omega) ?_)), adl (by omega), (by first | assumption | exact vp_in_nI (by omega) (by omega)), ?_⟩ | refine hZ _ _ _ _ ⟨_, (by repeat (first | exact up_s | assumption | refine up_n (by omega) ?_)), adl (by omega), (by rfl), trivial, ?_⟩ | refine hZ _ _ _ _ ⟨trivial, ?_⟩ | refine hZ _ _ _ _ ⟨_, _, _, _, (by repeat (first | exact up_s | assumption | refine up_n (by omega) ?_)), (by first | exact Or.inr (Or.inr rfl) | exact Or.inr (Or.inl rfl) | exact Or.inl rfl), adl (by omega), (by first | assumption | exact vp_in_nI (by omega) (by omega)), (by first | exact rowsF_at (by omega) | exact shF_at (by omega)), ?_⟩ | refine hZ _ _ _ _ ?_)
  show Z _ 5 _ _
  rw [lit_0]
  generalize hh : va_up h 0 _ = h1
  have F1 : Fr 0 1 h h1 := by rw [← hh]; exact Fr.rf.up (by omega) (by omega)
  have CC1 : CC h1 g d q e ((n, a, w, κ), (x, tp, fa, to), (cn, pl, td), (z, m, c), tr, nI 0) := C.obj F1 (by rw [← hh]; exact up_s)
  have c1' := CC1.2.1
  unfold Obj at c1'
  have S1 := CC1.2.2.1
  have s1 := S1.1
  have hw := CC1.1
  unfold Wh at hw
  iterate 1 (first | refine hZ _ _ _ _ ⟨rfl, ?_⟩ | refine hZ _ _ _ _ ⟨_, _, (by repeat (first | exact up_s | assumption | refine up_n (by omega) ?_)), adl (by omega), (by rfl), ?_⟩ | refine hZ _ _ _ _ ⟨_, _, (by repeat (first | exact up_s | assumption | refine up_n (by omega) ?_)), adl (by omega), (by first | assumption | exact vp_in_nI (by omega) (by omega)), ?_⟩ | refine hZ _ _ _ _ ⟨_, (by repeat (first | exact up_s | assumption | refine up_n (by omega) ?_)), adl (by omega), (by rfl), trivial, ?_⟩ | refine hZ _ _ _ _ ⟨trivial, ?_⟩ | refine hZ _ _ _ _ ⟨_, _, _, _, (by repeat (first | exact up_s | assumption | refine up_n (by omega) ?_)), (by first | exact Or.inr (Or.inr rfl) | exact Or.inr (Or.inl rfl) | exact Or.inl rfl), adl (by omega), (by first | assumption | exact vp_in_nI (by omega) (by omega)), (by first | exact rowsF_at (by omega) | exact shF_at (by omega)), ?_⟩ | refine hZ _ _ _ _ ?_)
  show Z _ 6 _ _
  refine hZ _ _ _ _ ⟨rfl, rfl, ?_⟩
  refine c_isSheet ?_
  show Z _ 9 _ _
  rcases inb_of (v := k) (n := 4) (by decide) with ⟨h1', h2⟩ | ⟨h1', j, h2, h3⟩
  · rw [h1']
    rw [if_pos h1'] at hp
    repeat (first | refine hZ _ _ _ _ ⟨rfl, ?_⟩ | refine hZ _ _ _ _ ⟨_, _, (by repeat (first | exact up_s | assumption | refine up_n (by omega) ?_)), adl (by omega), (by rfl), ?_⟩ | refine hZ _ _ _ _ ⟨_, _, (by repeat (first | exact up_s | assumption | refine up_n (by omega) ?_)), adl (by omega), (by first | assumption | exact vp_in_nI (by omega) (by omega)), ?_⟩ | refine hZ _ _ _ _ ⟨_, (by repeat (first | exact up_s | assumption | refine up_n (by omega) ?_)), adl (by omega), (by rfl), trivial, ?_⟩ | refine hZ _ _ _ _ ⟨trivial, ?_⟩ | refine hZ _ _ _ _ ⟨_, _, _, _, (by repeat (first | exact up_s | assumption | refine up_n (by omega) ?_)), (by first | exact Or.inr (Or.inr rfl) | exact Or.inr (Or.inl rfl) | exact Or.inl rfl), adl (by omega), (by first | assumption | exact vp_in_nI (by omega) (by omega)), (by first | exact rowsF_at (by omega) | exact shF_at (by omega)), ?_⟩ | refine hZ _ _ _ _ ?_)
    refine ⟨fun c => absurd rfl c, fun c => ?_⟩
    repeat (first | refine hZ _ _ _ _ ⟨rfl, ?_⟩ | refine hZ _ _ _ _ ⟨_, _, (by repeat (first | exact up_s | assumption | refine up_n (by omega) ?_)), adl (by omega), (by rfl), ?_⟩ | refine hZ _ _ _ _ ⟨_, _, (by repeat (first | exact up_s | assumption | refine up_n (by omega) ?_)), adl (by omega), (by first | assumption | exact vp_in_nI (by omega) (by omega)), ?_⟩ | refine hZ _ _ _ _ ⟨_, (by repeat (first | exact up_s | assumption | refine up_n (by omega) ?_)), adl (by omega), (by rfl), trivial, ?_⟩ | refine hZ _ _ _ _ ⟨trivial, ?_⟩ | refine hZ _ _ _ _ ⟨_, _, _, _, (by repeat (first | exact up_s | assumption | refine up_n (by omega) ?_)), (by first | exact Or.inr (Or.inr rfl) | exact Or.inr (Or.inl rfl) | exact Or.inl rfl), adl (by omega), (by first | assumption | exact vp_in_nI (by omega) (by omega)), (by first | exact rowsF_at (by omega) | exact shF_at (by omega)), ?_⟩ | refine hZ _ _ _ _ ?_)
    exact hp h1 (F1.wide (by omega) (by omega)) ⟨g, d, q, e, CC1⟩
  · rw [h1']
    rw [if_neg (by rw [h1']; decide)] at hp
    subst h3
    rw [nI_clamp (by omega)] at hp
    obtain ⟨len, cc, Sj, hvv⟩ := S1.2 j h2
    have sh0 := Sj.2.1
    have sh1 := Sj.2.2
    obtain ⟨zj3, mj60⟩ := o5 j h2
    repeat (first | refine hZ _ _ _ _ ⟨rfl, ?_⟩ | refine hZ _ _ _ _ ⟨_, _, (by repeat (first | exact up_s | assumption | refine up_n (by omega) ?_)), adl (by omega), (by rfl), ?_⟩ | refine hZ _ _ _ _ ⟨_, _, (by repeat (first | exact up_s | assumption | refine up_n (by omega) ?_)), adl (by omega), (by first | assumption | exact vp_in_nI (by omega) (by omega)), ?_⟩ | refine hZ _ _ _ _ ⟨_, (by repeat (first | exact up_s | assumption | refine up_n (by omega) ?_)), adl (by omega), (by rfl), trivial, ?_⟩ | refine hZ _ _ _ _ ⟨trivial, ?_⟩ | refine hZ _ _ _ _ ⟨_, _, _, _, (by repeat (first | exact up_s | assumption | refine up_n (by omega) ?_)), (by first | exact Or.inr (Or.inr rfl) | exact Or.inr (Or.inl rfl) | exact Or.inl rfl), adl (by omega), (by first | assumption | exact vp_in_nI (by omega) (by omega)), (by first | exact rowsF_at (by omega) | exact shF_at (by omega)), ?_⟩ | refine hZ _ _ _ _ ?_)
    refine ⟨fun c9 => ?_, fun c => absurd c (by decide)⟩
    iterate 1 (first | refine hZ _ _ _ _ ⟨rfl, ?_⟩ | refine hZ _ _ _ _ ⟨_, _, (by repeat (first | exact up_s | assumption | refine up_n (by omega) ?_)), adl (by omega), (by rfl), ?_⟩ | refine hZ _ _ _ _ ⟨_, _, (by repeat (first | exact up_s | assumption | refine up_n (by omega) ?_)), adl (by omega), (by first | assumption | exact vp_in_nI (by omega) (by omega)), ?_⟩ | refine hZ _ _ _ _ ⟨_, (by repeat (first | exact up_s | assumption | refine up_n (by omega) ?_)), adl (by omega), (by rfl), trivial, ?_⟩ | refine hZ _ _ _ _ ⟨trivial, ?_⟩ | refine hZ _ _ _ _ ⟨_, _, _, _, (by repeat (first | exact up_s | assumption | refine up_n (by omega) ?_)), (by first | exact Or.inr (Or.inr rfl) | exact Or.inr (Or.inl rfl) | exact Or.inl rfl), adl (by omega), (by first | assumption | exact vp_in_nI (by omega) (by omega)), (by first | exact rowsF_at (by omega) | exact shF_at (by omega)), ?_⟩ | refine hZ _ _ _ _ ?_)
    show Z _ 15 _ _
    refine hZ _ _ _ _ ⟨rfl, rfl, ?_⟩
    refine c_isLane ?_
    show Z _ 18 _ _
    cases hl : inb lane 3 with
    | false =>
      rw [if_pos hl] at hp
      repeat (first | refine hZ _ _ _ _ ⟨rfl, ?_⟩ | refine hZ _ _ _ _ ⟨_, _, (by repeat (first | exact up_s | assumption | refine up_n (by omega) ?_)), adl (by omega), (by rfl), ?_⟩ | refine hZ _ _ _ _ ⟨_, _, (by repeat (first | exact up_s | assumption | refine up_n (by omega) ?_)), adl (by omega), (by first | assumption | exact vp_in_nI (by omega) (by omega)), ?_⟩ | refine hZ _ _ _ _ ⟨_, (by repeat (first | exact up_s | assumption | refine up_n (by omega) ?_)), adl (by omega), (by rfl), trivial, ?_⟩ | refine hZ _ _ _ _ ⟨trivial, ?_⟩ | refine hZ _ _ _ _ ⟨_, _, _, _, (by repeat (first | exact up_s | assumption | refine up_n (by omega) ?_)), (by first | exact Or.inr (Or.inr rfl) | exact Or.inr (Or.inl rfl) | exact Or.inl rfl), adl (by omega), (by first | assumption | exact vp_in_nI (by omega) (by omega)), (by first | exact rowsF_at (by omega) | exact shF_at (by omega)), ?_⟩ | refine hZ _ _ _ _ ?_)
      refine ⟨fun c => absurd rfl c, fun c => ?_⟩
      repeat (first | refine hZ _ _ _ _ ⟨rfl, ?_⟩ | refine hZ _ _ _ _ ⟨_, _, (by repeat (first | exact up_s | assumption | refine up_n (by omega) ?_)), adl (by omega), (by rfl), ?_⟩ | refine hZ _ _ _ _ ⟨_, _, (by repeat (first | exact up_s | assumption | refine up_n (by omega) ?_)), adl (by omega), (by first | assumption | exact vp_in_nI (by omega) (by omega)), ?_⟩ | refine hZ _ _ _ _ ⟨_, (by repeat (first | exact up_s | assumption | refine up_n (by omega) ?_)), adl (by omega), (by rfl), trivial, ?_⟩ | refine hZ _ _ _ _ ⟨trivial, ?_⟩ | refine hZ _ _ _ _ ⟨_, _, _, _, (by repeat (first | exact up_s | assumption | refine up_n (by omega) ?_)), (by first | exact Or.inr (Or.inr rfl) | exact Or.inr (Or.inl rfl) | exact Or.inl rfl), adl (by omega), (by first | assumption | exact vp_in_nI (by omega) (by omega)), (by first | exact rowsF_at (by omega) | exact shF_at (by omega)), ?_⟩ | refine hZ _ _ _ _ ?_)
      rw [lbm2]
      exact hp h1 (F1.wide (by omega) (by omega)) ⟨g, d, q, e, CC1⟩
    | true =>
    rw [if_neg (by rw [hl]; decide)] at hp
    repeat (first | refine hZ _ _ _ _ ⟨rfl, ?_⟩ | refine hZ _ _ _ _ ⟨_, _, (by repeat (first | exact up_s | assumption | refine up_n (by omega) ?_)), adl (by omega), (by rfl), ?_⟩ | refine hZ _ _ _ _ ⟨_, _, (by repeat (first | exact up_s | assumption | refine up_n (by omega) ?_)), adl (by omega), (by first | assumption | exact vp_in_nI (by omega) (by omega)), ?_⟩ | refine hZ _ _ _ _ ⟨_, (by repeat (first | exact up_s | assumption | refine up_n (by omega) ?_)), adl (by omega), (by rfl), trivial, ?_⟩ | refine hZ _ _ _ _ ⟨trivial, ?_⟩ | refine hZ _ _ _ _ ⟨_, _, _, _, (by repeat (first | exact up_s | assumption | refine up_n (by omega) ?_)), (by first | exact Or.inr (Or.inr rfl) | exact Or.inr (Or.inl rfl) | exact Or.inl rfl), adl (by omega), (by first | assumption | exact vp_in_nI (by omega) (by omega)), (by first | exact rowsF_at (by omega) | exact shF_at (by omega)), ?_⟩ | refine hZ _ _ _ _ ?_)
    refine ⟨fun c9 => ?_, fun c => absurd c (by decide)⟩
    iterate 7 (first | refine hZ _ _ _ _ ⟨rfl, ?_⟩ | refine hZ _ _ _ _ ⟨_, _, (by repeat (first | exact up_s | assumption | refine up_n (by omega) ?_)), adl (by omega), (by rfl), ?_⟩ | refine hZ _ _ _ _ ⟨_, _, (by repeat (first | exact up_s | assumption | refine up_n (by omega) ?_)), adl (by omega), (by first | assumption | exact vp_in_nI (by omega) (by omega)), ?_⟩ | refine hZ _ _ _ _ ⟨_, (by repeat (first | exact up_s | assumption | refine up_n (by omega) ?_)), adl (by omega), (by rfl), trivial, ?_⟩ | refine hZ _ _ _ _ ⟨trivial, ?_⟩ | refine hZ _ _ _ _ ⟨_, _, _, _, (by repeat (first | exact up_s | assumption | refine up_n (by omega) ?_)), (by first | exact Or.inr (Or.inr rfl) | exact Or.inr (Or.inl rfl) | exact Or.inl rfl), adl (by omega), (by first | assumption | exact vp_in_nI (by omega) (by omega)), (by first | exact rowsF_at (by omega) | exact shF_at (by omega)), ?_⟩ | refine hZ _ _ _ _ ?_)
    show Z _ 34 _ _
    refine hZ _ _ _ _ ⟨⟨_, (by repeat (first | exact up_s | assumption | refine up_n (by omega) ?_))⟩, adl (by omega), rfl, ?_⟩
    refine c_Sheet_fault (m := m j) Sj zj3 (fun hz => ⟨(hvv hz).1, mj60⟩) ?_
    show Z _ 37 _ _
    by_cases hf0 : ¬ flt (z j) lane i v (m j) = 0
    · rw [if_pos hf0] at hp
      have f5 : flt (z j) lane i v (m j) < 5 := flt_lt
      generalize flt (z j) lane i v (m j) = f at *
      repeat (first | refine hZ _ _ _ _ ⟨rfl, ?_⟩ | refine hZ _ _ _ _ ⟨_, _, (by repeat (first | exact up_s | assumption | refine up_n (by omega) ?_)), adl (by omega), (by rfl), ?_⟩ | refine hZ _ _ _ _ ⟨_, _, (by repeat (first | exact up_s | assumption | refine up_n (by omega) ?_)), adl (by omega), (by first | assumption | exact vp_in_nI (by omega) (by omega)), ?_⟩ | refine hZ _ _ _ _ ⟨_, (by repeat (first | exact up_s | assumption | refine up_n (by omega) ?_)), adl (by omega), (by rfl), trivial, ?_⟩ | refine hZ _ _ _ _ ⟨trivial, ?_⟩ | refine hZ _ _ _ _ ⟨_, _, _, _, (by repeat (first | exact up_s | assumption | refine up_n (by omega) ?_)), (by first | exact Or.inr (Or.inr rfl) | exact Or.inr (Or.inl rfl) | exact Or.inl rfl), adl (by omega), (by first | assumption | exact vp_in_nI (by omega) (by omega)), (by first | exact rowsF_at (by omega) | exact shF_at (by omega)), ?_⟩ | refine hZ _ _ _ _ ?_)
      refine ⟨fun c => absurd c (nI_ne0 (by omega) (by omega)), fun c => ?_⟩
      iterate 2 (first | refine hZ _ _ _ _ ⟨rfl, ?_⟩ | refine hZ _ _ _ _ ⟨_, _, (by repeat (first | exact up_s | assumption | refine up_n (by omega) ?_)), adl (by omega), (by rfl), ?_⟩ | refine hZ _ _ _ _ ⟨_, _, (by repeat (first | exact up_s | assumption | refine up_n (by omega) ?_)), adl (by omega), (by first | assumption | exact vp_in_nI (by omega) (by omega)), ?_⟩ | refine hZ _ _ _ _ ⟨_, (by repeat (first | exact up_s | assumption | refine up_n (by omega) ?_)), adl (by omega), (by rfl), trivial, ?_⟩ | refine hZ _ _ _ _ ⟨trivial, ?_⟩ | refine hZ _ _ _ _ ⟨_, _, _, _, (by repeat (first | exact up_s | assumption | refine up_n (by omega) ?_)), (by first | exact Or.inr (Or.inr rfl) | exact Or.inr (Or.inl rfl) | exact Or.inl rfl), adl (by omega), (by first | assumption | exact vp_in_nI (by omega) (by omega)), (by first | exact rowsF_at (by omega) | exact shF_at (by omega)), ?_⟩ | refine hZ _ _ _ _ ?_)
      show Z _ 47 _ _
      refine hZ _ _ _ _ ⟨⟨_, (by repeat (first | exact up_s | assumption | refine up_n (by omega) ?_))⟩, adl (by omega), rfl, ?_⟩
      refine c_faulted CC1 (fun h2 F2 C2 => ?_)
      show Z _ 50 _ _
      repeat (first | refine hZ _ _ _ _ ⟨rfl, ?_⟩ | refine hZ _ _ _ _ ⟨_, _, (by repeat (first | exact up_s | assumption | refine up_n (by omega) ?_)), adl (by omega), (by rfl), ?_⟩ | refine hZ _ _ _ _ ⟨_, _, (by repeat (first | exact up_s | assumption | refine up_n (by omega) ?_)), adl (by omega), (by first | assumption | exact vp_in_nI (by omega) (by omega)), ?_⟩ | refine hZ _ _ _ _ ⟨_, (by repeat (first | exact up_s | assumption | refine up_n (by omega) ?_)), adl (by omega), (by rfl), trivial, ?_⟩ | refine hZ _ _ _ _ ⟨trivial, ?_⟩ | refine hZ _ _ _ _ ⟨_, _, _, _, (by repeat (first | exact up_s | assumption | refine up_n (by omega) ?_)), (by first | exact Or.inr (Or.inr rfl) | exact Or.inr (Or.inl rfl) | exact Or.inl rfl), adl (by omega), (by first | assumption | exact vp_in_nI (by omega) (by omega)), (by first | exact rowsF_at (by omega) | exact shF_at (by omega)), ?_⟩ | refine hZ _ _ _ _ ?_)
      exact hp h2 ((F1.tr F2).wide (by omega) (by omega)) ⟨g, d, q, e, C2⟩
    rw [if_neg hf0] at hp
    have hf0 := Decidable.not_not.mp hf0
    rw [hf0]
    obtain ⟨zj, ej, i0, mm, e1, e2, e3⟩ := flt_ok2 (by omega) hf0
    subst e1
    subst e2
    rw [nI_clamp (by omega), nI_clamp (by omega)] at hp
    obtain ⟨el, ecc⟩ := hvv (by omega)
    have CC0 := CC1
    obtain ⟨-, -, -, c3, c4, c5, c6, c7, c8⟩ := CC1
    obtain ⟨plD, BD, pitD, kindD, degD, brsD, GD, hdD⟩ := c6
    obtain ⟨fD, tD, faD, toD, KD⟩ := c8
    have c41 := c4.1
    obtain ⟨x1, x2, x3, cdr, rN, rr0, rr1⟩ := c41
    repeat (first | refine hZ _ _ _ _ ⟨rfl, ?_⟩ | refine hZ _ _ _ _ ⟨_, _, (by repeat (first | exact up_s | assumption | refine up_n (by omega) ?_)), adl (by omega), (by rfl), ?_⟩ | refine hZ _ _ _ _ ⟨_, _, (by repeat (first | exact up_s | assumption | refine up_n (by omega) ?_)), adl (by omega), (by first | assumption | exact vp_in_nI (by omega) (by omega)), ?_⟩ | refine hZ _ _ _ _ ⟨_, (by repeat (first | exact up_s | assumption | refine up_n (by omega) ?_)), adl (by omega), (by rfl), trivial, ?_⟩ | refine hZ _ _ _ _ ⟨trivial, ?_⟩ | refine hZ _ _ _ _ ⟨_, _, _, _, (by repeat (first | exact up_s | assumption | refine up_n (by omega) ?_)), (by first | exact Or.inr (Or.inr rfl) | exact Or.inr (Or.inl rfl) | exact Or.inl rfl), adl (by omega), (by first | assumption | exact vp_in_nI (by omega) (by omega)), (by first | exact rowsF_at (by omega) | exact shF_at (by omega)), ?_⟩ | refine hZ _ _ _ _ ?_)
    refine ⟨fun c9 => ?_, fun c9 => absurd rfl c9⟩
    iterate 13 (first | refine hZ _ _ _ _ ⟨rfl, ?_⟩ | refine hZ _ _ _ _ ⟨_, _, (by repeat (first | exact up_s | assumption | refine up_n (by omega) ?_)), adl (by omega), (by rfl), ?_⟩ | refine hZ _ _ _ _ ⟨_, _, (by repeat (first | exact up_s | assumption | refine up_n (by omega) ?_)), adl (by omega), (by first | assumption | exact vp_in_nI (by omega) (by omega)), ?_⟩ | refine hZ _ _ _ _ ⟨_, (by repeat (first | exact up_s | assumption | refine up_n (by omega) ?_)), adl (by omega), (by rfl), trivial, ?_⟩ | refine hZ _ _ _ _ ⟨trivial, ?_⟩ | refine hZ _ _ _ _ ⟨_, _, _, _, (by repeat (first | exact up_s | assumption | refine up_n (by omega) ?_)), (by first | exact Or.inr (Or.inr rfl) | exact Or.inr (Or.inl rfl) | exact Or.inl rfl), adl (by omega), (by first | assumption | exact vp_in_nI (by omega) (by omega)), (by first | exact rowsF_at (by omega) | exact shF_at (by omega)), ?_⟩ | refine hZ _ _ _ _ ?_)
    show Z _ 75 _ _
    refine hZ _ _ _ _ ⟨⟨_, (by repeat (first | exact up_s | assumption | refine up_n (by omega) ?_))⟩, adl (by omega), rfl, ?_⟩
    refine c_Reader_isText c4.1 GD KD sh1 (by omega) (by omega) (by omega) (by omega) (by omega) (by omega) hdD (fun h2 n' B' pit' kind' deg' brs' f' t' wr hn' T2 G2 K2 hd2 ht2 hok F2 => ?_)
    show Z _ 78 _ _
    have hcd : ∀ jj, jj < mm → cc (i0 + jj) = c j (i0 + jj) := fun jj hjj => ecc _ (by omega)
    obtain ⟨cd, hcde⟩ : ∃ cd, cd = fun jj => c j (i0 + jj) := ⟨_, rfl⟩
    have eE : yEnd (fun jj => cc (i0 + jj)) mm = yEnd cd mm := by rw [hcde]; exact yEnd_congr hcd
    have eS : ySt (fun jj => cc (i0 + jj)) mm = ySt cd mm := by rw [hcde]; exact ySt_congr hcd
    rw [← hcde] at hp
    rw [eE] at T2
    rw [eS] at hn'
    obtain ⟨cdt, T2⟩ := T2
    have CC2 := CC0.drf F2 T2.e ⟨_, _, _, _, _, _, G2, hd2⟩ ⟨_, _, _, _, K2⟩
    have F02 : Fr 0 61 h h2 := (F1.wide (by omega) (by omega)).tr (fun jj hjj => F2 jj (by omega))
    have c12 := CC2.2.1
    unfold Obj at c12
    obtain ⟨tN, t0, t1⟩ := T2
    by_cases hy : ¬ ((yEnd cd mm).1 = false ∧ (yEnd cd mm).2 = mm)
    · rw [if_pos hy] at hp
      rw [cb_f (by unfold yOk; rw [eE]; exact hy)]
      repeat (first | refine hZ _ _ _ _ ⟨rfl, ?_⟩ | refine hZ _ _ _ _ ⟨_, _, (by repeat (first | exact up_s | assumption | refine up_n (by omega) ?_)), adl (by omega), (by rfl), ?_⟩ | refine hZ _ _ _ _ ⟨_, _, (by repeat (first | exact up_s | assumption | refine up_n (by omega) ?_)), adl (by omega), (by first | assumption | exact vp_in_nI (by omega) (by omega)), ?_⟩ | refine hZ _ _ _ _ ⟨_, (by repeat (first | exact up_s | assumption | refine up_n (by omega) ?_)), adl (by omega), (by rfl), trivial, ?_⟩ | refine hZ _ _ _ _ ⟨trivial, ?_⟩ | refine hZ _ _ _ _ ⟨_, _, _, _, (by repeat (first | exact up_s | assumption | refine up_n (by omega) ?_)), (by first | exact Or.inr (Or.inr rfl) | exact Or.inr (Or.inl rfl) | exact Or.inl rfl), adl (by omega), (by first | assumption | exact vp_in_nI (by omega) (by omega)), (by first | exact rowsF_at (by omega) | exact shF_at (by omega)), ?_⟩ | refine hZ _ _ _ _ ?_)
      refine ⟨fun c9 => absurd rfl c9, fun c9 => ?_⟩
      repeat (first | refine hZ _ _ _ _ ⟨rfl, ?_⟩ | refine hZ _ _ _ _ ⟨_, _, (by repeat (first | exact up_s | assumption | refine up_n (by omega) ?_)), adl (by omega), (by rfl), ?_⟩ | refine hZ _ _ _ _ ⟨_, _, (by repeat (first | exact up_s | assumption | refine up_n (by omega) ?_)), adl (by omega), (by first | assumption | exact vp_in_nI (by omega) (by omega)), ?_⟩ | refine hZ _ _ _ _ ⟨_, (by repeat (first | exact up_s | assumption | refine up_n (by omega) ?_)), adl (by omega), (by rfl), trivial, ?_⟩ | refine hZ _ _ _ _ ⟨trivial, ?_⟩ | refine hZ _ _ _ _ ⟨_, _, _, _, (by repeat (first | exact up_s | assumption | refine up_n (by omega) ?_)), (by first | exact Or.inr (Or.inr rfl) | exact Or.inr (Or.inl rfl) | exact Or.inl rfl), adl (by omega), (by first | assumption | exact vp_in_nI (by omega) (by omega)), (by first | exact rowsF_at (by omega) | exact shF_at (by omega)), ?_⟩ | refine hZ _ _ _ _ ?_)
      rw [lbm100]
      exact hp h2 F02 ⟨g, d, q, e, CC2⟩
    rw [if_neg hy] at hp
    have hy := Decidable.not_not.mp hy
    have hyc : yOk (fun jj => cc (i0 + jj)) mm := by unfold yOk; rw [eE]; exact hy
    rw [cb_t hyc]
    obtain ⟨V1, hf1⟩ := hok hyc
    have ho := yOk_rst hy.1
    rw [← hn'] at ho hp
    have hn5 : 2 ≤ n' ∧ n' ≤ 5 := by
      have := ySt_n (cd := cd) (m := mm)
      omega
    obtain ⟨y1, y2, y3, y4⟩ := y_congr (cd := fun jj => cc (i0 + jj)) (n := n') (by rw [hcde]; exact hcd) ho
    have V2 := V1.congr y1 y2 y3
    obtain ⟨b1, b2, b3⟩ := y_bounds ho
    repeat (first | refine hZ _ _ _ _ ⟨rfl, ?_⟩ | refine hZ _ _ _ _ ⟨_, _, (by repeat (first | exact up_s | assumption | refine up_n (by omega) ?_)), adl (by omega), (by rfl), ?_⟩ | refine hZ _ _ _ _ ⟨_, _, (by repeat (first | exact up_s | assumption | refine up_n (by omega) ?_)), adl (by omega), (by first | assumption | exact vp_in_nI (by omega) (by omega)), ?_⟩ | refine hZ _ _ _ _ ⟨_, (by repeat (first | exact up_s | assumption | refine up_n (by omega) ?_)), adl (by omega), (by rfl), trivial, ?_⟩ | refine hZ _ _ _ _ ⟨trivial, ?_⟩ | refine hZ _ _ _ _ ⟨_, _, _, _, (by repeat (first | exact up_s | assumption | refine up_n (by omega) ?_)), (by first | exact Or.inr (Or.inr rfl) | exact Or.inr (Or.inl rfl) | exact Or.inl rfl), adl (by omega), (by first | assumption | exact vp_in_nI (by omega) (by omega)), (by first | exact rowsF_at (by omega) | exact shF_at (by omega)), ?_⟩ | refine hZ _ _ _ _ ?_)
    refine ⟨fun c9 => ?_, fun c9 => absurd c9 (by decide)⟩
    have g20 := G2.2.1
    iterate 2 (first | refine hZ _ _ _ _ ⟨rfl, ?_⟩ | refine hZ _ _ _ _ ⟨_, _, (by repeat (first | exact up_s | assumption | refine up_n (by omega) ?_)), adl (by omega), (by rfl), ?_⟩ | refine hZ _ _ _ _ ⟨_, _, (by repeat (first | exact up_s | assumption | refine up_n (by omega) ?_)), adl (by omega), (by first | assumption | exact vp_in_nI (by omega) (by omega)), ?_⟩ | refine hZ _ _ _ _ ⟨_, (by repeat (first | exact up_s | assumption | refine up_n (by omega) ?_)), adl (by omega), (by rfl), trivial, ?_⟩ | refine hZ _ _ _ _ ⟨trivial, ?_⟩ | refine hZ _ _ _ _ ⟨_, _, _, _, (by repeat (first | exact up_s | assumption | refine up_n (by omega) ?_)), (by first | exact Or.inr (Or.inr rfl) | exact Or.inr (Or.inl rfl) | exact Or.inl rfl), adl (by omega), (by first | assumption | exact vp_in_nI (by omega) (by omega)), (by first | exact rowsF_at (by omega) | exact shF_at (by omega)), ?_⟩ | refine hZ _ _ _ _ ?_)
    show Z _ 96 _ _
    refine hZ _ _ _ _ ⟨⟨_, (by repeat (first | exact up_s | assumption | refine up_n (by omega) ?_))⟩, adl (by omega), rfl, ?_⟩
    refine c_Ground_leastShut G2 hn5.2 V2.1 b1 V2.2.1 b2 (fun s hs => ⟨fun hsn => ?_, fun hsn => ?_⟩)
    · show Z _ 99 _ _
      rw [← hs, if_neg (by omega)] at hp
      repeat (first | refine hZ _ _ _ _ ⟨rfl, ?_⟩ | refine hZ _ _ _ _ ⟨_, _, (by repeat (first | exact up_s | assumption | refine up_n (by omega) ?_)), adl (by omega), (by rfl), ?_⟩ | refine hZ _ _ _ _ ⟨_, _, (by repeat (first | exact up_s | assumption | refine up_n (by omega) ?_)), adl (by omega), (by first | assumption | exact vp_in_nI (by omega) (by omega)), ?_⟩ | refine hZ _ _ _ _ ⟨_, (by repeat (first | exact up_s | assumption | refine up_n (by omega) ?_)), adl (by omega), (by rfl), trivial, ?_⟩ | refine hZ _ _ _ _ ⟨trivial, ?_⟩ | refine hZ _ _ _ _ ⟨_, _, _, _, (by repeat (first | exact up_s | assumption | refine up_n (by omega) ?_)), (by first | exact Or.inr (Or.inr rfl) | exact Or.inr (Or.inl rfl) | exact Or.inl rfl), adl (by omega), (by first | assumption | exact vp_in_nI (by omega) (by omega)), (by first | exact rowsF_at (by omega) | exact shF_at (by omega)), ?_⟩ | refine hZ _ _ _ _ ?_)
      refine ⟨fun c9 => ?_, fun c9 => absurd (by decide) c9⟩
      iterate 1 (first | refine hZ _ _ _ _ ⟨rfl, ?_⟩ | refine hZ _ _ _ _ ⟨_, _, (by repeat (first | exact up_s | assumption | refine up_n (by omega) ?_)), adl (by omega), (by rfl), ?_⟩ | refine hZ _ _ _ _ ⟨_, _, (by repeat (first | exact up_s | assumption | refine up_n (by omega) ?_)), adl (by omega), (by first | assumption | exact vp_in_nI (by omega) (by omega)), ?_⟩ | refine hZ _ _ _ _ ⟨_, (by repeat (first | exact up_s | assumption | refine up_n (by omega) ?_)), adl (by omega), (by rfl), trivial, ?_⟩ | refine hZ _ _ _ _ ⟨trivial, ?_⟩ | refine hZ _ _ _ _ ⟨_, _, _, _, (by repeat (first | exact up_s | assumption | refine up_n (by omega) ?_)), (by first | exact Or.inr (Or.inr rfl) | exact Or.inr (Or.inl rfl) | exact Or.inl rfl), adl (by omega), (by first | assumption | exact vp_in_nI (by omega) (by omega)), (by first | exact rowsF_at (by omega) | exact shF_at (by omega)), ?_⟩ | refine hZ _ _ _ _ ?_)
      show Z _ 116 _ _
      refine hZ _ _ _ _ ⟨⟨_, (by repeat (first | exact up_s | assumption | refine up_n (by omega) ?_))⟩, adl (by omega), rfl, ?_⟩
      refine c_takeDrafts CC2 ⟨_, _, _, _, _, G2, hd2, V2⟩ ⟨_, _, K2, fun p hp => by rw [hf1 p hp, y4 p hp], fun p hp => ht2 p (by omega)⟩ (fun h3 F3 C3 => ?_)
      show Z _ 119 _ _
      have CC3 := C3
      obtain ⟨-, c13, -, -, -, ⟨B3, pit3, kind3, deg3, brs3, G3, hd3, V3⟩, -⟩ := C3
      unfold Obj at c13
      have g30 := G3.2.1
      have gN3 := G3.1
      repeat (first | refine hZ _ _ _ _ ⟨rfl, ?_⟩ | refine hZ _ _ _ _ ⟨_, _, (by repeat (first | exact up_s | assumption | refine up_n (by omega) ?_)), adl (by omega), (by rfl), ?_⟩ | refine hZ _ _ _ _ ⟨_, _, (by repeat (first | exact up_s | assumption | refine up_n (by omega) ?_)), adl (by omega), (by first | assumption | exact vp_in_nI (by omega) (by omega)), ?_⟩ | refine hZ _ _ _ _ ⟨_, (by repeat (first | exact up_s | assumption | refine up_n (by omega) ?_)), adl (by omega), (by rfl), trivial, ?_⟩ | refine hZ _ _ _ _ ⟨trivial, ?_⟩ | refine hZ _ _ _ _ ⟨_, _, _, _, (by repeat (first | exact up_s | assumption | refine up_n (by omega) ?_)), (by first | exact Or.inr (Or.inr rfl) | exact Or.inr (Or.inl rfl) | exact Or.inl rfl), adl (by omega), (by first | assumption | exact vp_in_nI (by omega) (by omega)), (by first | exact rowsF_at (by omega) | exact shF_at (by omega)), ?_⟩ | refine hZ _ _ _ _ ?_)
      exact hp h3 (F02.tr (F3.wide (by omega) (by omega))) ⟨_, _, _, _, CC3⟩
    · show Z _ 99 _ _
      rw [← hs, if_pos hsn] at hp
      repeat (first | refine hZ _ _ _ _ ⟨rfl, ?_⟩ | refine hZ _ _ _ _ ⟨_, _, (by repeat (first | exact up_s | assumption | refine up_n (by omega) ?_)), adl (by omega), (by rfl), ?_⟩ | refine hZ _ _ _ _ ⟨_, _, (by repeat (first | exact up_s | assumption | refine up_n (by omega) ?_)), adl (by omega), (by first | assumption | exact vp_in_nI (by omega) (by omega)), ?_⟩ | refine hZ _ _ _ _ ⟨_, (by repeat (first | exact up_s | assumption | refine up_n (by omega) ?_)), adl (by omega), (by rfl), trivial, ?_⟩ | refine hZ _ _ _ _ ⟨trivial, ?_⟩ | refine hZ _ _ _ _ ⟨_, _, _, _, (by repeat (first | exact up_s | assumption | refine up_n (by omega) ?_)), (by first | exact Or.inr (Or.inr rfl) | exact Or.inr (Or.inl rfl) | exact Or.inl rfl), adl (by omega), (by first | assumption | exact vp_in_nI (by omega) (by omega)), (by first | exact rowsF_at (by omega) | exact shF_at (by omega)), ?_⟩ | refine hZ _ _ _ _ ?_)
      refine ⟨fun c9 => absurd (c9.trans (by decide : _ = (-9 : Int32))) ?_, fun c9 => ?_⟩
      · intro q9
        have := congrArg Int32.toInt q9
        rw [nI_toInt (by omega), show (-9 : Int32).toInt = -9 by decide] at this
        omega
      repeat (first | refine hZ _ _ _ _ ⟨rfl, ?_⟩ | refine hZ _ _ _ _ ⟨_, _, (by repeat (first | exact up_s | assumption | refine up_n (by omega) ?_)), adl (by omega), (by rfl), ?_⟩ | refine hZ _ _ _ _ ⟨_, _, (by repeat (first | exact up_s | assumption | refine up_n (by omega) ?_)), adl (by omega), (by first | assumption | exact vp_in_nI (by omega) (by omega)), ?_⟩ | refine hZ _ _ _ _ ⟨_, (by repeat (first | exact up_s | assumption | refine up_n (by omega) ?_)), adl (by omega), (by rfl), trivial, ?_⟩ | refine hZ _ _ _ _ ⟨trivial, ?_⟩ | refine hZ _ _ _ _ ⟨_, _, _, _, (by repeat (first | exact up_s | assumption | refine up_n (by omega) ?_)), (by first | exact Or.inr (Or.inr rfl) | exact Or.inr (Or.inl rfl) | exact Or.inl rfl), adl (by omega), (by first | assumption | exact vp_in_nI (by omega) (by omega)), (by first | exact rowsF_at (by omega) | exact shF_at (by omega)), ?_⟩ | refine hZ _ _ _ _ ?_)
      rw [lsm200]
      exact hp h2 F02 ⟨g, d, q, e, CC2⟩
