/-! ===== what every call keeps ===== -/
def gr (s : St) : Nat := sm s.2.1.1 s.1.1
theorem CY.fr {h h' : AH} {s : St} (C : CY h s) (f : Fr 61 82 h h') : CY h' s := by
  obtain ⟨⟨n, a, w, κ⟩, ⟨x, tp, fa, to⟩, ⟨cn, pl, td⟩, ⟨z, m, c⟩, tr, fl⟩ := s
  obtain ⟨g, d, k, e, c0, c1, c2, c3, c4, c5, c6, c7, c8⟩ := C
  have hw := c0
  unfold Wh at hw
  refine ⟨g, d, k, e, c0, c1.fr f (by omega), ⟨(f 1 (by omega)).trans c2.1, fun j hj => ?_⟩, c3.fr f (by omega), c4.fr f (by omega), c5.fr f (by omega), c6.fr f (by omega), c7.fr f (by omega), c8.fr f (by omega)⟩
  obtain ⟨len, cc, S, hv⟩ := c2.2 j hj
  exact ⟨len, cc, S.fr f (by omega), hv⟩
theorem CY.obj {h : AH} {s : St} (C : CY h s) : ∃ fs, h 0 = .inr (6, fs) := by
  obtain ⟨⟨n, a, w, κ⟩, ⟨x, tp, fa, to⟩, ⟨cn, pl, td⟩, ⟨z, m, c⟩, tr, fl⟩ := s
  obtain ⟨g, d, k, e, c0, c1, c2⟩ := C
  exact ⟨_, c1⟩
theorem MY.obj {h : AH} {s : St} (M : MY h s) : ∃ fs, h 61 = .inr (7, fs) := by
  obtain ⟨⟨n, a, w, κ⟩, ⟨x, tp, fa, to⟩, ⟨cn, pl, td⟩, ⟨z, m, c⟩, tr, fl⟩ := s
  obtain ⟨at', rp, dF', dT, dS, A, L, M, r⟩ := M
  exact ⟨_, M.1⟩
/-- kept: the state is in order, and few grains came -/
def Kp (s s' : St) : Prop := Ok s' ∧ gr s' ≤ gr s + 99
theorem Kp.rf {s : St} (O : Ok s) : Kp s s := ⟨O, by omega⟩
theorem Kp.setF {s : St} {f : Nat} (O : Ok s) : Kp s (setF s f) := by
  obtain ⟨⟨n, a, w, κ⟩, ⟨x, tp, fa, to⟩, ⟨cn, pl, td⟩, ⟨z, m, c⟩, tr, fl⟩ := s
  exact ⟨O, Nat.le_add_right _ _⟩
theorem Kp.setT {s : St} {t : Int32} (O : Ok s) : Kp s (setT s t) := by
  obtain ⟨⟨n, a, w, κ⟩, ⟨x, tp, fa, to⟩, ⟨cn, pl, td⟩, ⟨z, m, c⟩, tr, fl⟩ := s
  exact ⟨O, Nat.le_add_right _ _⟩
theorem K_heap {s : St} (O : Ok s) (p v : Int32) : Kp s (S_heap s p v).2 := by
  have O0 := O
  obtain ⟨⟨n, a, w, κ⟩, ⟨x, tp, fa, to⟩, ⟨cn, pl, td⟩, ⟨z, m, c⟩, tr, fl⟩ := s
  unfold S_heap
  dsimp only
  by_cases h1 : inb p n = false
  · rw [if_pos h1]; exact Kp.rf O0
  rw [if_neg h1]
  by_cases h2 : inb v 100 = false
  · rw [if_pos h2]; exact Kp.rf O0
  rw [if_neg h2]
  have h1 : inb p n = true := by simpa using h1
  have h2 : inb v 100 = true := by simpa using h2
  obtain ⟨j, hj, e1, -⟩ := v_nI (inb_iff.mp h1).1 (inb_iff.mp h1).2
  obtain ⟨k, hk, e2, -⟩ := v_nI (inb_iff.mp h2).1 (inb_iff.mp h2).2
  have hn5 : n ≤ 5 := O.2.1
  subst e1 e2
  rw [nI_clamp (by omega), nI_clamp (by omega)]
  refine ⟨O, ?_⟩
  have := sm_set (n := n) (p := j) (v := k) (x := x) hj
  show sm (updN x j k) n ≤ sm x n + 99
  omega
theorem K_drop {s : St} (O : Ok s) (p v : Int32) : Kp s (S_drop s p v).2 := by
  have O0 := O
  obtain ⟨⟨n, a, w, κ⟩, ⟨x, tp, fa, to⟩, ⟨cn, pl, td⟩, ⟨z, m, c⟩, tr, fl⟩ := s
  unfold S_drop
  dsimp only
  by_cases h1 : inb p n = false
  · rw [if_pos h1]; exact Kp.rf O0
  rw [if_neg h1]
  by_cases h2 : inb v 100 = false
  · rw [if_pos h2]; exact Kp.rf O0
  rw [if_neg h2]
  have h1 : inb p n = true := by simpa using h1
  have h2 : inb v 100 = true := by simpa using h2
  obtain ⟨j, hj, e1, -⟩ := v_nI (inb_iff.mp h1).1 (inb_iff.mp h1).2
  obtain ⟨k, hk, e2, -⟩ := v_nI (inb_iff.mp h2).1 (inb_iff.mp h2).2
  have hn5 : n ≤ 5 := O.2.1
  subst e1 e2
  rw [nI_clamp (by omega), nI_clamp (by omega)]
  by_cases h3 : k = 0
  · rw [if_pos h3]; exact Kp.rf O0
  rw [if_neg h3]
  by_cases h4 : 999 < x j + k
  · rw [if_pos h4]; exact Kp.rf O0
  rw [if_neg h4]
  refine ⟨O, ?_⟩
  show sm (updN x j (x j + k)) n ≤ sm x n + 99
  rw [sm_updN hj]
  omega
theorem K_topple {s : St} (O : Ok s) (p : Int32) : Kp s (S_topple s p).2 := by
  have O0 := O
  obtain ⟨⟨n, a, w, κ⟩, ⟨x, tp, fa, to⟩, ⟨cn, pl, td⟩, ⟨z, m, c⟩, tr, fl⟩ := s
  unfold S_topple
  dsimp only
  by_cases h1 : inb p n = false
  · rw [if_pos h1]; exact Kp.rf O0
  rw [if_neg h1]
  have h1 : inb p n = true := by simpa using h1
  obtain ⟨j, hj, e1, -⟩ := v_nI (inb_iff.mp h1).1 (inb_iff.mp h1).2
  have hn5 : n ≤ 5 := O.2.1
  subst e1
  rw [nI_clamp (by omega)]
  by_cases h4 : x j < brf n a w κ j
  · rw [if_pos h4]; exact Kp.rf O0
  rw [if_neg h4]
  have Y : Yw n a w κ := by rcases O.1 with z | z; · omega
                            · exact z.2
  refine ⟨O, ?_⟩
  have hdb : dgr n a w j ≤ brf n a w κ j := bea_ge _ _
  have := sm_tpl (t := 1) (w := w) hj (Y.2.2.1 j hj) (show 1 * dgr n a w j ≤ x j by omega)
  show sm (tpl a (dgr n a w) x j 1) n ≤ sm x n + 99
  omega
theorem odo_le {n : Nat} {a : Nat → Nat → Nat} {w κ x : Nat → Nat} (Y : Yw n a w κ) : sm (odo n a w κ x).2 n ≤ sm x n := by
  by_cases hx : ∃ q : (Nat → Nat) × (Nat → Nat), Stl n a (dgr n a w) (brf n a w κ) x q.1 q.2
  · obtain ⟨q, hq⟩ := hx
    exact cfg_le Y (odo_stl hq).1
  · have e : odo n a w κ x = (fun _ => 0, x) := dif_neg hx
    rw [e]
    exact Nat.le_refl _
theorem K_settle {s : St} (O : Ok s) : Kp s (S_settle s).2 := by
  have O0 := O
  obtain ⟨⟨n, a, w, κ⟩, ⟨x, tp, fa, to⟩, ⟨cn, pl, td⟩, ⟨z, m, c⟩, tr, fl⟩ := s
  unfold S_settle
  dsimp only
  by_cases h1 : n = 0
  · rw [if_pos h1]; exact Kp.rf O0
  rw [if_neg h1]
  have Y : Yw n a w κ := by rcases O.1 with z | z; · omega
                            · exact z.2
  refine ⟨O, ?_⟩
  have := odo_le (x := x) Y
  show sm (odo n a w κ x).2 n ≤ sm x n + 99
  omega
theorem K_reading {s : St} (O : Ok s) (p t : Int32) : Kp s (S_reading s p t).2 := by
  have O0 := O
  obtain ⟨⟨n, a, w, κ⟩, ⟨x, tp, fa, to⟩, ⟨cn, pl, td⟩, ⟨z, m, c⟩, tr, fl⟩ := s
  unfold S_reading
  dsimp only
  by_cases h1 : inb p n = false
  · rw [if_pos h1]; exact Kp.rf O0
  rw [if_neg h1]
  by_cases h2 : inb t 1000 = false
  · rw [if_pos h2]; exact Kp.rf O0
  rw [if_neg h2]
  by_cases h3 : 8 ≤ cn
  · rw [if_pos h3]; exact Kp.rf O0
  rw [if_neg h3]
  have h1 : inb p n = true := by simpa using h1
  obtain ⟨j, hj, e1, -⟩ := v_nI (inb_iff.mp h1).1 (inb_iff.mp h1).2
  have hn5 : n ≤ 5 := O.2.1
  subst e1
  rw [nI_clamp (by omega)]
  obtain ⟨o1, o2, o3, o4, o5⟩ := O
  refine ⟨⟨o1, o2, fun i hi => ?_, by omega, o5⟩, Nat.le_add_right _ _⟩
  unfold updN
  by_cases e9 : i = cn
  · rw [if_pos e9]; exact hj
  · rw [if_neg e9]; exact o3 i (by omega)
theorem K_back {s : St} (O : Ok s) (v : Int32) : Kp s (S_back s v).2 := by
  have O0 := O
  obtain ⟨⟨n, a, w, κ⟩, ⟨x, tp, fa, to⟩, ⟨cn, pl, td⟩, ⟨z, m, c⟩, tr, fl⟩ := s
  unfold S_back
  dsimp only
  by_cases h1 : inb v (cn + 1) = false
  · rw [if_pos h1]; exact Kp.rf O0
  rw [if_neg h1]
  obtain ⟨o1, o2, o3, o4, o5⟩ := O
  exact ⟨⟨o1, o2, fun i hi => o3 i (by omega), by omega, o5⟩, Nat.le_add_right _ _⟩
theorem K_as {s : St} (O : Ok s) (p v : Int32) : Kp s (S_as s p v).2 := by
  have O0 := O
  obtain ⟨⟨n, a, w, κ⟩, ⟨x, tp, fa, to⟩, ⟨cn, pl, td⟩, ⟨z, m, c⟩, tr, fl⟩ := s
  unfold S_as
  dsimp only
  split
  · exact Kp.setF O0
  · split
    · exact Kp.setF O0
    · split
      · exact Kp.setF O0
      · exact Kp.setF O0
theorem K_strike {s : St} (O : Ok s) (p : Int32) : Kp s (S_strike s p).2 := by
  have O0 := O
  obtain ⟨⟨n, a, w, κ⟩, ⟨x, tp, fa, to⟩, ⟨cn, pl, td⟩, ⟨z, m, c⟩, tr, fl⟩ := s
  unfold S_strike
  dsimp only
  split
  · exact Kp.rf O0
  · split
    · exact Kp.setT O0
    · exact Kp.setT O0
theorem K_tell {s : St} (O : Ok s) (p : Int32) : Kp s (S_tell s p).2 := by
  have O0 := O
  obtain ⟨⟨n, a, w, κ⟩, ⟨x, tp, fa, to⟩, ⟨cn, pl, td⟩, ⟨z, m, c⟩, tr, fl⟩ := s
  unfold S_tell
  dsimp only
  split
  · exact Kp.rf O0
  · split
    · exact Kp.setT O0
    · split
      · exact Kp.setT O0
      · exact Kp.setT O0
theorem Ok.sheets {Y : YS} {H H' : HS} {R : RS} {z m z' m' : Nat → Nat} {c c' : Nat → Nat → Int32} {tr fl tr' fl' : Int32} (O : Ok (Y, H, R, (z, m, c), tr, fl)) (h : ∀ j, j < 4 → z' j ≤ 3 ∧ m' j ≤ 60) : Ok (Y, H', R, (z', m', c'), tr', fl') := by
  obtain ⟨n, a, w, κ⟩ := Y
  obtain ⟨cn, pl, td⟩ := R
  obtain ⟨o1, o2, o3, o4, o5⟩ := O
  exact ⟨o1, o2, o3, o4, h⟩
theorem Ok.sh {Y : YS} {H : HS} {R : RS} {z m : Nat → Nat} {c : Nat → Nat → Int32} {tr fl : Int32} (O : Ok (Y, H, R, (z, m, c), tr, fl)) : ∀ j, j < 4 → z j ≤ 3 ∧ m j ≤ 60 := by
  obtain ⟨n, a, w, κ⟩ := Y
  obtain ⟨cn, pl, td⟩ := R
  exact O.2.2.2.2
theorem up_ok {z m : Nat → Nat} {k z' m' : Nat} (h : ∀ j, j < 4 → z j ≤ 3 ∧ m j ≤ 60) (h1 : z' ≤ 3) (h2 : m' ≤ 60) : ∀ j, j < 4 → updS z k z' j ≤ 3 ∧ updS m k m' j ≤ 60 := fun j hj => by
  unfold updS
  by_cases e : j = k
  · rw [if_pos e, if_pos e]; exact ⟨h1, h2⟩
  · rw [if_neg e, if_neg e]; exact h j hj
theorem K_sheet {s : St} (O : Ok s) (k lane v : Int32) : Kp s (S_sheet s k lane v).2 := by
  have O0 := O
  obtain ⟨Y, H, R, ⟨z, m, c⟩, tr, fl⟩ := s
  unfold S_sheet
  dsimp only
  by_cases h1 : inb k 4 = false
  · rw [if_pos h1]; exact Kp.setF O0
  rw [if_neg h1]
  by_cases h2 : inb lane 3 = false ∨ 60 < v.toInt
  · rw [if_pos h2]; exact Kp.setF O0
  rw [if_neg h2]
  by_cases h3 : v.toInt < 0
  · rw [if_pos h3]; exact Kp.setF O0
  rw [if_neg h3]
  have hl : inb lane 3 = true := by
    cases hq : inb lane 3 with
    | true => rfl
    | false => exact absurd (Or.inl hq) h2
  obtain ⟨j, hj, e1, -⟩ := v_nI (inb_iff.mp hl).1 (inb_iff.mp hl).2
  obtain ⟨t, ht, e2, -⟩ := v_nI (v := v) (k := 61) (by omega) (by
    have : ¬ 60 < v.toInt := fun q => h2 (Or.inr q)
    omega)
  subst e1 e2
  rw [nI_clamp (show j < 2 ^ 31 by omega), nI_clamp (show t < 2 ^ 31 by omega)]
  exact ⟨O.sheets (up_ok O.sh (by omega) (by omega)), Nat.le_add_right _ _⟩
theorem K_lose {s : St} (O : Ok s) (k : Int32) : Kp s (S_lose s k).2 := by
  have O0 := O
  obtain ⟨Y, H, R, ⟨z, m, c⟩, tr, fl⟩ := s
  unfold S_lose
  dsimp only
  split
  · exact Kp.rf O0
  · split
    · exact Kp.rf O0
    · exact ⟨O.sheets (up_ok O.sh (by omega) (by omega)), Nat.le_add_right _ _⟩
theorem K_put {s : St} (O : Ok s) (k i v : Int32) : Kp s (S_put s k i v).2 := by
  have O0 := O
  obtain ⟨Y, H, R, ⟨z, m, c⟩, tr, fl⟩ := s
  unfold S_put
  dsimp only
  by_cases h1 : inb k 4 = false
  · rw [if_pos h1]; exact Kp.setF O0
  rw [if_neg h1]
  have h1 : inb k 4 = true := by simpa using h1
  obtain ⟨j, hj, e1, -⟩ := v_nI (inb_iff.mp h1).1 (inb_iff.mp h1).2
  subst e1
  rw [nI_clamp (show j < 2 ^ 31 by omega)]
  have := O.sh j hj
  split
  · exact Kp.setF O0
  · split
    · exact ⟨O.sheets (up_ok O.sh this.1 this.2), Nat.le_add_right _ _⟩
    · exact Kp.setF O0
theorem K_cell {s : St} (O : Ok s) (k i lane : Int32) : Kp s (S_cell s k i lane).2 := by
  have O0 := O
  obtain ⟨Y, H, R, ⟨z, m, c⟩, tr, fl⟩ := s
  unfold S_cell
  dsimp only
  split
  · exact Kp.setF O0
  · split
    · exact Kp.setF O0
    · split
      · exact Kp.setF O0
      · exact Kp.setF O0
theorem K_copy {s : St} (O : Ok s) (k i o j v : Int32) : Kp s (S_copy s k i o j v).2 := by
  have O0 := O
  obtain ⟨Y, H, R, ⟨z, m, c⟩, tr, fl⟩ := s
  unfold S_copy
  dsimp only
  by_cases h1 : inb k 4 = false
  · rw [if_pos h1]; exact Kp.setF O0
  rw [if_neg h1]
  by_cases h2 : inb o 4 = false
  · rw [if_pos h2]; exact Kp.setF O0
  rw [if_neg h2]
  have h2 : inb o 4 = true := by simpa using h2
  obtain ⟨r, hr, e1, -⟩ := v_nI (inb_iff.mp h2).1 (inb_iff.mp h2).2
  subst e1
  rw [nI_clamp (show r < 2 ^ 31 by omega)]
  have := O.sh r hr
  split
  · exact Kp.setF O0
  · split
    · exact Kp.setF O0
    · split
      · exact Kp.setF O0
      · exact ⟨O.sheets (up_ok O.sh this.1 this.2), Nat.le_add_right _ _⟩
theorem K_alike {s : St} (O : Ok s) (k lane i : Int32) : Kp s (S_alike s k lane i).2 := by
  have O0 := O
  obtain ⟨⟨n, a, w, κ⟩, ⟨x, tp, fa, to⟩, ⟨cn, pl, td⟩, ⟨z, m, c⟩, tr, fl⟩ := s
  unfold S_alike
  dsimp only
  split
  · exact Kp.setF O0
  · split
    · exact Kp.setF O0
    · split
      · exact Kp.setF O0
      · split
        · exact Kp.setF O0
        · split
          · exact Kp.setF O0
          · exact Kp.setF O0
theorem K_day {s : St} (O : Ok s) (k lane i v u : Int32) : Kp s (S_day s k lane i v u).2 := by
  have O0 := O
  obtain ⟨⟨n, a, w, κ⟩, ⟨x, tp, fa, to⟩, ⟨cn, pl, td⟩, ⟨z, m, c⟩, tr, fl⟩ := s
  unfold S_day
  dsimp only
  split
  · exact Kp.setF O0
  · split
    · exact Kp.setF O0
    · split
      · exact Kp.setF O0
      · split
        · exact Kp.setF O0
        · split
          · exact Kp.setF O0
          · exact Kp.setF O0
theorem K_yard {s : St} (O : Ok s) (k lane i v : Int32) : Kp s (S_yard s k lane i v).2 := by
  have O0 := O
  obtain ⟨⟨n, a, w, κ⟩, ⟨x, tp, fa, to⟩, ⟨cn, pl, td⟩, ⟨z, m, c⟩, tr, fl⟩ := s
  unfold S_yard
  dsimp only
  by_cases h1 : inb k 4 = false
  · rw [if_pos h1]; exact Kp.setF O0
  rw [if_neg h1]
  by_cases h2 : inb lane 3 = false
  · rw [if_pos h2]; exact Kp.setF O0
  rw [if_neg h2]
  generalize (fun j => c k.toNatClampNeg (i.toNatClampNeg + j)) = cd
  generalize v.toNatClampNeg = b
  by_cases h3 : ¬ flt (z k.toNatClampNeg) lane i v (m k.toNatClampNeg) = 0
  · rw [if_pos h3]; exact Kp.setF O0
  rw [if_neg h3]
  by_cases h4 : ¬ ((yEnd cd b).1 = false ∧ (yEnd cd b).2 = b)
  · rw [if_pos h4]; exact Kp.setF O0
  rw [if_neg h4]
  have hy := Decidable.not_not.mp h4
  have hr := yOk_rst hy.1
  obtain ⟨hn2, hn5, -, -⟩ := ySt_n (cd := cd) (m := b)
  generalize (ySt cd b).2 = N at *
  by_cases h5 : lso (itr (opc N (ya cd N) (yw cd N)) N N) N 0 < N
  · rw [if_pos h5]; exact Kp.setF O0
  rw [if_neg h5]
  obtain ⟨o1, o2, o3, o4, o5⟩ := O
  refine ⟨⟨Or.inr ⟨hn2, y_yw hn5 hr h5⟩, hn5, fun j hj => by omega, by omega, o5⟩, ?_⟩
  show sm (yh cd N) N ≤ sm x n + 99
  have := sm_le (f := yh cd N) (n := N) (b := 9) (y_bounds hr).2.2
  omega
