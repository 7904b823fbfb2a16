theorem rst_congr {ck : Nat → Int32 → Bool} {cd cd2 : Nat → Int32} {m : Nat} {s0 : Bool × Nat} (h : ∀ j, j < m → cd j = cd2 j) : ∀ j, rst ck cd m s0 j = rst ck cd2 m s0 j
  | 0 => rfl
  | j + 1 => by
    have ih := rst_congr (ck := ck) (s0 := s0) h j
    by_cases c : (rst ck cd m s0 j).1 = false ∧ (rst ck cd m s0 j).2 < m ∧ ck j (cd (rst ck cd m s0 j).2) = true
    · have c2 : (rst ck cd2 m s0 j).1 = false ∧ (rst ck cd2 m s0 j).2 < m ∧ ck j (cd2 (rst ck cd2 m s0 j).2) = true := by
        rw [← ih]
        exact ⟨c.1, c.2.1, by rw [← h _ c.2.1]; exact c.2.2⟩
      rw [rst_ok c, rst_ok c2, ih]
    · have c2 : ¬ ((rst ck cd2 m s0 j).1 = false ∧ (rst ck cd2 m s0 j).2 < m ∧ ck j (cd2 (rst ck cd2 m s0 j).2) = true) := by
        rw [← ih]
        exact fun z => c ⟨z.1, z.2.1, by rw [h _ z.2.1]; exact z.2.2⟩
      rw [rst_no c, rst_no c2, ih]
theorem ySt_congr {cd cd2 : Nat → Int32} {m : Nat} (h : ∀ j, j < m → cd j = cd2 j) : ySt cd m = ySt cd2 m := by
  unfold ySt
  by_cases h0 : 0 < m
  · rw [h 0 h0]
    by_cases h1 : 1 < m
    · rw [h 1 h1]
    · simp only [h1, false_and, if_false]
  · simp only [h0, false_and, if_false]
theorem yEnd_congr {cd cd2 : Nat → Int32} {m : Nat} (h : ∀ j, j < m → cd j = cd2 j) : yEnd cd m = yEnd cd2 m := by
  unfold yEnd
  rw [ySt_congr h]
  exact rst_congr h _
theorem ySt_n {cd : Nat → Int32} {m : Nat} : 2 ≤ (ySt cd m).2 ∧ (ySt cd m).2 ≤ 5 ∧ ((ySt cd m).1.1 = false → (ySt cd m).1.2 = 2) ∧ ((ySt cd m).1.2 ≤ m) := by
  unfold ySt
  split
  · next h0 =>
    split
    · next h1 =>
      obtain ⟨h1, h2, h3⟩ := h1
      rcases pk_ix (cd 1) (n := 54) (by omega) with e | e | ⟨j, e1, e2⟩
      · have a1 := Int32.lt_iff_toInt_lt.mp e
        have a2 := Int32.le_iff_toInt_le.mp h2
        rw [nI_toInt (by omega)] at a2
        rw [toInt0] at a1
        omega
      · have a1 := Int32.le_iff_toInt_le.mp e
        have a2 := Int32.le_iff_toInt_le.mp h3
        rw [nI_toInt (by omega)] at a1 a2
        omega
      · rw [e2] at h2 h3 ⊢
        have a1 := (nI_leI (by omega) (by omega)).mp h2
        rw [nI_clamp (by omega)]
        dsimp only
        exact ⟨by omega, by omega, fun _ => rfl, by omega⟩
    · refine ⟨Nat.le_refl 2, by decide, fun z => absurd z (by decide), ?_⟩
      show 1 ≤ m
      omega
  · refine ⟨Nat.le_refl 2, by decide, fun z => absurd z (by decide), ?_⟩
    exact Nat.zero_le _
theorem nI_surj (x : Int32) : nI x.toBitVec.toNat = x := by
  apply Int32.toBitVec_inj.mp
  show BitVec.ofNat 32 x.toBitVec.toNat = x.toBitVec
  apply BitVec.eq_of_toNat_eq
  simp
theorem ck_pair {n j : Nat} (h : j < pA n n) : ckT n j = isDg 3 := funext (fun c => if_pos h)
theorem ck_0 {n p : Nat} (c : Int32) : ckT n (pA n n + 4 * p) c = decide (c = nI 59) := by
  unfold ckT
  rw [if_neg (by omega), if_pos (by omega)]
theorem ck_1 {n p : Nat} (c : Int32) : ckT n (pA n n + 4 * p + 1) c = isLt c := by
  unfold ckT
  rw [if_neg (by omega), if_neg (by omega), if_pos (by omega)]
theorem ck_2 {n p : Nat} (c : Int32) : ckT n (pA n n + 4 * p + 2) c = isDg 3 c := by
  unfold ckT
  rw [if_neg (by omega), if_neg (by omega), if_neg (by omega), if_pos (by omega)]
theorem ck_3 {n p : Nat} (c : Int32) : ckT n (pA n n + 4 * p + 3) c = isDg 9 c := by
  unfold ckT
  rw [if_neg (by omega), if_neg (by omega), if_neg (by omega), if_neg (by omega)]
theorem eq_iff_le (c k : Int32) : c = k ↔ k ≤ c ∧ c ≤ k := ⟨fun h => by rw [h]; exact ⟨Int32.le_refl _, Int32.le_refl _⟩, fun h => Int32.le_antisymm h.2 h.1⟩
theorem pA_le {n : Nat} (hn : n ≤ 5) : pA n n ≤ 10 := by
  have : n = 0 ∨ n = 1 ∨ n = 2 ∨ n = 3 ∨ n = 4 ∨ n = 5 := by omega
  rcases this with e | e | e | e | e | e <;> subst e <;> decide
/-- a letter, along the checks -/
theorem rd_letter {l : Launch} {N : Nat} {h : AH} {r m : Nat} {cd : Nat → Int32} {ck : Nat → Int32 → Bool} {s0 : Bool × Nat} {j : Nat} {P : Option Value → AH → Prop} (T : Tr N h r m (rst ck cd m s0 j).1 (rst ck cd m s0 j).2 cd) (hm : m ≤ 60) (h0 : s0.2 ≤ m) (hck : ∀ c, ck j c = isLt c)
    (hp : ∀ h' v, v ≤ 2 → Fr r (r + 1) h h' → Tr N h' r m (rst ck cd m s0 (j + 1)).1 (rst ck cd m s0 (j + 1)).2 cd → ((rst ck cd m s0 (j + 1)).1 = false → v = ktL (cd (s0.2 + j))) → P (some (.int (nI v))) h') : Sem l QX5_kindOfLetter N h [.ref r] P := by
  refine c_Reader_letter T hm (rst_le h0 j) (fun h' F => ⟨fun hg T' => ?_, fun hb T' v hv => ?_⟩)
  · have c : (rst ck cd m s0 j).1 = false ∧ (rst ck cd m s0 j).2 < m ∧ ck j (cd (rst ck cd m s0 j).2) = true := ⟨hg.1, hg.2.1, by rw [hck]; exact hg.2.2⟩
    have e := rst_false hg.1 j (Nat.le_refl j)
    refine hp h' _ ?_ F (by rw [rst_ok c]; exact T') (fun _ => by rw [e])
    unfold ktL
    split
    · omega
    · split <;> omega
  · have c : ¬ ((rst ck cd m s0 j).1 = false ∧ (rst ck cd m s0 j).2 < m ∧ ck j (cd (rst ck cd m s0 j).2) = true) := fun z => hb ⟨z.1, z.2.1, by rw [← hck]; exact z.2.2⟩
    refine hp h' v hv F (by rw [rst_no c]; exact T') (fun z => ?_)
    rw [rst_no c] at z
    cases z
set_option maxHeartbeats 4000000 in
/-- behind the first two codes -/
theorem c_Reader_rest {l : Launch} {N : Nat} {h : AH} {g k r m n s : Nat} {cd : Nat → Int32} {i0 : Int32} {B : Nat → Nat → Int32} {pit kind deg brs f t : Nat → Int32} {fa to : Int32} {s0 : Bool × Nat} {o6 : Option Value} {P : Option Value → AH → Prop} {Z : AH → Nat → List (Option Value) → List Value → Prop} (hZ : ∀ h pc ls st, Fs l rX5_isText N (some .boolean) P Z h pc ls st → Z h pc ls st)
    (T : Tr N h r m s0.1 s0.2 cd) (G : Gd N h g (nI n) B pit kind deg brs) (K : Hp N h k f t fa to) (hn : n ≤ 5) (hm : m ≤ 60) (h0 : s0.2 ≤ m) (h00 : s0.1 = false → s0.2 = 2) (hd : r + 2 ≤ g ∨ g + 11 ≤ r) (hd2 : r + 2 ≤ k ∨ k + 3 ≤ r) (hd3 : k + 3 ≤ g ∨ g + 11 ≤ k) (hdi : ∀ i, i < 5 → B i i = 0)
    (hp : ∀ h' B' pit' kind' deg' brs' f' t', Tr N h' r m (rst (ckT n) cd m s0 (pA n n + 4 * n)).1 (rst (ckT n) cd m s0 (pA n n + 4 * n)).2 cd → Gd N h' g (nI n) B' pit' kind' deg' brs' → Hp N h' k f' t' 0 0 → (∀ i, i < 5 → B' i i = 0) → (∀ i, i < 5 → t' i = 0) → ((rst (ckT n) cd m s0 (pA n n + 4 * n)).1 = false → Gv n (ya cd n) (yw cd n) (yk cd n) B' pit' kind' deg' brs' ∧ ∀ p, p < n → f' p = nI (yh cd n p)) → FrP (fun j => (r ≤ j ∧ j < r + 2) ∨ (g ≤ j ∧ j < g + 11) ∨ (k ≤ j ∧ j < k + 3)) h h' → P (some (.int (b2i (!(rst (ckT n) cd m s0 (pA n n + 4 * n)).1 && decide ((rst (ckT n) cd m s0 (pA n n + 4 * n)).2 = m))))) h') :
    Z h 51 [some (.ref r), some (.ref s), some (.int i0), some (.int (nI m)), some (.ref g), some (.ref k), o6] [] := by
  have hpA := pA_le hn
  iterate 2 (first | refine hZ _ _ _ _ ⟨rfl, ?_⟩ | refine hZ _ _ _ _ ⟨_, _, (by repeat (first | exact up_s | assumption | refine up_n (by omega) ?_)), adl (by omega), (by rfl), ?_⟩ | refine hZ _ _ _ _ ⟨_, _, (by repeat (first | exact up_s | assumption | refine up_n (by omega) ?_)), adl (by omega), (by first | assumption | exact vp_in_nI (by omega) (by omega)), ?_⟩ | refine hZ _ _ _ _ ⟨_, (by repeat (first | exact up_s | assumption | refine up_n (by omega) ?_)), adl (by omega), (by rfl), trivial, ?_⟩ | refine hZ _ _ _ _ ⟨trivial, ?_⟩ | refine hZ _ _ _ _ ?_)
  show Z _ 54 _ _
  have T0 := T
  obtain ⟨rN, t0, t1⟩ := T
  refine hZ _ _ _ _ ⟨⟨_, (by repeat (first | exact up_s | assumption | refine up_n (by omega) ?_))⟩, adl (by omega), rfl, ?_⟩
  refine c_Reader_paths (ck := ckT n) (s0 := s0) T0 G hn hm h0 hd (fun j hj => ck_pair hj) (fun h1 B1 T1 G1 hdi1 hv1 F1 => ?_)
  show Z _ 57 _ _
  have loop : ∀ e p h2 pit2 kind2 f2, p + e = n → Tr N h2 r m (rst (ckT n) cd m s0 (pA n n + 4 * p)).1 (rst (ckT n) cd m s0 (pA n n + 4 * p)).2 cd → Gd N h2 g (nI n) B1 pit2 kind2 deg brs → Hp N h2 k f2 t fa to → (∀ q, q < p → ∃ v, v ≤ 2 ∧ kind2 q = nI v) → ((rst (ckT n) cd m s0 (pA n n + 4 * p)).1 = false → ∀ q, q < p → kind2 q = nI (yk cd n q) ∧ pit2 q = nI (yw cd n q) ∧ f2 q = nI (yh cd n q)) → FrP (fun j => (r ≤ j ∧ j < r + 2) ∨ (g ≤ j ∧ j < g + 11) ∨ (k ≤ j ∧ j < k + 3)) h h2 → Z h2 60 [some (.ref r), some (.ref s), some (.int i0), some (.int (nI m)), some (.ref g), some (.ref k), some (.int (nI p))] [] := by
    intro e
    induction e with
    | zero =>
      intro p h2 pit2 kind2 f2 hpe T2 G2 K2 hkd hv F2
      have epn : p = n := by omega
      subst epn
      have G20 := G2
      obtain ⟨gN, r0, r1, r2, r3, r4, r5, r6⟩ := G2
      repeat (first | refine hZ _ _ _ _ ⟨rfl, ?_⟩ | refine hZ _ _ _ _ ⟨_, _, (by repeat (first | exact up_s | assumption | refine up_n (by omega) ?_)), adl (by omega), (by rfl), ?_⟩ | refine hZ _ _ _ _ ⟨_, _, (by repeat (first | exact up_s | assumption | refine up_n (by omega) ?_)), adl (by omega), (by first | assumption | exact vp_in_nI (by omega) (by omega)), ?_⟩ | refine hZ _ _ _ _ ⟨_, (by repeat (first | exact up_s | assumption | refine up_n (by omega) ?_)), adl (by omega), (by rfl), trivial, ?_⟩ | refine hZ _ _ _ _ ⟨trivial, ?_⟩ | refine hZ _ _ _ _ ?_)
      refine ⟨fun c => ?_, fun c => absurd (nI_le (by omega) (by omega)) c⟩
      iterate 1 (first | refine hZ _ _ _ _ ⟨rfl, ?_⟩ | refine hZ _ _ _ _ ⟨_, _, (by repeat (first | exact up_s | assumption | refine up_n (by omega) ?_)), adl (by omega), (by rfl), ?_⟩ | refine hZ _ _ _ _ ⟨_, _, (by repeat (first | exact up_s | assumption | refine up_n (by omega) ?_)), adl (by omega), (by first | assumption | exact vp_in_nI (by omega) (by omega)), ?_⟩ | refine hZ _ _ _ _ ⟨_, (by repeat (first | exact up_s | assumption | refine up_n (by omega) ?_)), adl (by omega), (by rfl), trivial, ?_⟩ | refine hZ _ _ _ _ ⟨trivial, ?_⟩ | refine hZ _ _ _ _ ?_)
      show Z _ 137 _ _
      refine hZ _ _ _ _ ⟨⟨_, (by repeat (first | exact up_s | assumption | refine up_n (by omega) ?_))⟩, adl (by omega), rfl, ?_⟩
      have fin : ∀ h3 kind3 deg3 brs3, Gd N h3 g (nI p) B1 pit2 kind3 deg3 brs3 → ((rst (ckT p) cd m s0 (pA p p + 4 * p)).1 = false → Gv p (ya cd p) (yw cd p) (yk cd p) B1 pit2 kind3 deg3 brs3) → Fr g (g + 11) h2 h3 → Z h3 140 [some (.ref r), some (.ref s), some (.int i0), some (.int (nI m)), some (.ref g), some (.ref k), some (.int (nI p))] [] := by
        intro h3 kind3 deg3 brs3 G3 V3 F3
        have K3 := K2.fr F3 (by omega)
        have T3 := T2.fr F3 (by omega)
        have K30 := K3
        obtain ⟨kN, k0, k1, k2⟩ := K3
        iterate 1 (first | refine hZ _ _ _ _ ⟨rfl, ?_⟩ | refine hZ _ _ _ _ ⟨_, _, (by repeat (first | exact up_s | assumption | refine up_n (by omega) ?_)), adl (by omega), (by rfl), ?_⟩ | refine hZ _ _ _ _ ⟨_, _, (by repeat (first | exact up_s | assumption | refine up_n (by omega) ?_)), adl (by omega), (by first | assumption | exact vp_in_nI (by omega) (by omega)), ?_⟩ | refine hZ _ _ _ _ ⟨_, (by repeat (first | exact up_s | assumption | refine up_n (by omega) ?_)), adl (by omega), (by rfl), trivial, ?_⟩ | refine hZ _ _ _ _ ⟨trivial, ?_⟩ | refine hZ _ _ _ _ ?_)
        show Z _ 142 _ _
        refine hZ _ _ _ _ ⟨⟨_, (by repeat (first | exact up_s | assumption | refine up_n (by omega) ?_))⟩, adl (by omega), rfl, ?_⟩
        refine c_Heaps_forget K30 (fun h4 t4 K4 ht4 F4 => ?_)
        show Z _ 145 _ _
        have T4 := T3.fr F4 (by omega)
        have T40 := T4
        obtain ⟨-, u0, u1⟩ := T4
        have FF : FrP (fun j => (r ≤ j ∧ j < r + 2) ∨ (g ≤ j ∧ j < g + 11) ∨ (k ≤ j ∧ j < k + 3)) h h4 := (F2.tr (F3.p (fun j h1 h2 => Or.inr (Or.inl ⟨h1, h2⟩)))).tr (F4.p (fun j h1 h2 => Or.inr (Or.inr ⟨h1, h2⟩)))
        have res := hp h4 B1 pit2 kind3 deg3 brs3 f2 t4 T40 (G3.fr F4 (by omega)) K4 (fun i hi => by rw [hdi1, hdi i hi]) ht4 (fun z => ⟨V3 z, fun q hq => (hv z q hq).2.2⟩) FF
        have hle := rst_le (ck := ckT p) (cd := cd) h0 (pA p p + 4 * p)
        cases hw : (rst (ckT p) cd m s0 (pA p p + 4 * p)).1 with
        | true =>
          rw [hw] at u0 res
          repeat (first | refine hZ _ _ _ _ ⟨rfl, ?_⟩ | refine hZ _ _ _ _ ⟨_, _, (by repeat (first | exact up_s | assumption | refine up_n (by omega) ?_)), adl (by omega), (by rfl), ?_⟩ | refine hZ _ _ _ _ ⟨_, _, (by repeat (first | exact up_s | assumption | refine up_n (by omega) ?_)), adl (by omega), (by first | assumption | exact vp_in_nI (by omega) (by omega)), ?_⟩ | refine hZ _ _ _ _ ⟨_, (by repeat (first | exact up_s | assumption | refine up_n (by omega) ?_)), adl (by omega), (by rfl), trivial, ?_⟩ | refine hZ _ _ _ _ ⟨trivial, ?_⟩ | refine hZ _ _ _ _ ?_)
          refine ⟨fun c => ?_, fun c => absurd c (by decide)⟩
          repeat (first | refine hZ _ _ _ _ ⟨rfl, ?_⟩ | refine hZ _ _ _ _ ⟨_, _, (by repeat (first | exact up_s | assumption | refine up_n (by omega) ?_)), adl (by omega), (by rfl), ?_⟩ | refine hZ _ _ _ _ ⟨_, _, (by repeat (first | exact up_s | assumption | refine up_n (by omega) ?_)), adl (by omega), (by first | assumption | exact vp_in_nI (by omega) (by omega)), ?_⟩ | refine hZ _ _ _ _ ⟨_, (by repeat (first | exact up_s | assumption | refine up_n (by omega) ?_)), adl (by omega), (by rfl), trivial, ?_⟩ | refine hZ _ _ _ _ ⟨trivial, ?_⟩ | refine hZ _ _ _ _ ?_)
          exact res
        | false =>
          rw [hw] at u0 res
          repeat (first | refine hZ _ _ _ _ ⟨rfl, ?_⟩ | refine hZ _ _ _ _ ⟨_, _, (by repeat (first | exact up_s | assumption | refine up_n (by omega) ?_)), adl (by omega), (by rfl), ?_⟩ | refine hZ _ _ _ _ ⟨_, _, (by repeat (first | exact up_s | assumption | refine up_n (by omega) ?_)), adl (by omega), (by first | assumption | exact vp_in_nI (by omega) (by omega)), ?_⟩ | refine hZ _ _ _ _ ⟨_, (by repeat (first | exact up_s | assumption | refine up_n (by omega) ?_)), adl (by omega), (by rfl), trivial, ?_⟩ | refine hZ _ _ _ _ ⟨trivial, ?_⟩ | refine hZ _ _ _ _ ?_)
          refine ⟨fun c => absurd rfl c, fun c => ?_⟩
          repeat (first | refine hZ _ _ _ _ ⟨rfl, ?_⟩ | refine hZ _ _ _ _ ⟨_, _, (by repeat (first | exact up_s | assumption | refine up_n (by omega) ?_)), adl (by omega), (by rfl), ?_⟩ | refine hZ _ _ _ _ ⟨_, _, (by repeat (first | exact up_s | assumption | refine up_n (by omega) ?_)), adl (by omega), (by first | assumption | exact vp_in_nI (by omega) (by omega)), ?_⟩ | refine hZ _ _ _ _ ⟨_, (by repeat (first | exact up_s | assumption | refine up_n (by omega) ?_)), adl (by omega), (by rfl), trivial, ?_⟩ | refine hZ _ _ _ _ ⟨trivial, ?_⟩ | refine hZ _ _ _ _ ?_)
          by_cases hat : (rst (ckT p) cd m s0 (pA p p + 4 * p)).2 = m
          · rw [hat] at res ⊢
            rw [decide_eq_true rfl] at res
            refine ⟨fun c => absurd rfl c, fun c => ?_⟩
            repeat (first | refine hZ _ _ _ _ ⟨rfl, ?_⟩ | refine hZ _ _ _ _ ⟨_, _, (by repeat (first | exact up_s | assumption | refine up_n (by omega) ?_)), adl (by omega), (by rfl), ?_⟩ | refine hZ _ _ _ _ ⟨_, _, (by repeat (first | exact up_s | assumption | refine up_n (by omega) ?_)), adl (by omega), (by first | assumption | exact vp_in_nI (by omega) (by omega)), ?_⟩ | refine hZ _ _ _ _ ⟨_, (by repeat (first | exact up_s | assumption | refine up_n (by omega) ?_)), adl (by omega), (by rfl), trivial, ?_⟩ | refine hZ _ _ _ _ ⟨trivial, ?_⟩ | refine hZ _ _ _ _ ?_)
            exact res
          · rw [decide_eq_false hat] at res
            refine ⟨fun c => ?_, fun c => absurd ((nI_eq (by omega) (by omega)).mp c) hat⟩
            repeat (first | refine hZ _ _ _ _ ⟨rfl, ?_⟩ | refine hZ _ _ _ _ ⟨_, _, (by repeat (first | exact up_s | assumption | refine up_n (by omega) ?_)), adl (by omega), (by rfl), ?_⟩ | refine hZ _ _ _ _ ⟨_, _, (by repeat (first | exact up_s | assumption | refine up_n (by omega) ?_)), adl (by omega), (by first | assumption | exact vp_in_nI (by omega) (by omega)), ?_⟩ | refine hZ _ _ _ _ ⟨_, (by repeat (first | exact up_s | assumption | refine up_n (by omega) ?_)), adl (by omega), (by rfl), trivial, ?_⟩ | refine hZ _ _ _ _ ⟨trivial, ?_⟩ | refine hZ _ _ _ _ ?_)
            exact res
      cases hw : (rst (ckT p) cd m s0 (pA p p + 4 * p)).1 with
      | true =>
        refine c_Ground_count (a := fun p q => (B1 p q).toBitVec.toNat) (w := fun p => (pit2 p).toBitVec.toNat) (κ := fun p => (kind2 p).toBitVec.toNat) G20 hn (fun p q _ _ => (nI_surj _).symm) (fun p _ => (nI_surj _).symm) (fun p _ => (nI_surj _).symm) (fun q hq => ?_) (fun h3 kind3 deg3 brs3 G3 V3 F3 => fin h3 kind3 deg3 brs3 G3 (fun z => absurd (hw.symm.trans z) (by decide)) F3)
        obtain ⟨v, h1, h2⟩ := hkd q hq
        rw [h2, pk_tn (by omega)]
        exact h1
      | false =>
        have hst := rst_false hw (pA p p) (by omega)
        have hv1 := hv1 (by rw [hst])
        have e2 : s0.2 = 2 := h00 (by have := rst_false hw 0 (Nat.zero_le _); exact congrArg Prod.fst this)
        have hok := hv hw
        refine c_Ground_count (a := ya cd p) (w := yw cd p) (κ := yk cd p) G20 hn (fun a b ha hb => ?_) (fun q hq => (hok q hq).2.1) (fun q hq => (hok q hq).1) (fun q hq => ?_) (fun h3 kind3 deg3 brs3 G3 V3 F3 => fin h3 kind3 deg3 brs3 G3 (fun _ => V3) F3)
        · rcases Nat.lt_trichotomy a b with c1 | c1 | c1
          · have hps := rst_pass hw (show pA p a + (b - a - 1) < pA p p + 4 * p by have := pA_in c1 hb; omega)
            rw [ck_pair (pA_in c1 hb)] at hps
            rw [(hv1 a b c1 hb).1, (dg_val (by decide) hps.2).2]
            unfold ya
            rw [if_pos c1, e2, yp, Nat.add_assoc]
          · subst c1
            rw [hdi1, hdi a (by omega)]
            unfold ya
            rw [if_neg (Nat.lt_irrefl a), if_neg (Nat.lt_irrefl a)]
            rfl
          · have hps := rst_pass hw (show pA p b + (a - b - 1) < pA p p + 4 * p by have := pA_in c1 ha; omega)
            rw [ck_pair (pA_in c1 ha)] at hps
            rw [(hv1 b a c1 ha).2, (dg_val (by decide) hps.2).2]
            unfold ya
            rw [if_neg (by omega), if_pos c1, e2, yp, Nat.add_assoc]
        · obtain ⟨v, h1, h2⟩ := hkd q hq
          rw [(hok q hq).1] at h2
          unfold yk ktL at h2 ⊢
          split
          · omega
          · split <;> omega
    | succ e ih =>
      intro p h2 pit2 kind2 f2 hpe T2 G2 K2 hkd hv F2
      have hpn : p < n := by omega
      have G20 := G2
      obtain ⟨gN, r0, r1, r2, r3, r4, r5, r6⟩ := G2
      have T20 := T2
      obtain ⟨-, v0, v1⟩ := T2
      repeat (first | refine hZ _ _ _ _ ⟨rfl, ?_⟩ | refine hZ _ _ _ _ ⟨_, _, (by repeat (first | exact up_s | assumption | refine up_n (by omega) ?_)), adl (by omega), (by rfl), ?_⟩ | refine hZ _ _ _ _ ⟨_, _, (by repeat (first | exact up_s | assumption | refine up_n (by omega) ?_)), adl (by omega), (by first | assumption | exact vp_in_nI (by omega) (by omega)), ?_⟩ | refine hZ _ _ _ _ ⟨_, (by repeat (first | exact up_s | assumption | refine up_n (by omega) ?_)), adl (by omega), (by rfl), trivial, ?_⟩ | refine hZ _ _ _ _ ⟨trivial, ?_⟩ | refine hZ _ _ _ _ ?_)
      refine ⟨fun c => absurd c (nI_ge (by omega) (by omega)), fun c => ?_⟩
      iterate 3 (first | refine hZ _ _ _ _ ⟨rfl, ?_⟩ | refine hZ _ _ _ _ ⟨_, _, (by repeat (first | exact up_s | assumption | refine up_n (by omega) ?_)), adl (by omega), (by rfl), ?_⟩ | refine hZ _ _ _ _ ⟨_, _, (by repeat (first | exact up_s | assumption | refine up_n (by omega) ?_)), adl (by omega), (by first | assumption | exact vp_in_nI (by omega) (by omega)), ?_⟩ | refine hZ _ _ _ _ ⟨_, (by repeat (first | exact up_s | assumption | refine up_n (by omega) ?_)), adl (by omega), (by rfl), trivial, ?_⟩ | refine hZ _ _ _ _ ⟨trivial, ?_⟩ | refine hZ _ _ _ _ ?_)
      show Z _ 75 _ _
      rw [lb59]
      refine hZ _ _ _ _ ⟨⟨_, (by repeat (first | exact up_s | assumption | refine up_n (by omega) ?_))⟩, adl (by omega), rfl, ?_⟩
      refine rd_step (ck := ckT n) (s0 := s0) (s := s0) (j := pA n n + 4 * p) T20 hm h0 (fun c => by rw [ck_0, decide_eq_true_eq]; exact eq_iff_le c _) (fun h3 v3 F3 T3 hv3 => ?_)
      show Z _ 78 _ _
      have G3 := G20.fr F3 (by omega)
      have G30 := G3
      obtain ⟨-, a0, a1, a2, a3, a4, a5, a6⟩ := G3
      have T30 := T3
      obtain ⟨-, w0, w1⟩ := T3
      iterate 5 (first | refine hZ _ _ _ _ ⟨rfl, ?_⟩ | refine hZ _ _ _ _ ⟨_, _, (by repeat (first | exact up_s | assumption | refine up_n (by omega) ?_)), adl (by omega), (by rfl), ?_⟩ | refine hZ _ _ _ _ ⟨_, _, (by repeat (first | exact up_s | assumption | refine up_n (by omega) ?_)), adl (by omega), (by first | assumption | exact vp_in_nI (by omega) (by omega)), ?_⟩ | refine hZ _ _ _ _ ⟨_, (by repeat (first | exact up_s | assumption | refine up_n (by omega) ?_)), adl (by omega), (by rfl), trivial, ?_⟩ | refine hZ _ _ _ _ ⟨trivial, ?_⟩ | refine hZ _ _ _ _ ?_)
      show Z _ 87 _ _
      refine hZ _ _ _ _ ⟨⟨_, (by repeat (first | exact up_s | assumption | refine up_n (by omega) ?_))⟩, adl (by omega), rfl, ?_⟩
      refine rd_letter (ck := ckT n) (s0 := s0) (j := pA n n + 4 * p + 1) T30 hm h0 (fun c => ck_1 c) (fun h4 v4 hv4le F4 T4 hv4 => ?_)
      show Z _ 90 _ _
      have G4 := G30.fr F4 (by omega)
      obtain ⟨-, b0, b1, b2', b3, b4, b5, b6⟩ := G4
      have T40 := T4
      obtain ⟨-, x0, x1⟩ := T4
      iterate 7 (first | refine hZ _ _ _ _ ⟨rfl, ?_⟩ | refine hZ _ _ _ _ ⟨_, _, (by repeat (first | exact up_s | assumption | refine up_n (by omega) ?_)), adl (by omega), (by rfl), ?_⟩ | refine hZ _ _ _ _ ⟨_, _, (by repeat (first | exact up_s | assumption | refine up_n (by omega) ?_)), adl (by omega), (by first | assumption | exact vp_in_nI (by omega) (by omega)), ?_⟩ | refine hZ _ _ _ _ ⟨_, (by repeat (first | exact up_s | assumption | refine up_n (by omega) ?_)), adl (by omega), (by rfl), trivial, ?_⟩ | refine hZ _ _ _ _ ⟨trivial, ?_⟩ | refine hZ _ _ _ _ ?_)
      show Z _ 103 _ _
      rw [nI_clamp (by omega), lb48, lb51]
      refine hZ _ _ _ _ ⟨⟨_, (by repeat (first | exact up_s | assumption | refine up_n (by omega) ?_))⟩, adl (by omega), rfl, ?_⟩
      have T5 : Tr N (va_up h4 (g + 8) (.inl (0, 5, .inl (upd kind2 p (nI v4))))) r m (rst (ckT n) cd m s0 (pA n n + 4 * p + 2)).1 (rst (ckT n) cd m s0 (pA n n + 4 * p + 2)).2 cd := T40.fr (lo := g) (hi := g + 11) (Fr.rf.up (by omega) (by omega)) (by omega)
      refine rd_step (ck := ckT n) (s0 := s0) (s := s0) (j := pA n n + 4 * p + 2) T5 hm h0 (fun c => by rw [ck_2]; exact isDg_iff 3 c) (fun h6 v6 F6 T6 hv6 => ?_)
      show Z _ 106 _ _
      have K6 : Hp N h6 k f2 t fa to := ((((K2.fr F3 (by omega)).fr F4 (by omega)).fr (lo := g) (hi := g + 11) (h' := va_up h4 (g + 8) (.inl (0, 5, .inl (upd kind2 p (nI v4))))) (Fr.rf.up (by omega) (by omega)) (by omega)).fr F6 (by omega))
      have K60 := K6
      obtain ⟨kN, k0, k1, k2⟩ := K6
      have c0 : h6 g = _ := (F6 g (by omega)).trans (up_n (by omega) b0)
      have c1 : h6 (g + 1) = _ := (F6 (g + 1) (by omega)).trans (up_n (by omega) b1)
      have c2 : ∀ i, i < 5 → h6 (g + 2 + i) = _ := fun i hi => (F6 (g + 2 + i) (by omega)).trans (up_n (by omega) (b2' i hi))
      have c3 : h6 (g + 7) = _ := (F6 (g + 7) (by omega)).trans (up_n (by omega) b3)
      have c4 : h6 (g + 8) = _ := (F6 (g + 8) (by omega)).trans up_s
      have c5 : h6 (g + 9) = _ := (F6 (g + 9) (by omega)).trans (up_n (by omega) b5)
      have c6 : h6 (g + 10) = _ := (F6 (g + 10) (by omega)).trans (up_n (by omega) b6)
      have T60 := T6
      obtain ⟨-, y0, y1⟩ := T6
      iterate 9 (first | refine hZ _ _ _ _ ⟨rfl, ?_⟩ | refine hZ _ _ _ _ ⟨_, _, (by repeat (first | exact up_s | assumption | refine up_n (by omega) ?_)), adl (by omega), (by rfl), ?_⟩ | refine hZ _ _ _ _ ⟨_, _, (by repeat (first | exact up_s | assumption | refine up_n (by omega) ?_)), adl (by omega), (by first | assumption | exact vp_in_nI (by omega) (by omega)), ?_⟩ | refine hZ _ _ _ _ ⟨_, (by repeat (first | exact up_s | assumption | refine up_n (by omega) ?_)), adl (by omega), (by rfl), trivial, ?_⟩ | refine hZ _ _ _ _ ⟨trivial, ?_⟩ | refine hZ _ _ _ _ ?_)
      show Z _ 122 _ _
      rw [nI_clamp (by omega), lb48, lb57]
      refine hZ _ _ _ _ ⟨⟨_, (by repeat (first | exact up_s | assumption | refine up_n (by omega) ?_))⟩, adl (by omega), rfl, ?_⟩
      have T7 : Tr N (va_up h6 (g + 7) (.inl (0, 5, .inl (upd pit2 p (v6 - nI 48))))) r m (rst (ckT n) cd m s0 (pA n n + 4 * p + 3)).1 (rst (ckT n) cd m s0 (pA n n + 4 * p + 3)).2 cd := T60.fr (lo := g) (hi := g + 11) (Fr.rf.up (by omega) (by omega)) (by omega)
      refine rd_step (ck := ckT n) (s0 := s0) (s := s0) (j := pA n n + 4 * p + 3) T7 hm h0 (fun c => by rw [ck_3]; exact isDg_iff 9 c) (fun h8 v8 F8 T8 hv8 => ?_)
      show Z _ 125 _ _
      have K8 : Hp N h8 k f2 t fa to := (K60.fr (lo := g) (hi := g + 11) (h' := va_up h6 (g + 7) (.inl (0, 5, .inl (upd pit2 p (v6 - nI 48))))) (Fr.rf.up (by omega) (by omega)) (by omega)).fr F8 (by omega)
      obtain ⟨-, z0, z1, z2⟩ := K8
      have G8 : Gd N h8 g (nI n) B1 (upd pit2 p (v6 - nI 48)) (upd kind2 p (nI v4)) deg brs := ⟨gN, (F8 g (by omega)).trans (up_n (by omega) c0), (F8 (g + 1) (by omega)).trans (up_n (by omega) c1), fun i hi => (F8 (g + 2 + i) (by omega)).trans (up_n (by omega) (c2 i hi)), (F8 (g + 7) (by omega)).trans up_s, (F8 (g + 8) (by omega)).trans (up_n (by omega) c4), (F8 (g + 9) (by omega)).trans (up_n (by omega) c5), (F8 (g + 10) (by omega)).trans (up_n (by omega) c6)⟩
      iterate 5 (first | refine hZ _ _ _ _ ⟨rfl, ?_⟩ | refine hZ _ _ _ _ ⟨_, _, (by repeat (first | exact up_s | assumption | refine up_n (by omega) ?_)), adl (by omega), (by rfl), ?_⟩ | refine hZ _ _ _ _ ⟨_, _, (by repeat (first | exact up_s | assumption | refine up_n (by omega) ?_)), adl (by omega), (by first | assumption | exact vp_in_nI (by omega) (by omega)), ?_⟩ | refine hZ _ _ _ _ ⟨_, (by repeat (first | exact up_s | assumption | refine up_n (by omega) ?_)), adl (by omega), (by rfl), trivial, ?_⟩ | refine hZ _ _ _ _ ⟨trivial, ?_⟩ | refine hZ _ _ _ _ ?_)
      show Z _ 60 _ _
      rw [nI_clamp (by omega), lb48, nI_inc]
      have ej : pA n n + 4 * p + 3 + 1 = pA n n + 4 * (p + 1) := by omega
      rw [ej] at T8 hv8
      refine ih (p + 1) _ _ _ (upd f2 p (v8 - nI 48)) (by omega) (T8.fr (lo := k) (hi := k + 3) (Fr.rf.up (by omega) (by omega)) (by omega)) (G8.fr (lo := k) (hi := k + 3) (Fr.rf.up (by omega) (by omega)) (by omega)) ⟨kN, (by repeat (first | exact up_s | assumption | refine up_n (by omega) ?_)), (by repeat (first | exact up_s | assumption | refine up_n (by omega) ?_)), (by repeat (first | exact up_s | assumption | refine up_n (by omega) ?_))⟩ (fun q hq => ?_) (fun z q hq => ?_) ?_
      · by_cases e1 : q = p
        · exact ⟨v4, hv4le, upd_s e1⟩
        · rw [pk_un e1]; exact hkd q (by omega)
      · have p0 := rst_false z (pA n n + 4 * p) (by omega)
        have p2 := rst_false z (pA n n + 4 * p + 2) (by omega)
        have p3 := rst_false z (pA n n + 4 * p + 3) (by omega)
        have e2 : s0.2 = 2 := h00 (by have := rst_false z 0 (Nat.zero_le _); exact congrArg Prod.fst this)
        by_cases e1 : q = p
        · subst e1
          rw [upd_s rfl, upd_s rfl, upd_s rfl]
          have g4 := hv4 (by rw [show pA n n + 4 * q + 1 + 1 = pA n n + 4 * q + 2 from rfl, p2])
          have g6 := hv6 (by rw [show pA n n + 4 * q + 2 + 1 = pA n n + 4 * q + 3 from rfl, p3])
          have g8 := hv8 z
          have s2 := rst_pass z (show pA n n + 4 * q + 2 < pA n n + 4 * (q + 1) by omega)
          have s3 := rst_pass z (show pA n n + 4 * q + 3 < pA n n + 4 * (q + 1) by omega)
          rw [ck_2] at s2
          rw [ck_3] at s3
          rw [g4, g6, g8, (dg_val (by decide) s2.2).2, (dg_val (by decide) s3.2).2, e2]
          exact ⟨rfl, rfl, rfl⟩
        · rw [pk_un e1, pk_un e1, pk_un e1]
          exact hv (by rw [p0]) q (by omega)
      · refine FrP.up ?_ (by omega)
        refine FrP.tr ?_ (F8.p (fun j h1 h2 => by omega))
        refine FrP.up ?_ (by omega)
        refine FrP.tr ?_ (F6.p (fun j h1 h2 => by omega))
        refine FrP.up ?_ (by omega)
        exact (F2.tr (F3.p (fun j h1 h2 => by omega))).tr (F4.p (fun j h1 h2 => by omega))
  iterate 2 (first | refine hZ _ _ _ _ ⟨rfl, ?_⟩ | refine hZ _ _ _ _ ⟨_, _, (by repeat (first | exact up_s | assumption | refine up_n (by omega) ?_)), adl (by omega), (by rfl), ?_⟩ | refine hZ _ _ _ _ ⟨_, _, (by repeat (first | exact up_s | assumption | refine up_n (by omega) ?_)), adl (by omega), (by first | assumption | exact vp_in_nI (by omega) (by omega)), ?_⟩ | refine hZ _ _ _ _ ⟨_, (by repeat (first | exact up_s | assumption | refine up_n (by omega) ?_)), adl (by omega), (by rfl), trivial, ?_⟩ | refine hZ _ _ _ _ ⟨trivial, ?_⟩ | refine hZ _ _ _ _ ?_)
  show Z _ 60 _ _
  refine loop n 0 h1 pit kind f (by omega) T1 G1 (K.frp F1 (fun j h1 h2 => by omega)) (fun q hq => absurd hq (Nat.not_lt_zero q)) (fun _ q hq => absurd hq (Nat.not_lt_zero q)) (F1.wide (fun j hj => by omega))
/-- a TextReader of any contents -/
def TrE (N : Nat) (h : AH) (r : Nat) : Prop := ∃ x1 x2 x3 cd, r + 1 < N ∧ h r = .inr (5, [.ref (r + 1), .int x1, .int x2, .int x3]) ∧ h (r + 1) = .inl (0, 60, .inl cd)
theorem Tr.e {N : Nat} {h : AH} {r m : Nat} {wr : Bool} {at' : Nat} {cd : Nat → Int32} (T : Tr N h r m wr at' cd) : TrE N h r := ⟨_, _, _, _, T⟩
theorem TrE.frp {N : Nat} {h h' : AH} {r : Nat} {C : Nat → Prop} (G : TrE N h r) (f : FrP C h h') (hd : ∀ j, r ≤ j → j < r + 2 → ¬ C j) : TrE N h' r := by
  obtain ⟨x1, x2, x3, cd, a0, a1, a2⟩ := G
  exact ⟨x1, x2, x3, cd, a0, (f _ (hd _ (by omega) (by omega))).trans a1, (f _ (hd _ (by omega) (by omega))).trans a2⟩
theorem y_congr {cd cd2 : Nat → Int32} {m n : Nat} (h : ∀ j, j < m → cd j = cd2 j) (ho : (rst (ckT n) cd2 m (false, 2) (pA n n + 4 * n)).1 = false) : (∀ p q, p < n → q < n → ya cd n p q = ya cd2 n p q) ∧ (∀ p, p < n → yw cd n p = yw cd2 n p) ∧ (∀ p, p < n → yk cd n p = yk cd2 n p) ∧ ∀ p, p < n → yh cd n p = yh cd2 n p := by
  have hps : ∀ i, i < pA n n + 4 * n → cd (2 + i) = cd2 (2 + i) := fun i hi => h _ (rst_pass ho hi).1
  refine ⟨fun p q hp hq => ?_, fun p hp => ?_, fun p hp => ?_, fun p hp => ?_⟩
  · unfold ya yp
    split
    · next c =>
      have := pA_in c hq
      rw [Nat.add_assoc, hps _ (by omega)]
    · split
      · next c =>
        have := pA_in c hp
        rw [Nat.add_assoc, hps _ (by omega)]
      · rfl
  · unfold yw; rw [hps _ (by omega)]
  · unfold yk; rw [hps _ (by omega)]
  · unfold yh; rw [hps _ (by omega)]
theorem Gv.congr {n : Nat} {a a' : Nat → Nat → Nat} {w w' κ κ' : Nat → Nat} {B : Nat → Nat → Int32} {pit kind deg brs : Nat → Int32} (V : Gv n a w κ B pit kind deg brs) (h1 : ∀ p q, p < n → q < n → a p q = a' p q) (h2 : ∀ p, p < n → w p = w' p) (h3 : ∀ p, p < n → κ p = κ' p) : Gv n a' w' κ' B pit kind deg brs := by
  obtain ⟨v1, v2, v3, v4, v5⟩ := V
  have hd : ∀ p, p < n → dgr n a w p = dgr n a' w' p := fun p hp => by
    unfold dgr
    rw [h2 p hp, sm_congr (fun i hi => h1 p i hp hi)]
  exact ⟨fun p q hp hq => by rw [v1 p q hp hq, h1 p q hp hq], fun p hp => by rw [v2 p hp, h2 p hp], fun p hp => by rw [v3 p hp, h3 p hp], fun p hp => by rw [v4 p hp, hd p hp], fun p hp => by rw [v5 p hp, hd p hp, h3 p hp]⟩
set_option maxHeartbeats 4000000 in
theorem c_Reader_isText {l : Launch} {N : Nat} {h : AH} {g k r m s i0 : Nat} {c : Nat → Int32} {pl : Int32} {B : Nat → Nat → Int32} {pit kind deg brs f t : Nat → Int32} {fa to : Int32} {P : Option Value → AH → Prop}
    (T : TrE N h r) (G : Gd N h g pl B pit kind deg brs) (K : Hp N h k f t fa to) (hs : h s = .inl (0, 60, .inl c)) (hsN : s < N) (hm : i0 + m ≤ 60) (hd : r + 2 ≤ g ∨ g + 11 ≤ r) (hd2 : r + 2 ≤ k ∨ k + 3 ≤ r) (hd3 : k + 3 ≤ g ∨ g + 11 ≤ k) (hds : s < r ∨ r + 2 ≤ s) (hdi : ∀ i, i < 5 → B i i = 0)
    (hp : ∀ h' n B' pit' kind' deg' brs' f' t' wr, n = (ySt (fun j => c (i0 + j)) m).2 → (∃ cd, Tr N h' r m wr (yEnd (fun j => c (i0 + j)) m).2 cd) → Gd N h' g (nI n) B' pit' kind' deg' brs' → Hp N h' k f' t' 0 0 → (∀ i, i < 5 → B' i i = 0) → (∀ i, i < 5 → t' i = 0) → (yOk (fun j => c (i0 + j)) m → Gv n (ya (fun j => c (i0 + j)) n) (yw (fun j => c (i0 + j)) n) (yk (fun j => c (i0 + j)) n) B' pit' kind' deg' brs' ∧ ∀ p, p < n → f' p = nI (yh (fun j => c (i0 + j)) n p)) → FrP (fun j => (r ≤ j ∧ j < r + 2) ∨ (g ≤ j ∧ j < g + 11) ∨ (k ≤ j ∧ j < k + 3)) h h' → P (some (.int (cb (yOk (fun j => c (i0 + j)) m)))) h') :
    Sem l QX5_isText N h [.ref r, .ref s, .int (nI i0), .int (nI m), .ref g, .ref k] P := by
  obtain ⟨x1, x2, x3, cd0, rN, t0, t1⟩ := T
  refine iX5_isText rfl ?_
  intro Z hZ
  iterate 6 (first | refine hZ _ _ _ _ ⟨rfl, ?_⟩ | refine hZ _ _ _ _ ⟨_, _, (by repeat (first | exact up_s | assumption | refine up_n (by omega) ?_)), adl (by omega), (by rfl), ?_⟩ | refine hZ _ _ _ _ ⟨_, _, (by repeat (first | exact up_s | assumption | refine up_n (by omega) ?_)), adl (by omega), (by first | assumption | exact vp_in_nI (by omega) (by omega)), ?_⟩ | refine hZ _ _ _ _ ⟨_, (by repeat (first | exact up_s | assumption | refine up_n (by omega) ?_)), adl (by omega), (by rfl), trivial, ?_⟩ | refine hZ _ _ _ _ ⟨trivial, ?_⟩ | refine hZ _ _ _ _ ?_)
  show Z _ 8 _ _
  refine hZ _ _ _ _ ⟨60, 60, c, cd0, hs, t1, adl hsN, adl (by omega), rfl, nI_pos (by omega), by decide, nI_pos (by omega), by rw [nI_clamp (by omega), nI_clamp (by omega)]; omega, by rw [show (Int32.ofInt 0).toNatClampNeg = 0 by decide, nI_clamp (by omega)]; omega, ?_⟩
  show Z _ 11 _ _
  rw [nI_clamp (by omega), nI_clamp (by omega), show (Int32.ofInt 0).toNatClampNeg = 0 by decide]
  have hcd : ∀ j, j < m → va_cpy c cd0 i0 0 m j = c (i0 + j) := fun j hj => by
    rw [pk_cpy_in (Nat.zero_le _) (by omega)]; rfl
  generalize va_cpy c cd0 i0 0 m = cd at hcd
  iterate 8 (first | refine hZ _ _ _ _ ⟨rfl, ?_⟩ | refine hZ _ _ _ _ ⟨_, _, (by repeat (first | exact up_s | assumption | refine up_n (by omega) ?_)), adl (by omega), (by rfl), ?_⟩ | refine hZ _ _ _ _ ⟨_, _, (by repeat (first | exact up_s | assumption | refine up_n (by omega) ?_)), adl (by omega), (by first | assumption | exact vp_in_nI (by omega) (by omega)), ?_⟩ | refine hZ _ _ _ _ ⟨_, (by repeat (first | exact up_s | assumption | refine up_n (by omega) ?_)), adl (by omega), (by rfl), trivial, ?_⟩ | refine hZ _ _ _ _ ⟨trivial, ?_⟩ | refine hZ _ _ _ _ ?_)
  show Z _ 23 _ _
  refine hZ _ _ _ _ ⟨_, (by repeat (first | exact up_s | assumption | refine up_n (by omega) ?_)), adl (by omega), rfl, Or.inl rfl, ?_⟩
  show Z _ 26 _ _
  rw [lit_0]
  generalize hh1 : va_up (va_up (va_up (va_up h (r + 1) (.inl (0, 60, .inl cd))) r _) r _) r _ = h1
  have F1 : FrP (fun j => (r ≤ j ∧ j < r + 2) ∨ (g ≤ j ∧ j < g + 11) ∨ (k ≤ j ∧ j < k + 3)) h h1 := by
    rw [← hh1]
    exact (((FrP.rf.up (by omega)).up (by omega)).up (by omega)).up (by omega)
  have F1' : FrP (fun j => (r ≤ j ∧ j < r + 2)) h h1 := by
    rw [← hh1]
    exact (((FrP.rf.up (by omega)).up (by omega)).up (by omega)).up (by omega)
  have T1 : Tr N h1 r m false 0 cd := by
    rw [← hh1]
    exact ⟨rN, (by repeat (first | exact up_s | assumption | refine up_n (by omega) ?_)), (by repeat (first | exact up_s | assumption | refine up_n (by omega) ?_))⟩
  have G1 := G.frp F1' (fun j h1 h2 => by omega)
  have K1 := K.frp F1' (fun j h1 h2 => by omega)
  clear hh1
  -- the end, out of the rest
  have rest : ∀ h2 n s0 v, Tr N h2 r m s0.1 s0.2 cd → Fr r (r + 1) h1 h2 → ySt cd m = (s0, n) → v = nI n → Z h2 48 [some (.ref r), some (.ref s), some (.int (nI i0)), some (.int (nI m)), some (.ref g), some (.ref k), none] [.int v, .ref g] := by
    intro h2 n s0 v T2 F2 hy hv
    subst hv
    have hyn := ySt_n (cd := cd) (m := m)
    rw [hy] at hyn
    have G2 := G1.fr F2 (by omega)
    obtain ⟨gN, r0, r1, r2, r3, r4, r5, r6⟩ := G2
    iterate 1 (first | refine hZ _ _ _ _ ⟨rfl, ?_⟩ | refine hZ _ _ _ _ ⟨_, _, (by repeat (first | exact up_s | assumption | refine up_n (by omega) ?_)), adl (by omega), (by rfl), ?_⟩ | refine hZ _ _ _ _ ⟨_, _, (by repeat (first | exact up_s | assumption | refine up_n (by omega) ?_)), adl (by omega), (by first | assumption | exact vp_in_nI (by omega) (by omega)), ?_⟩ | refine hZ _ _ _ _ ⟨_, (by repeat (first | exact up_s | assumption | refine up_n (by omega) ?_)), adl (by omega), (by rfl), trivial, ?_⟩ | refine hZ _ _ _ _ ⟨trivial, ?_⟩ | refine hZ _ _ _ _ ?_)
    show Z _ 51 _ _
    have G3 : Gd N (va_up h2 g (.inr (1, [.ref (g + 1), .ref (g + 7), .ref (g + 8), .ref (g + 9), .ref (g + 10), .int (nI n)]))) g (nI n) B pit kind deg brs := ⟨gN, (by repeat (first | exact up_s | assumption | refine up_n (by omega) ?_)), (by repeat (first | exact up_s | assumption | refine up_n (by omega) ?_)), fun i hi => up_n (by omega) (r2 i hi), (by repeat (first | exact up_s | assumption | refine up_n (by omega) ?_)), (by repeat (first | exact up_s | assumption | refine up_n (by omega) ?_)), (by repeat (first | exact up_s | assumption | refine up_n (by omega) ?_)), (by repeat (first | exact up_s | assumption | refine up_n (by omega) ?_))⟩
    have hye := yEnd_congr hcd
    refine c_Reader_rest hZ (T2.fr (lo := g) (hi := g + 11) (Fr.rf.up (by omega) (by omega)) (by omega)) G3 ((K1.fr F2 (by omega)).fr (lo := g) (hi := g + 11) (Fr.rf.up (by omega) (by omega)) (by omega)) hyn.2.1 (by omega) hyn.2.2.2 hyn.2.2.1 hd hd2 hd3 hdi (fun h4 B4 pit4 kind4 deg4 brs4 f4 t4 T4 G4 K4 hdi4 ht4 hv4 F4 => ?_)
    have hend : rst (ckT n) cd m s0 (pA n n + 4 * n) = yEnd cd m := by unfold yEnd; rw [hy]
    rw [hend] at T4 hv4 ⊢
    rw [hye] at T4 hv4 ⊢
    have hn : n = (ySt (fun j => c (i0 + j)) m).2 := by rw [← ySt_congr hcd, hy]
    have hFF : FrP (fun j => (r ≤ j ∧ j < r + 2) ∨ (g ≤ j ∧ j < g + 11) ∨ (k ≤ j ∧ j < k + 3)) h h4 := ((F1.tr (F2.p (fun j h1 h2 => by omega))).up (by omega)).tr F4
    have hvv : yOk (fun j => c (i0 + j)) m → Gv n (ya (fun j => c (i0 + j)) n) (yw (fun j => c (i0 + j)) n) (yk (fun j => c (i0 + j)) n) B4 pit4 kind4 deg4 brs4 ∧ ∀ p, p < n → f4 p = nI (yh (fun j => c (i0 + j)) n p) := by
      intro ho
      have ho1 := ho.1
      obtain ⟨V, hf4⟩ := hv4 ho1
      have hs0 : (rst (ckT n) cd m s0 (pA n n + 4 * n)).1 = false := by rw [hend, hye]; exact ho1
      have e0 : s0.1 = false := by have := rst_false hs0 0 (Nat.zero_le _); exact congrArg Prod.fst this
      have e1 : s0 = (false, 2) := Prod.ext e0 (hyn.2.2.1 e0)
      subst e1
      rw [rst_congr hcd] at hs0
      obtain ⟨c1, c2, c3, c4⟩ := y_congr (n := n) hcd hs0
      exact ⟨V.congr c1 c2 c3, fun p hp => by rw [hf4 p hp, c4 p hp]⟩
    have res := hp h4 n B4 pit4 kind4 deg4 brs4 f4 t4 _ hn ⟨cd, T4⟩ G4 K4 hdi4 ht4 hvv hFF
    by_cases ho : yOk (fun j => c (i0 + j)) m
    · rw [cb_t ho] at res
      obtain ⟨o1, o2⟩ := ho
      rw [o1, o2, decide_eq_true rfl]
      exact res
    · rw [cb_f ho] at res
      have : (!(yEnd (fun j => c (i0 + j)) m).1 && decide ((yEnd (fun j => c (i0 + j)) m).2 = m)) = false := by
        cases e1 : (yEnd (fun j => c (i0 + j)) m).1 with
        | true => rfl
        | false => simpa using fun e2 => ho ⟨e1, e2⟩
      rw [this]
      exact res
  have T10 := T1
  obtain ⟨-, u0, u1⟩ := T1
  iterate 3 (first | refine hZ _ _ _ _ ⟨rfl, ?_⟩ | refine hZ _ _ _ _ ⟨_, _, (by repeat (first | exact up_s | assumption | refine up_n (by omega) ?_)), adl (by omega), (by rfl), ?_⟩ | refine hZ _ _ _ _ ⟨_, _, (by repeat (first | exact up_s | assumption | refine up_n (by omega) ?_)), adl (by omega), (by first | assumption | exact vp_in_nI (by omega) (by omega)), ?_⟩ | refine hZ _ _ _ _ ⟨_, (by repeat (first | exact up_s | assumption | refine up_n (by omega) ?_)), adl (by omega), (by rfl), trivial, ?_⟩ | refine hZ _ _ _ _ ⟨trivial, ?_⟩ | refine hZ _ _ _ _ ?_)
  show Z _ 31 _ _
  rw [lb121]
  refine hZ _ _ _ _ ⟨⟨_, (by repeat (first | exact up_s | assumption | refine up_n (by omega) ?_))⟩, adl (by omega), rfl, ?_⟩
  refine c_Reader_code T10 (by omega) (Nat.zero_le _) (fun h2 F2 => ⟨fun hg T2 => ?_, fun hb T2 => ?_⟩)
  · show Z _ 34 _ _
    have e0 : 0 < m ∧ cd 0 = nI 121 := ⟨hg.2.1, (eq_iff_le _ _).mpr hg.2.2⟩
    have T20 := T2
    obtain ⟨-, v0, v1⟩ := T2
    iterate 5 (first | refine hZ _ _ _ _ ⟨rfl, ?_⟩ | refine hZ _ _ _ _ ⟨_, _, (by repeat (first | exact up_s | assumption | refine up_n (by omega) ?_)), adl (by omega), (by rfl), ?_⟩ | refine hZ _ _ _ _ ⟨_, _, (by repeat (first | exact up_s | assumption | refine up_n (by omega) ?_)), adl (by omega), (by first | assumption | exact vp_in_nI (by omega) (by omega)), ?_⟩ | refine hZ _ _ _ _ ⟨_, (by repeat (first | exact up_s | assumption | refine up_n (by omega) ?_)), adl (by omega), (by rfl), trivial, ?_⟩ | refine hZ _ _ _ _ ⟨trivial, ?_⟩ | refine hZ _ _ _ _ ?_)
    show Z _ 42 _ _
    rw [lb50, lb53]
    refine hZ _ _ _ _ ⟨⟨_, (by repeat (first | exact up_s | assumption | refine up_n (by omega) ?_))⟩, adl (by omega), rfl, ?_⟩
    refine c_Reader_code T20 (by omega) (by omega) (fun h3 F3 => ⟨fun hg2 T3 => ?_, fun hb2 T3 => ?_⟩)
    · show Z _ 45 _ _
      iterate 2 (first | refine hZ _ _ _ _ ⟨rfl, ?_⟩ | refine hZ _ _ _ _ ⟨_, _, (by repeat (first | exact up_s | assumption | refine up_n (by omega) ?_)), adl (by omega), (by rfl), ?_⟩ | refine hZ _ _ _ _ ⟨_, _, (by repeat (first | exact up_s | assumption | refine up_n (by omega) ?_)), adl (by omega), (by first | assumption | exact vp_in_nI (by omega) (by omega)), ?_⟩ | refine hZ _ _ _ _ ⟨_, (by repeat (first | exact up_s | assumption | refine up_n (by omega) ?_)), adl (by omega), (by rfl), trivial, ?_⟩ | refine hZ _ _ _ _ ⟨trivial, ?_⟩ | refine hZ _ _ _ _ ?_)
      show Z _ 48 _ _
      have hys : ySt cd m = ((false, 2), (cd 1).toNatClampNeg - 48) := by unfold ySt; rw [if_pos e0, if_pos ⟨hg2.2.1, hg2.2.2⟩]
      have hyn := ySt_n (cd := cd) (m := m)
      rw [hys] at hyn
      refine rest h3 _ _ _ T3 (F2.tr F3) hys ?_
      rw [lb48]
      have hg3 : nI 50 ≤ cd 1 := hg2.2.2.1
      obtain ⟨j, hj, ej⟩ := nI_of (x := cd 1) (fun z => by
        have a1 := Int32.lt_iff_toInt_lt.mp z
        have a2 := Int32.le_iff_toInt_le.mp hg3
        rw [nI_toInt (by omega)] at a2
        rw [toInt0] at a1
        omega)
      rw [show (0 + 1 : Nat) = 1 from rfl, ej, nI_clamp hj, pk_sub]
      rw [ej] at hg3
      have := (nI_leI (by omega) hj).mp hg3
      omega
    · show Z _ 45 _ _
      iterate 2 (first | refine hZ _ _ _ _ ⟨rfl, ?_⟩ | refine hZ _ _ _ _ ⟨_, _, (by repeat (first | exact up_s | assumption | refine up_n (by omega) ?_)), adl (by omega), (by rfl), ?_⟩ | refine hZ _ _ _ _ ⟨_, _, (by repeat (first | exact up_s | assumption | refine up_n (by omega) ?_)), adl (by omega), (by first | assumption | exact vp_in_nI (by omega) (by omega)), ?_⟩ | refine hZ _ _ _ _ ⟨_, (by repeat (first | exact up_s | assumption | refine up_n (by omega) ?_)), adl (by omega), (by rfl), trivial, ?_⟩ | refine hZ _ _ _ _ ⟨trivial, ?_⟩ | refine hZ _ _ _ _ ?_)
      show Z _ 48 _ _
      refine rest h3 2 (true, 1) _ T3 (F2.tr F3) ?_ ?_
      · unfold ySt; rw [if_pos e0, if_neg (fun z => hb2 ⟨rfl, z.1, z.2⟩)]
      · rw [lb48]; decide
  · show Z _ 34 _ _
    have T20 := T2
    obtain ⟨-, v0, v1⟩ := T2
    iterate 5 (first | refine hZ _ _ _ _ ⟨rfl, ?_⟩ | refine hZ _ _ _ _ ⟨_, _, (by repeat (first | exact up_s | assumption | refine up_n (by omega) ?_)), adl (by omega), (by rfl), ?_⟩ | refine hZ _ _ _ _ ⟨_, _, (by repeat (first | exact up_s | assumption | refine up_n (by omega) ?_)), adl (by omega), (by first | assumption | exact vp_in_nI (by omega) (by omega)), ?_⟩ | refine hZ _ _ _ _ ⟨_, (by repeat (first | exact up_s | assumption | refine up_n (by omega) ?_)), adl (by omega), (by rfl), trivial, ?_⟩ | refine hZ _ _ _ _ ⟨trivial, ?_⟩ | refine hZ _ _ _ _ ?_)
    show Z _ 42 _ _
    rw [lb50, lb53]
    refine hZ _ _ _ _ ⟨⟨_, (by repeat (first | exact up_s | assumption | refine up_n (by omega) ?_))⟩, adl (by omega), rfl, ?_⟩
    refine c_Reader_code T20 (by omega) (Nat.zero_le _) (fun h3 F3 => ⟨fun hg2 T3 => absurd hg2.1 (by decide), fun hb2 T3 => ?_⟩)
    show Z _ 45 _ _
    iterate 2 (first | refine hZ _ _ _ _ ⟨rfl, ?_⟩ | refine hZ _ _ _ _ ⟨_, _, (by repeat (first | exact up_s | assumption | refine up_n (by omega) ?_)), adl (by omega), (by rfl), ?_⟩ | refine hZ _ _ _ _ ⟨_, _, (by repeat (first | exact up_s | assumption | refine up_n (by omega) ?_)), adl (by omega), (by first | assumption | exact vp_in_nI (by omega) (by omega)), ?_⟩ | refine hZ _ _ _ _ ⟨_, (by repeat (first | exact up_s | assumption | refine up_n (by omega) ?_)), adl (by omega), (by rfl), trivial, ?_⟩ | refine hZ _ _ _ _ ⟨trivial, ?_⟩ | refine hZ _ _ _ _ ?_)
    show Z _ 48 _ _
    refine rest h3 2 (true, 0) _ T3 (F2.tr F3) ?_ ?_
    · unfold ySt; rw [if_neg (fun z => hb ⟨rfl, z.1, (eq_iff_le _ _).mp z.2⟩)]
    · rw [lb48]; decide
