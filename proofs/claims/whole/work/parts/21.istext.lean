/-! ===== TextReader: paths, the whole text ===== -/
def FrP (C : Nat → Prop) (h h' : AH) : Prop := ∀ j, ¬ C j → h' j = h j
theorem FrP.rf {C : Nat → Prop} {h : AH} : FrP C h h := fun _ _ => rfl
theorem FrP.tr {C : Nat → Prop} {h h1 h2 : AH} (a : FrP C h h1) (b : FrP C h1 h2) : FrP C h h2 := fun j hj => (b j hj).trans (a j hj)
theorem FrP.up {C : Nat → Prop} {a : Nat} {h h' : AH} {e : va_E} (f : FrP C h h') (h1 : C a) : FrP C h (va_up h' a e) := fun j hj => by
  have hne : j ≠ a := fun z => hj (by rw [z]; exact h1)
  rw [show va_up h' a e j = h' j from if_neg hne]
  exact f j hj
theorem Fr.p {C : Nat → Prop} {lo hi : Nat} {h h' : AH} (f : Fr lo hi h h') (hc : ∀ j, lo ≤ j → j < hi → C j) : FrP C h h' := fun j hj => f j (by
  rcases Nat.lt_or_ge j lo with g | g
  · exact Or.inl g
  · rcases Nat.lt_or_ge j hi with g2 | g2
    · exact absurd (hc j g g2) hj
    · exact Or.inr g2)
theorem FrP.wide {C C' : Nat → Prop} {h h' : AH} (f : FrP C h h') (hc : ∀ j, C j → C' j) : FrP C' h h' := fun j hj => f j (fun z => hj (hc j z))
theorem Gd.frp {N : Nat} {h h' : AH} {g : Nat} {C : Nat → Prop} {pl : Int32} {B : Nat → Nat → Int32} {pit kind deg brs : Nat → Int32} (G : Gd N h g pl B pit kind deg brs) (f : FrP C h h') (hd : ∀ j, g ≤ j → j < g + 11 → ¬ C j) : Gd N h' g pl B pit kind deg brs := by
  obtain ⟨a0, a1, a2, a3, a4, a5, a6, a7⟩ := G
  exact ⟨a0, (f _ (hd _ (by omega) (by omega))).trans a1, (f _ (hd _ (by omega) (by omega))).trans a2, fun i hi => (f _ (hd _ (by omega) (by omega))).trans (a3 i hi), (f _ (hd _ (by omega) (by omega))).trans a4, (f _ (hd _ (by omega) (by omega))).trans a5, (f _ (hd _ (by omega) (by omega))).trans a6, (f _ (hd _ (by omega) (by omega))).trans a7⟩
theorem Hp.frp {N : Nat} {h h' : AH} {k : Nat} {C : Nat → Prop} {f t : Nat → Int32} {fa to : Int32} (G : Hp N h k f t fa to) (fr : FrP C h h') (hd : ∀ j, k ≤ j → j < k + 3 → ¬ C j) : Hp N h' k f t fa to := by
  obtain ⟨a0, a1, a2, a3⟩ := G
  exact ⟨a0, (fr _ (hd _ (by omega) (by omega))).trans a1, (fr _ (hd _ (by omega) (by omega))).trans a2, (fr _ (hd _ (by omega) (by omega))).trans a3⟩
theorem Tr.frp {N : Nat} {h h' : AH} {r m : Nat} {C : Nat → Prop} {wr : Bool} {at' : Nat} {cd : Nat → Int32} (G : Tr N h r m wr at' cd) (f : FrP C h h') (hd : ∀ j, r ≤ j → j < r + 2 → ¬ C j) : Tr N h' r m wr at' cd := by
  obtain ⟨a0, a1, a2⟩ := G
  exact ⟨a0, (f _ (hd _ (by omega) (by omega))).trans a1, (f _ (hd _ (by omega) (by omega))).trans a2⟩
theorem lb48 : (Int8.ofInt 48).toInt32 = nI 48 := by decide
theorem lb50 : (Int8.ofInt 50).toInt32 = nI 50 := by decide
theorem lb51 : (Int8.ofInt 51).toInt32 = nI 51 := by decide
theorem lb53 : (Int8.ofInt 53).toInt32 = nI 53 := by decide
theorem lb57 : (Int8.ofInt 57).toInt32 = nI 57 := by decide
theorem lb59 : (Int8.ofInt 59).toInt32 = nI 59 := by decide
theorem lb121 : (Int8.ofInt 121).toInt32 = nI 121 := by decide
/-- a read, as the class does it, along the checks -/
theorem rd_step {l : Launch} {N : Nat} {h : AH} {r m : Nat} {s : Bool × Nat} {cd : Nat → Int32} {lo hi : Int32} {ck : Nat → Int32 → Bool} {s0 : Bool × Nat} {j : Nat} {P : Option Value → AH → Prop} (T : Tr N h r m (rst ck cd m s0 j).1 (rst ck cd m s0 j).2 cd) (hm : m ≤ 60) (h0 : s0.2 ≤ m) (hck : ∀ c, ck j c = true ↔ lo ≤ c ∧ c ≤ hi)
    (hp : ∀ h' v, Fr r (r + 1) h h' → Tr N h' r m (rst ck cd m s0 (j + 1)).1 (rst ck cd m s0 (j + 1)).2 cd → ((rst ck cd m s0 (j + 1)).1 = false → v = cd (s0.2 + j)) → P (some (.int v)) h') : Sem l QX5_code N h [.ref r, .int lo, .int hi] P := by
  refine c_Reader_code T hm (rst_le h0 j) (fun h' F => ⟨fun hg T' => ?_, fun hb T' => ?_⟩)
  · have c : (rst ck cd m s0 j).1 = false ∧ (rst ck cd m s0 j).2 < m ∧ ck j (cd (rst ck cd m s0 j).2) = true := ⟨hg.1, hg.2.1, (hck _).mpr hg.2.2⟩
    have e := rst_false hg.1 j (Nat.le_refl j)
    refine hp h' _ F (by rw [rst_ok c]; exact T') (fun _ => by rw [e])
  · have c : ¬ ((rst ck cd m s0 j).1 = false ∧ (rst ck cd m s0 j).2 < m ∧ ck j (cd (rst ck cd m s0 j).2) = true) := fun z => hb ⟨z.1, z.2.1, (hck _).mp z.2.2⟩
    refine hp h' lo F (by rw [rst_no c]; exact T') (fun z => ?_)
    rw [rst_no c] at z
    cases z
theorem isDg_iff (k : Nat) (c : Int32) : isDg k c = true ↔ nI 48 ≤ c ∧ c ≤ nI (48 + k) := by simp [isDg]
def B2 (B : Nat → Nat → Int32) (a b : Nat) (v : Int32) : Nat → Nat → Int32 := fun i j => if i = a ∧ j = b ∨ i = b ∧ j = a then v else B i j
set_option maxHeartbeats 2000000 in
theorem c_Reader_paths {l : Launch} {N : Nat} {h : AH} {g r m n : Nat} {cd : Nat → Int32} {ck : Nat → Int32 → Bool} {s0 : Bool × Nat} {B : Nat → Nat → Int32} {pit kind deg brs : Nat → Int32} {P : Option Value → AH → Prop} (T : Tr N h r m s0.1 s0.2 cd) (G : Gd N h g (nI n) B pit kind deg brs) (hn : n ≤ 5) (hm : m ≤ 60) (h0 : s0.2 ≤ m) (hd : r + 2 ≤ g ∨ g + 11 ≤ r) (hck : ∀ j, j < pA n n → ck j = isDg 3)
    (hp : ∀ h' B', Tr N h' r m (rst ck cd m s0 (pA n n)).1 (rst ck cd m s0 (pA n n)).2 cd → Gd N h' g (nI n) B' pit kind deg brs → (∀ i, B' i i = B i i) → ((rst ck cd m s0 (pA n n)).1 = false → ∀ p q, p < q → q < n → B' p q = cd (s0.2 + (pA n p + (q - p - 1))) - nI 48 ∧ B' q p = cd (s0.2 + (pA n p + (q - p - 1))) - nI 48) → FrP (fun j => (r ≤ j ∧ j < r + 2) ∨ (g ≤ j ∧ j < g + 11)) h h' → P none h') : Sem l QX5_readPaths N h [.ref r, .ref g] P := by
  refine iX5_readPaths rfl ?_
  intro Z hZ
  have outer : ∀ e a h1 B1 o3 o4, a + e = n → Tr N h1 r m (rst ck cd m s0 (pA n a)).1 (rst ck cd m s0 (pA n a)).2 cd → Gd N h1 g (nI n) B1 pit kind deg brs → (∀ i, B1 i i = B i i) → ((rst ck cd m s0 (pA n a)).1 = false → ∀ p q, p < q → q < n → p < a → B1 p q = cd (s0.2 + (pA n p + (q - p - 1))) - nI 48 ∧ B1 q p = cd (s0.2 + (pA n p + (q - p - 1))) - nI 48) → FrP (fun j => (r ≤ j ∧ j < r + 2) ∨ (g ≤ j ∧ j < g + 11)) h h1 → Z h1 2 [some (.ref r), some (.ref g), some (.int (nI a)), o3, o4] [] := by
    intro e
    induction e with
    | zero =>
      intro a h1 B1 o3 o4 hae T1 G1 hdi hv F
      have G2 := G1
      obtain ⟨gN, r0, r1, r2, r3, r4, r5, r6⟩ := G1
      have han : a = n := by omega
      subst han
      repeat (first | refine hZ _ _ _ _ ⟨rfl, ?_⟩ | refine hZ _ _ _ _ ⟨_, _, (by repeat (first | exact up_s | assumption | refine up_n (by omega) ?_)), adl (by omega), (by rfl), ?_⟩ | refine hZ _ _ _ _ ⟨_, _, (by repeat (first | exact up_s | assumption | refine up_n (by omega) ?_)), adl (by omega), (by first | assumption | exact vp_in_nI (by omega) (by omega)), ?_⟩ | refine hZ _ _ _ _ ⟨_, (by repeat (first | exact up_s | assumption | refine up_n (by omega) ?_)), adl (by omega), (by rfl), trivial, ?_⟩ | refine hZ _ _ _ _ ⟨trivial, ?_⟩ | refine hZ _ _ _ _ ?_)
      refine ⟨fun c => ?_, fun c => absurd (nI_le (by omega) (by omega)) c⟩
      repeat (first | refine hZ _ _ _ _ ⟨rfl, ?_⟩ | refine hZ _ _ _ _ ⟨_, _, (by repeat (first | exact up_s | assumption | refine up_n (by omega) ?_)), adl (by omega), (by rfl), ?_⟩ | refine hZ _ _ _ _ ⟨_, _, (by repeat (first | exact up_s | assumption | refine up_n (by omega) ?_)), adl (by omega), (by first | assumption | exact vp_in_nI (by omega) (by omega)), ?_⟩ | refine hZ _ _ _ _ ⟨_, (by repeat (first | exact up_s | assumption | refine up_n (by omega) ?_)), adl (by omega), (by rfl), trivial, ?_⟩ | refine hZ _ _ _ _ ⟨trivial, ?_⟩ | refine hZ _ _ _ _ ?_)
      exact hp h1 B1 T1 G2 hdi (fun z p q h1 h2 => hv z p q h1 h2 (by omega)) F
    | succ e ih =>
      intro a h1 B1 o3 o4 hae T1 G1 hdi hv F
      have inner : ∀ i b h2 B2' o4, b + i = n → a < b → Tr N h2 r m (rst ck cd m s0 (pA n a + (b - a - 1))).1 (rst ck cd m s0 (pA n a + (b - a - 1))).2 cd → Gd N h2 g (nI n) B2' pit kind deg brs → (∀ i, B2' i i = B i i) → ((rst ck cd m s0 (pA n a + (b - a - 1))).1 = false → ∀ p q, p < q → q < n → (p < a ∨ p = a ∧ q < b) → B2' p q = cd (s0.2 + (pA n p + (q - p - 1))) - nI 48 ∧ B2' q p = cd (s0.2 + (pA n p + (q - p - 1))) - nI 48) → FrP (fun j => (r ≤ j ∧ j < r + 2) ∨ (g ≤ j ∧ j < g + 11)) h h2 → Z h2 14 [some (.ref r), some (.ref g), some (.int (nI a)), some (.int (nI b)), o4] [] := by
        intro i
        induction i with
        | zero =>
          intro b h2 B2' o4 hbi hab T2 G2 hdi hv F
          have G3 := G2
          obtain ⟨gN, r0, r1, r2, r3, r4, r5, r6⟩ := G2
          repeat (first | refine hZ _ _ _ _ ⟨rfl, ?_⟩ | refine hZ _ _ _ _ ⟨_, _, (by repeat (first | exact up_s | assumption | refine up_n (by omega) ?_)), adl (by omega), (by rfl), ?_⟩ | refine hZ _ _ _ _ ⟨_, _, (by repeat (first | exact up_s | assumption | refine up_n (by omega) ?_)), adl (by omega), (by first | assumption | exact vp_in_nI (by omega) (by omega)), ?_⟩ | refine hZ _ _ _ _ ⟨_, (by repeat (first | exact up_s | assumption | refine up_n (by omega) ?_)), adl (by omega), (by rfl), trivial, ?_⟩ | refine hZ _ _ _ _ ⟨trivial, ?_⟩ | refine hZ _ _ _ _ ?_)
          refine ⟨fun c => ?_, fun c => absurd (nI_le (by omega) (by omega)) c⟩
          iterate 2 (first | refine hZ _ _ _ _ ⟨rfl, ?_⟩ | refine hZ _ _ _ _ ⟨_, _, (by repeat (first | exact up_s | assumption | refine up_n (by omega) ?_)), adl (by omega), (by rfl), ?_⟩ | refine hZ _ _ _ _ ⟨_, _, (by repeat (first | exact up_s | assumption | refine up_n (by omega) ?_)), adl (by omega), (by first | assumption | exact vp_in_nI (by omega) (by omega)), ?_⟩ | refine hZ _ _ _ _ ⟨_, (by repeat (first | exact up_s | assumption | refine up_n (by omega) ?_)), adl (by omega), (by rfl), trivial, ?_⟩ | refine hZ _ _ _ _ ⟨trivial, ?_⟩ | refine hZ _ _ _ _ ?_)
          show Z _ 2 _ _
          rw [nI_inc]
          have ej : pA n a + (b - a - 1) = pA n (a + 1) := by show _ = pA n a + (n - 1 - a); omega
          rw [ej] at T2 hv
          exact ih (a + 1) h2 B2' _ _ (by omega) T2 G3 hdi (fun z p q h1 h2 h3 => hv z p q h1 h2 (by omega)) F
        | succ i ihi =>
          intro b h2 B2' o4 hbi hab T2 G2 hdi hv F
          have hbn : b < n := by omega
          have hjn := pA_in hab hbn
          have T20 := T2
          have G3 := G2
          obtain ⟨gN, r0, r1, r2, r3, r4, r5, r6⟩ := G2
          obtain ⟨rN, t0, t1⟩ := T2
          repeat (first | refine hZ _ _ _ _ ⟨rfl, ?_⟩ | refine hZ _ _ _ _ ⟨_, _, (by repeat (first | exact up_s | assumption | refine up_n (by omega) ?_)), adl (by omega), (by rfl), ?_⟩ | refine hZ _ _ _ _ ⟨_, _, (by repeat (first | exact up_s | assumption | refine up_n (by omega) ?_)), adl (by omega), (by first | assumption | exact vp_in_nI (by omega) (by omega)), ?_⟩ | refine hZ _ _ _ _ ⟨_, (by repeat (first | exact up_s | assumption | refine up_n (by omega) ?_)), adl (by omega), (by rfl), trivial, ?_⟩ | refine hZ _ _ _ _ ⟨trivial, ?_⟩ | refine hZ _ _ _ _ ?_)
          refine ⟨fun c => absurd c (nI_ge (by omega) (by omega)), fun c => ?_⟩
          iterate 3 (first | refine hZ _ _ _ _ ⟨rfl, ?_⟩ | refine hZ _ _ _ _ ⟨_, _, (by repeat (first | exact up_s | assumption | refine up_n (by omega) ?_)), adl (by omega), (by rfl), ?_⟩ | refine hZ _ _ _ _ ⟨_, _, (by repeat (first | exact up_s | assumption | refine up_n (by omega) ?_)), adl (by omega), (by first | assumption | exact vp_in_nI (by omega) (by omega)), ?_⟩ | refine hZ _ _ _ _ ⟨_, (by repeat (first | exact up_s | assumption | refine up_n (by omega) ?_)), adl (by omega), (by rfl), trivial, ?_⟩ | refine hZ _ _ _ _ ⟨trivial, ?_⟩ | refine hZ _ _ _ _ ?_)
          show Z _ 27 _ _
          rw [lb48, lb51]
          refine hZ _ _ _ _ ⟨⟨_, (by repeat (first | exact up_s | assumption | refine up_n (by omega) ?_))⟩, adl (by omega), rfl, ?_⟩
          refine rd_step (ck := ck) (s0 := s0) (s := s0) (j := pA n a + (b - a - 1)) T20 hm h0 (fun c => by rw [hck _ hjn]; exact isDg_iff 3 c) (fun h4 v F4 T4 hv4 => ?_)
          show Z _ 30 _ _
          obtain ⟨-, s0', s1', s2', s3', s4', s5', s6'⟩ := G3.fr F4 (by omega)
          have ra := s2' a (by omega)
          have rb := s2' b (by omega)
          iterate 6 (first | refine hZ _ _ _ _ ⟨rfl, ?_⟩ | refine hZ _ _ _ _ ⟨_, _, (by repeat (first | exact up_s | assumption | refine up_n (by omega) ?_)), adl (by omega), (by rfl), ?_⟩ | refine hZ _ _ _ _ ⟨_, _, (by repeat (first | exact up_s | assumption | refine up_n (by omega) ?_)), adl (by omega), (by first | assumption | exact vp_in_nI (by omega) (by omega)), ?_⟩ | refine hZ _ _ _ _ ⟨_, (by repeat (first | exact up_s | assumption | refine up_n (by omega) ?_)), adl (by omega), (by rfl), trivial, ?_⟩ | refine hZ _ _ _ _ ⟨trivial, ?_⟩ | refine hZ _ _ _ _ ?_)
          show Z _ 40 _ _
          refine hZ _ _ _ _ ⟨_, _, _, _, s1', Or.inr (Or.inl rfl), adl (by omega), (by first | assumption | exact vp_in_nI (by omega) (by omega)), rowsF_at (by omega), ?_⟩
          iterate 6 (first | refine hZ _ _ _ _ ⟨rfl, ?_⟩ | refine hZ _ _ _ _ ⟨_, _, (by repeat (first | exact up_s | assumption | refine up_n (by omega) ?_)), adl (by omega), (by rfl), ?_⟩ | refine hZ _ _ _ _ ⟨_, _, (by repeat (first | exact up_s | assumption | refine up_n (by omega) ?_)), adl (by omega), (by first | assumption | exact vp_in_nI (by omega) (by omega)), ?_⟩ | refine hZ _ _ _ _ ⟨_, (by repeat (first | exact up_s | assumption | refine up_n (by omega) ?_)), adl (by omega), (by rfl), trivial, ?_⟩ | refine hZ _ _ _ _ ⟨trivial, ?_⟩ | refine hZ _ _ _ _ ?_)
          show Z _ 50 _ _
          refine hZ _ _ _ _ ⟨_, _, _, _, up_n (by omega) s1', Or.inr (Or.inl rfl), adl (by omega), (by first | assumption | exact vp_in_nI (by omega) (by omega)), rowsF_at (by omega), ?_⟩
          iterate 5 (first | refine hZ _ _ _ _ ⟨rfl, ?_⟩ | refine hZ _ _ _ _ ⟨_, _, (by repeat (first | exact up_s | assumption | refine up_n (by omega) ?_)), adl (by omega), (by rfl), ?_⟩ | refine hZ _ _ _ _ ⟨_, _, (by repeat (first | exact up_s | assumption | refine up_n (by omega) ?_)), adl (by omega), (by first | assumption | exact vp_in_nI (by omega) (by omega)), ?_⟩ | refine hZ _ _ _ _ ⟨_, (by repeat (first | exact up_s | assumption | refine up_n (by omega) ?_)), adl (by omega), (by rfl), trivial, ?_⟩ | refine hZ _ _ _ _ ⟨trivial, ?_⟩ | refine hZ _ _ _ _ ?_)
          show Z _ 14 _ _
          rw [nI_inc, lb48, nI_clamp (by omega), nI_clamp (by omega)]
          have ej : pA n a + (b - a - 1) + 1 = pA n a + (b + 1 - a - 1) := by omega
          rw [ej] at T4 hv4
          refine ihi (b + 1) _ (B2 B2' a b (v - nI 48)) _ (by omega) (by omega) (T4.frp (C := fun j => g ≤ j ∧ j < g + 11) ((FrP.rf.up (by omega)).up (by omega)) (fun j h1 h2 => by omega)) ⟨gN, (by repeat (first | exact up_s | assumption | refine up_n (by omega) ?_)), (by repeat (first | exact up_s | assumption | refine up_n (by omega) ?_)), fun i hi => ?_, (by repeat (first | exact up_s | assumption | refine up_n (by omega) ?_)), (by repeat (first | exact up_s | assumption | refine up_n (by omega) ?_)), (by repeat (first | exact up_s | assumption | refine up_n (by omega) ?_)), (by repeat (first | exact up_s | assumption | refine up_n (by omega) ?_))⟩ (fun i => ?_) (fun z p q hpq hqn hor => ?_) ?_
          · by_cases e1 : i = b
            · subst e1
              rw [show g + 2 + i = g + 2 + i from rfl, up_s]
              congr 4
              funext j
              show upd (B2' i) a (v - nI 48) j = if i = a ∧ j = i ∨ i = i ∧ j = a then v - nI 48 else B2' i j
              by_cases e2 : j = a
              · rw [upd_s e2, if_pos (Or.inr ⟨rfl, e2⟩)]
              · rw [pk_un e2, if_neg (by omega)]
            · refine up_n (by omega) ?_
              by_cases e2 : i = a
              · subst e2
                rw [up_s]
                congr 4
                funext j
                show upd (B2' i) b (v - nI 48) j = if i = i ∧ j = b ∨ i = b ∧ j = i then v - nI 48 else B2' i j
                by_cases e3 : j = b
                · rw [upd_s e3, if_pos (Or.inl ⟨rfl, e3⟩)]
                · rw [pk_un e3, if_neg (by omega)]
              · rw [up_n (by omega) (s2' i hi)]
                congr 4
                funext j
                show B2' i j = if i = a ∧ j = b ∨ i = b ∧ j = a then v - nI 48 else B2' i j
                rw [if_neg (by omega)]
          · show (if i = a ∧ i = b ∨ i = b ∧ i = a then v - nI 48 else B2' i i) = B i i
            rw [if_neg (by omega)]
            exact hdi i
          · have hw0 : (rst ck cd m s0 (pA n a + (b - a - 1))).1 = false := by
              have := rst_false z (pA n a + (b - a - 1)) (by omega)
              rw [this]
            by_cases e1 : p = a ∧ q = b
            · obtain ⟨rfl, rfl⟩ := e1
              have hvv := hv4 z
              show (if p = p ∧ q = q ∨ p = q ∧ q = p then v - nI 48 else B2' p q) = _ ∧ (if q = p ∧ p = q ∨ q = q ∧ p = p then v - nI 48 else B2' q p) = _
              rw [if_pos (Or.inl ⟨rfl, rfl⟩), if_pos (Or.inr ⟨rfl, rfl⟩), hvv]
              exact ⟨rfl, rfl⟩
            · show (if p = a ∧ q = b ∨ p = b ∧ q = a then v - nI 48 else B2' p q) = _ ∧ (if q = a ∧ p = b ∨ q = b ∧ p = a then v - nI 48 else B2' q p) = _
              rw [if_neg (by omega), if_neg (by omega)]
              exact hv hw0 p q hpq hqn (by omega)
          · exact ((F.tr (F4.p (fun j h1 h2 => Or.inl ⟨h1, by omega⟩))).up (Or.inr (by omega))).up (Or.inr (by omega))
      have G3 := G1
      obtain ⟨gN, r0, r1, r2, r3, r4, r5, r6⟩ := G1
      repeat (first | refine hZ _ _ _ _ ⟨rfl, ?_⟩ | refine hZ _ _ _ _ ⟨_, _, (by repeat (first | exact up_s | assumption | refine up_n (by omega) ?_)), adl (by omega), (by rfl), ?_⟩ | refine hZ _ _ _ _ ⟨_, _, (by repeat (first | exact up_s | assumption | refine up_n (by omega) ?_)), adl (by omega), (by first | assumption | exact vp_in_nI (by omega) (by omega)), ?_⟩ | refine hZ _ _ _ _ ⟨_, (by repeat (first | exact up_s | assumption | refine up_n (by omega) ?_)), adl (by omega), (by rfl), trivial, ?_⟩ | refine hZ _ _ _ _ ⟨trivial, ?_⟩ | refine hZ _ _ _ _ ?_)
      refine ⟨fun c => absurd c (nI_ge (by omega) (by omega)), fun c => ?_⟩
      iterate 4 (first | refine hZ _ _ _ _ ⟨rfl, ?_⟩ | refine hZ _ _ _ _ ⟨_, _, (by repeat (first | exact up_s | assumption | refine up_n (by omega) ?_)), adl (by omega), (by rfl), ?_⟩ | refine hZ _ _ _ _ ⟨_, _, (by repeat (first | exact up_s | assumption | refine up_n (by omega) ?_)), adl (by omega), (by first | assumption | exact vp_in_nI (by omega) (by omega)), ?_⟩ | refine hZ _ _ _ _ ⟨_, (by repeat (first | exact up_s | assumption | refine up_n (by omega) ?_)), adl (by omega), (by rfl), trivial, ?_⟩ | refine hZ _ _ _ _ ⟨trivial, ?_⟩ | refine hZ _ _ _ _ ?_)
      show Z _ 14 _ _
      rw [nI_inc]
      rcases Nat.lt_or_ge (a + 1) n with q | q
      · exact inner (n - (a + 1)) (a + 1) h1 B1 _ (by omega) (by omega) (by rw [show pA n a + (a + 1 - a - 1) = pA n a by omega]; exact T1) G3 hdi (fun z p q h1 h2 h3 => hv (by rw [show pA n a + (a + 1 - a - 1) = pA n a by omega] at z; exact z) p q h1 h2 (by omega)) F
      · exact inner 0 (a + 1) h1 B1 _ (by omega) (by omega) (by rw [show pA n a + (a + 1 - a - 1) = pA n a by omega]; exact T1) G3 hdi (fun z p q h1 h2 h3 => hv (by rw [show pA n a + (a + 1 - a - 1) = pA n a by omega] at z; exact z) p q h1 h2 (by omega)) F
  iterate 2 (first | refine hZ _ _ _ _ ⟨rfl, ?_⟩ | refine hZ _ _ _ _ ⟨_, _, (by repeat (first | exact up_s | assumption | refine up_n (by omega) ?_)), adl (by omega), (by rfl), ?_⟩ | refine hZ _ _ _ _ ⟨_, _, (by repeat (first | exact up_s | assumption | refine up_n (by omega) ?_)), adl (by omega), (by first | assumption | exact vp_in_nI (by omega) (by omega)), ?_⟩ | refine hZ _ _ _ _ ⟨_, (by repeat (first | exact up_s | assumption | refine up_n (by omega) ?_)), adl (by omega), (by rfl), trivial, ?_⟩ | refine hZ _ _ _ _ ⟨trivial, ?_⟩ | refine hZ _ _ _ _ ?_)
  show Z _ 2 _ _
  exact outer n 0 h B _ _ (by omega) T G (fun _ => rfl) (fun _ p q _ _ h3 => absurd h3 (Nat.not_lt_zero p)) FrP.rf
