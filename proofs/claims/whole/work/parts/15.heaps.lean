/-! ===== Arrays.fill, and Heaps ===== -/
theorem c_fill {l : Launch} {N : Nat} {h : AH} {a n : Nat} {f : Nat → Int32} {v : Int32} {P : Option Value → AH → Prop} (haN : a < N) (ha : h a = .inl (0, n, .inl f)) (hn : n < 2 ^ 31)
    (hp : ∀ h' f', h' a = .inl (0, n, .inl f') → (∀ j, j < n → f' j = v) → Fr a (a + 1) h h' → P none h') : Sem l QJ7_fill_53178 N h [.ref a, .int v] P := by
  refine iJ7_fill_53178 rfl ?_
  intro Z hZ
  have loop : ∀ d i h1 f1, i + d = n → h1 a = .inl (0, n, .inl f1) → (∀ j, j < i → f1 j = v) → Fr a (a + 1) h h1 → Z h1 5 [some (.ref a), some (.int v), some (.int (nI i)), some (.int (nI n))] [] := by
    intro d
    induction d with
    | zero =>
      intro i h1 f1 hi ha1 hf F
      repeat (first | refine hZ _ _ _ _ ⟨rfl, ?_⟩ | refine hZ _ _ _ _ ⟨_, _, (by repeat (first | exact up_s | assumption | refine up_n (by omega) ?_)), adl (by omega), (by rfl), ?_⟩ | refine hZ _ _ _ _ ⟨_, _, (by repeat (first | exact up_s | assumption | refine up_n (by omega) ?_)), adl (by omega), (by first | assumption | exact vp_in_nI (by omega) (by omega)), ?_⟩ | refine hZ _ _ _ _ ⟨_, (by repeat (first | exact up_s | assumption | refine up_n (by omega) ?_)), adl (by omega), (by rfl), trivial, ?_⟩ | refine hZ _ _ _ _ ⟨trivial, ?_⟩ | refine hZ _ _ _ _ ?_)
      refine ⟨fun c => ?_, fun c => absurd (nI_le (by omega) (by omega)) c⟩
      repeat (first | refine hZ _ _ _ _ ⟨rfl, ?_⟩ | refine hZ _ _ _ _ ⟨_, _, (by repeat (first | exact up_s | assumption | refine up_n (by omega) ?_)), adl (by omega), (by rfl), ?_⟩ | refine hZ _ _ _ _ ⟨_, _, (by repeat (first | exact up_s | assumption | refine up_n (by omega) ?_)), adl (by omega), (by first | assumption | exact vp_in_nI (by omega) (by omega)), ?_⟩ | refine hZ _ _ _ _ ⟨_, (by repeat (first | exact up_s | assumption | refine up_n (by omega) ?_)), adl (by omega), (by rfl), trivial, ?_⟩ | refine hZ _ _ _ _ ⟨trivial, ?_⟩ | refine hZ _ _ _ _ ?_)
      exact hp _ _ ha1 (fun j hj => hf j (by omega)) F
    | succ d ih =>
      intro i h1 f1 hi ha1 hf F
      repeat (first | refine hZ _ _ _ _ ⟨rfl, ?_⟩ | refine hZ _ _ _ _ ⟨_, _, (by repeat (first | exact up_s | assumption | refine up_n (by omega) ?_)), adl (by omega), (by rfl), ?_⟩ | refine hZ _ _ _ _ ⟨_, _, (by repeat (first | exact up_s | assumption | refine up_n (by omega) ?_)), adl (by omega), (by first | assumption | exact vp_in_nI (by omega) (by omega)), ?_⟩ | refine hZ _ _ _ _ ⟨_, (by repeat (first | exact up_s | assumption | refine up_n (by omega) ?_)), adl (by omega), (by rfl), trivial, ?_⟩ | refine hZ _ _ _ _ ⟨trivial, ?_⟩ | refine hZ _ _ _ _ ?_)
      refine ⟨fun c => absurd c (nI_ge (by omega) (by omega)), fun c => ?_⟩
      iterate 5 (first | refine hZ _ _ _ _ ⟨rfl, ?_⟩ | refine hZ _ _ _ _ ⟨_, _, (by repeat (first | exact up_s | assumption | refine up_n (by omega) ?_)), adl (by omega), (by rfl), ?_⟩ | refine hZ _ _ _ _ ⟨_, _, (by repeat (first | exact up_s | assumption | refine up_n (by omega) ?_)), adl (by omega), (by first | assumption | exact vp_in_nI (by omega) (by omega)), ?_⟩ | refine hZ _ _ _ _ ⟨_, (by repeat (first | exact up_s | assumption | refine up_n (by omega) ?_)), adl (by omega), (by rfl), trivial, ?_⟩ | refine hZ _ _ _ _ ⟨trivial, ?_⟩ | refine hZ _ _ _ _ ?_)
      show Z _ 17 _ _
      rw [nI_inc, nI_clamp (by omega)]
      refine hZ _ _ _ _ (ih (i + 1) _ (upd f1 i v) (by omega) up_s (fun j hj => ?_) (F.up (by omega) (by omega)))
      by_cases e : j = i
      · exact upd_s e
      · rw [pk_un e]; exact hf j (by omega)
  have st := loop n 0 h f (by omega) ha (fun j hj => absurd hj (Nat.not_lt_zero j)) Fr.rf
  iterate 3 (first | refine hZ _ _ _ _ ⟨rfl, ?_⟩ | refine hZ _ _ _ _ ⟨_, _, (by repeat (first | exact up_s | assumption | refine up_n (by omega) ?_)), adl (by omega), (by rfl), ?_⟩ | refine hZ _ _ _ _ ⟨_, _, (by repeat (first | exact up_s | assumption | refine up_n (by omega) ?_)), adl (by omega), (by first | assumption | exact vp_in_nI (by omega) (by omega)), ?_⟩ | refine hZ _ _ _ _ ⟨_, (by repeat (first | exact up_s | assumption | refine up_n (by omega) ?_)), adl (by omega), (by rfl), trivial, ?_⟩ | refine hZ _ _ _ _ ⟨trivial, ?_⟩ | refine hZ _ _ _ _ ?_)
  show Z _ 3 _ _
  refine hZ _ _ _ _ ⟨_, _, ha, haN, ?_⟩
  refine hZ _ _ _ _ ⟨rfl, ?_⟩
  exact st
theorem c_Heaps_forget {l : Launch} {N : Nat} {h : AH} {k : Nat} {f t : Nat → Int32} {fa to : Int32} {P : Option Value → AH → Prop} (K : Hp N h k f t fa to)
    (hp : ∀ h' t', Hp N h' k f t' 0 0 → (∀ j, j < 5 → t' j = 0) → Fr k (k + 3) h h' → P none h') : Sem l QX2_forgetTopplings N h [.ref k] P := by
  obtain ⟨hN, h0, h1, h2⟩ := K
  refine iX2_forgetTopplings rfl ?_
  intro Z hZ
  iterate 3 (first | refine hZ _ _ _ _ ⟨rfl, ?_⟩ | refine hZ _ _ _ _ ⟨_, _, (by repeat (first | exact up_s | assumption | refine up_n (by omega) ?_)), adl (by omega), (by rfl), ?_⟩ | refine hZ _ _ _ _ ⟨_, _, (by repeat (first | exact up_s | assumption | refine up_n (by omega) ?_)), adl (by omega), (by first | assumption | exact vp_in_nI (by omega) (by omega)), ?_⟩ | refine hZ _ _ _ _ ⟨_, (by repeat (first | exact up_s | assumption | refine up_n (by omega) ?_)), adl (by omega), (by rfl), trivial, ?_⟩ | refine hZ _ _ _ _ ⟨trivial, ?_⟩ | refine hZ _ _ _ _ ?_)
  show Z _ 5 _ _
  refine hZ _ _ _ _ ⟨rfl, rfl, ?_⟩
  refine c_fill (by omega) h2 (by decide) (fun h3 t3 e3 ht F => ?_)
  show Z _ 8 _ _
  have g0 : h3 k = _ := (F k (by omega)).trans h0
  have g1 : h3 (k + 1) = _ := (F (k + 1) (by omega)).trans h1
  repeat (first | refine hZ _ _ _ _ ⟨rfl, ?_⟩ | refine hZ _ _ _ _ ⟨_, _, (by repeat (first | exact up_s | assumption | refine up_n (by omega) ?_)), adl (by omega), (by rfl), ?_⟩ | refine hZ _ _ _ _ ⟨_, _, (by repeat (first | exact up_s | assumption | refine up_n (by omega) ?_)), adl (by omega), (by first | assumption | exact vp_in_nI (by omega) (by omega)), ?_⟩ | refine hZ _ _ _ _ ⟨_, (by repeat (first | exact up_s | assumption | refine up_n (by omega) ?_)), adl (by omega), (by rfl), trivial, ?_⟩ | refine hZ _ _ _ _ ⟨trivial, ?_⟩ | refine hZ _ _ _ _ ?_)
  refine hp _ t3 ⟨hN, (by repeat (first | exact up_s | assumption | refine up_n (by omega) ?_)), (by repeat (first | exact up_s | assumption | refine up_n (by omega) ?_)), (by repeat (first | exact up_s | assumption | refine up_n (by omega) ?_))⟩ ht (Fr.up (Fr.up (F.wide (by omega) (by omega)) (by omega) (by omega)) (by omega) (by omega))
theorem c_Heaps_startFrom {l : Launch} {N : Nat} {h : AH} {k o : Nat} {f t f2 t2 : Nat → Int32} {fa to fa2 to2 : Int32} {P : Option Value → AH → Prop} (K : Hp N h k f t fa to) (O : Hp N h o f2 t2 fa2 to2) (hd : k + 3 ≤ o ∨ o + 3 ≤ k)
    (hp : ∀ h' f' t', Hp N h' k f' t' 0 0 → (∀ j, j < 5 → f' j = f2 j) → (∀ j, j < 5 → t' j = 0) → Fr k (k + 3) h h' → P none h') : Sem l QX2_startFrom N h [.ref k, .ref o] P := by
  obtain ⟨hN, h0, h1, h2⟩ := K
  obtain ⟨oN, o0, o1, o2⟩ := O
  refine iX2_startFrom rfl ?_
  intro Z hZ
  iterate 7 (first | refine hZ _ _ _ _ ⟨rfl, ?_⟩ | refine hZ _ _ _ _ ⟨_, _, (by repeat (first | exact up_s | assumption | refine up_n (by omega) ?_)), adl (by omega), (by rfl), ?_⟩ | refine hZ _ _ _ _ ⟨_, _, (by repeat (first | exact up_s | assumption | refine up_n (by omega) ?_)), adl (by omega), (by first | assumption | exact vp_in_nI (by omega) (by omega)), ?_⟩ | refine hZ _ _ _ _ ⟨_, (by repeat (first | exact up_s | assumption | refine up_n (by omega) ?_)), adl (by omega), (by rfl), trivial, ?_⟩ | refine hZ _ _ _ _ ⟨trivial, ?_⟩ | refine hZ _ _ _ _ ?_)
  show Z _ 11 _ _
  refine hZ _ _ _ _ ⟨5, 5, f2, f, o1, h1, adl (by omega), adl (by omega), rfl, by decide, by decide, by decide, by decide, by decide, ?_⟩
  show Z _ 14 _ _
  iterate 1 (first | refine hZ _ _ _ _ ⟨rfl, ?_⟩ | refine hZ _ _ _ _ ⟨_, _, (by repeat (first | exact up_s | assumption | refine up_n (by omega) ?_)), adl (by omega), (by rfl), ?_⟩ | refine hZ _ _ _ _ ⟨_, _, (by repeat (first | exact up_s | assumption | refine up_n (by omega) ?_)), adl (by omega), (by first | assumption | exact vp_in_nI (by omega) (by omega)), ?_⟩ | refine hZ _ _ _ _ ⟨_, (by repeat (first | exact up_s | assumption | refine up_n (by omega) ?_)), adl (by omega), (by rfl), trivial, ?_⟩ | refine hZ _ _ _ _ ⟨trivial, ?_⟩ | refine hZ _ _ _ _ ?_)
  show Z _ 15 _ _
  refine hZ _ _ _ _ ⟨⟨_, (by repeat (first | exact up_s | assumption | refine up_n (by omega) ?_))⟩, adl (by omega), rfl, ?_⟩
  have K1 : Hp N (va_up h (k + 1) (.inl (0, 5, .inl (va_cpy f2 f (Int32.ofInt 0).toNatClampNeg (Int32.ofInt 0).toNatClampNeg (Int32.ofInt 5).toNatClampNeg)))) k (va_cpy f2 f (Int32.ofInt 0).toNatClampNeg (Int32.ofInt 0).toNatClampNeg (Int32.ofInt 5).toNatClampNeg) t fa to := ⟨hN, (by repeat (first | exact up_s | assumption | refine up_n (by omega) ?_)), (by repeat (first | exact up_s | assumption | refine up_n (by omega) ?_)), (by repeat (first | exact up_s | assumption | refine up_n (by omega) ?_))⟩
  refine c_Heaps_forget K1 (fun h3 t3 K3 ht F => ?_)
  show Z _ 18 _ _
  repeat (first | refine hZ _ _ _ _ ⟨rfl, ?_⟩ | refine hZ _ _ _ _ ⟨_, _, (by repeat (first | exact up_s | assumption | refine up_n (by omega) ?_)), adl (by omega), (by rfl), ?_⟩ | refine hZ _ _ _ _ ⟨_, _, (by repeat (first | exact up_s | assumption | refine up_n (by omega) ?_)), adl (by omega), (by first | assumption | exact vp_in_nI (by omega) (by omega)), ?_⟩ | refine hZ _ _ _ _ ⟨_, (by repeat (first | exact up_s | assumption | refine up_n (by omega) ?_)), adl (by omega), (by rfl), trivial, ?_⟩ | refine hZ _ _ _ _ ⟨trivial, ?_⟩ | refine hZ _ _ _ _ ?_)
  refine hp _ _ t3 K3 (fun j hj => ?_) ht (Fr.tr (Fr.rf.up (by omega) (by omega)) F)
  rw [show (Int32.ofInt 0).toNatClampNeg = 0 by decide, show (Int32.ofInt 5).toNatClampNeg = 5 by decide]
  exact sb_cpy0 hj
theorem c_Heaps_takes {l : Launch} {N : Nat} {h : AH} {k p x m : Nat} {f t : Nat → Int32} {fa to : Int32} {P : Option Value → AH → Prop} (K : Hp N h k f t fa to) (hpn : p < 5) (hf : f p = nI x) (hx : x < 2 ^ 30) (hm : m < 2 ^ 30)
    (hp : (999 < x + m → P (some (.int 0)) h) ∧ (x + m ≤ 999 → ∀ h', Hp N h' k (upd f p (nI (x + m))) t fa to → Fr k (k + 3) h h' → P (some (.int 1)) h')) : Sem l QX2_takesGrains N h [.ref k, .int (nI p), .int (nI m)] P := by
  obtain ⟨hN, h0, h1, h2⟩ := K
  refine iX2_takesGrains rfl ?_
  intro Z hZ
  repeat (first | refine hZ _ _ _ _ ⟨rfl, ?_⟩ | refine hZ _ _ _ _ ⟨_, _, (by repeat (first | exact up_s | assumption | refine up_n (by omega) ?_)), adl (by omega), (by rfl), ?_⟩ | refine hZ _ _ _ _ ⟨_, _, (by repeat (first | exact up_s | assumption | refine up_n (by omega) ?_)), adl (by omega), (by first | assumption | exact vp_in_nI (by omega) (by omega)), ?_⟩ | refine hZ _ _ _ _ ⟨_, (by repeat (first | exact up_s | assumption | refine up_n (by omega) ?_)), adl (by omega), (by rfl), trivial, ?_⟩ | refine hZ _ _ _ _ ⟨trivial, ?_⟩ | refine hZ _ _ _ _ ?_)
  rw [nI_clamp (by omega), hf, nI_add]
  refine ⟨fun c => ?_, fun c => ?_⟩
  · have c : nI (x + m) ≤ nI 999 := c
    repeat (first | refine hZ _ _ _ _ ⟨rfl, ?_⟩ | refine hZ _ _ _ _ ⟨_, _, (by repeat (first | exact up_s | assumption | refine up_n (by omega) ?_)), adl (by omega), (by rfl), ?_⟩ | refine hZ _ _ _ _ ⟨_, _, (by repeat (first | exact up_s | assumption | refine up_n (by omega) ?_)), adl (by omega), (by first | assumption | exact vp_in_nI (by omega) (by omega)), ?_⟩ | refine hZ _ _ _ _ ⟨_, (by repeat (first | exact up_s | assumption | refine up_n (by omega) ?_)), adl (by omega), (by rfl), trivial, ?_⟩ | refine hZ _ _ _ _ ⟨trivial, ?_⟩ | refine hZ _ _ _ _ ?_)
    rw [nI_clamp (by omega), hf, nI_add]
    exact hp.2 ((nI_leI (by omega) (by omega)).mp c) _ ⟨hN, (by repeat (first | exact up_s | assumption | refine up_n (by omega) ?_)), (by repeat (first | exact up_s | assumption | refine up_n (by omega) ?_)), (by repeat (first | exact up_s | assumption | refine up_n (by omega) ?_))⟩ (Fr.rf.up (by omega) (by omega))
  · have c : ¬ nI (x + m) ≤ nI 999 := c
    repeat (first | refine hZ _ _ _ _ ⟨rfl, ?_⟩ | refine hZ _ _ _ _ ⟨_, _, (by repeat (first | exact up_s | assumption | refine up_n (by omega) ?_)), adl (by omega), (by rfl), ?_⟩ | refine hZ _ _ _ _ ⟨_, _, (by repeat (first | exact up_s | assumption | refine up_n (by omega) ?_)), adl (by omega), (by first | assumption | exact vp_in_nI (by omega) (by omega)), ?_⟩ | refine hZ _ _ _ _ ⟨_, (by repeat (first | exact up_s | assumption | refine up_n (by omega) ?_)), adl (by omega), (by rfl), trivial, ?_⟩ | refine hZ _ _ _ _ ⟨trivial, ?_⟩ | refine hZ _ _ _ _ ?_)
    exact hp.1 (Nat.not_le.mp (fun q => c ((nI_leI (by omega) (by omega)).mpr q)))
theorem c_Heaps_isReady {l : Launch} {N : Nat} {h : AH} {g k p x b : Nat} {pl : Int32} {B : Nat → Nat → Int32} {pit kind deg brs : Nat → Int32} {f t : Nat → Int32} {fa to : Int32} {P : Option Value → AH → Prop} (G : Gd N h g pl B pit kind deg brs) (K : Hp N h k f t fa to) (hpn : p < 5) (hf : f p = nI x) (hb : brs p = nI b) (hx : x < 2 ^ 31) (hb2 : b < 2 ^ 31)
    (hp : P (some (.int (b2i (decide (b ≤ x))))) h) : Sem l QX2_isReady N h [.ref k, .ref g, .int (nI p)] P := by
  obtain ⟨hN, h0, h1, h2⟩ := K
  obtain ⟨gN, g0, g1, g2, g3, g4, g5, g6⟩ := G
  refine iX2_isReady rfl ?_
  intro Z hZ
  repeat (first | refine hZ _ _ _ _ ⟨rfl, ?_⟩ | refine hZ _ _ _ _ ⟨_, _, (by repeat (first | exact up_s | assumption | refine up_n (by omega) ?_)), adl (by omega), (by rfl), ?_⟩ | refine hZ _ _ _ _ ⟨_, _, (by repeat (first | exact up_s | assumption | refine up_n (by omega) ?_)), adl (by omega), (by first | assumption | exact vp_in_nI (by omega) (by omega)), ?_⟩ | refine hZ _ _ _ _ ⟨_, (by repeat (first | exact up_s | assumption | refine up_n (by omega) ?_)), adl (by omega), (by rfl), trivial, ?_⟩ | refine hZ _ _ _ _ ⟨trivial, ?_⟩ | refine hZ _ _ _ _ ?_)
  rw [nI_clamp (by omega), hf, hb]
  refine ⟨fun c => ?_, fun c => ?_⟩
  · have c1 : x < b := (nI_ltI hx hb2).mp c
    rw [decide_eq_false (by omega)] at hp
    repeat (first | refine hZ _ _ _ _ ⟨rfl, ?_⟩ | refine hZ _ _ _ _ ⟨_, _, (by repeat (first | exact up_s | assumption | refine up_n (by omega) ?_)), adl (by omega), (by rfl), ?_⟩ | refine hZ _ _ _ _ ⟨_, _, (by repeat (first | exact up_s | assumption | refine up_n (by omega) ?_)), adl (by omega), (by first | assumption | exact vp_in_nI (by omega) (by omega)), ?_⟩ | refine hZ _ _ _ _ ⟨_, (by repeat (first | exact up_s | assumption | refine up_n (by omega) ?_)), adl (by omega), (by rfl), trivial, ?_⟩ | refine hZ _ _ _ _ ⟨trivial, ?_⟩ | refine hZ _ _ _ _ ?_)
    exact hp
  · have c1 : ¬ x < b := fun q => c ((nI_ltI hx hb2).mpr q)
    rw [decide_eq_true (by omega)] at hp
    repeat (first | refine hZ _ _ _ _ ⟨rfl, ?_⟩ | refine hZ _ _ _ _ ⟨_, _, (by repeat (first | exact up_s | assumption | refine up_n (by omega) ?_)), adl (by omega), (by rfl), ?_⟩ | refine hZ _ _ _ _ ⟨_, _, (by repeat (first | exact up_s | assumption | refine up_n (by omega) ?_)), adl (by omega), (by first | assumption | exact vp_in_nI (by omega) (by omega)), ?_⟩ | refine hZ _ _ _ _ ⟨_, (by repeat (first | exact up_s | assumption | refine up_n (by omega) ?_)), adl (by omega), (by rfl), trivial, ?_⟩ | refine hZ _ _ _ _ ⟨trivial, ?_⟩ | refine hZ _ _ _ _ ?_)
    exact hp
set_option maxHeartbeats 1000000 in
theorem c_Heaps_give {l : Launch} {N : Nat} {h : AH} {g k n p tm : Nat} {B : Nat → Nat → Int32} {pit kind deg brs : Nat → Int32} {f t : Nat → Int32} {fa to : Int32} {a : Nat → Nat → Nat} {d x : Nat → Nat} {P : Option Value → AH → Prop} (G : Gd N h g (nI n) B pit kind deg brs) (K : Hp N h k f t fa to) (hd : k + 3 ≤ g ∨ g + 11 ≤ k) (hn : n ≤ 5) (hpn : p < n)
    (hf : ∀ q, q < n → f q = nI (x q)) (hB : ∀ q, q < n → B p q = nI (a p q)) (ha : a p p = 0) (hdg : deg p = nI (d p)) (hle : tm * d p ≤ x p)
    (hp : ∀ h' f', Hp N h' k f' (upd t p (t p + nI tm)) (fa + nI tm * pit p) (to + nI tm) → (∀ q, q < n → f' q = nI (tpl a d x p tm q)) → Fr k (k + 3) h h' → P none h') : Sem l QX2_giveAlongPaths N h [.ref k, .ref g, .int (nI p), .int (nI tm)] P := by
  have K0 := K
  have G0 := G
  obtain ⟨hN, h0, h1, h2⟩ := K
  obtain ⟨gN, g0, g1, g2, g3, g4, g5, g6⟩ := G
  refine iX2_giveAlongPaths rfl ?_
  intro Z hZ
  have loop : ∀ e q h1 f1, q + e = n → Hp N h1 k f1 t fa to → (∀ j, j < n → f1 j = nI (if j < q then tpl a d x p tm j else if j = p then x p - tm * d p else x j)) → Fr k (k + 3) h h1 → Z h1 20 [some (.ref k), some (.ref g), some (.int (nI p)), some (.int (nI tm)), some (.int (nI q))] [] := by
    intro e
    induction e with
    | zero =>
      intro q h1 f1 hq K1 hf1 F
      obtain ⟨-, r0, r1, r2, r3, r4, r5, r6⟩ := G0.fr F (by omega)
      obtain ⟨-, k0, k1, k2⟩ := K1
      repeat (first | refine hZ _ _ _ _ ⟨rfl, ?_⟩ | refine hZ _ _ _ _ ⟨_, _, (by repeat (first | exact up_s | assumption | refine up_n (by omega) ?_)), adl (by omega), (by rfl), ?_⟩ | refine hZ _ _ _ _ ⟨_, _, (by repeat (first | exact up_s | assumption | refine up_n (by omega) ?_)), adl (by omega), (by first | assumption | exact vp_in_nI (by omega) (by omega)), ?_⟩ | refine hZ _ _ _ _ ⟨_, (by repeat (first | exact up_s | assumption | refine up_n (by omega) ?_)), adl (by omega), (by rfl), trivial, ?_⟩ | refine hZ _ _ _ _ ⟨trivial, ?_⟩ | refine hZ _ _ _ _ ?_)
      refine ⟨fun c => ?_, fun c => absurd (nI_le (by omega) (by omega)) c⟩
      repeat (first | refine hZ _ _ _ _ ⟨rfl, ?_⟩ | refine hZ _ _ _ _ ⟨_, _, (by repeat (first | exact up_s | assumption | refine up_n (by omega) ?_)), adl (by omega), (by rfl), ?_⟩ | refine hZ _ _ _ _ ⟨_, _, (by repeat (first | exact up_s | assumption | refine up_n (by omega) ?_)), adl (by omega), (by first | assumption | exact vp_in_nI (by omega) (by omega)), ?_⟩ | refine hZ _ _ _ _ ⟨_, (by repeat (first | exact up_s | assumption | refine up_n (by omega) ?_)), adl (by omega), (by rfl), trivial, ?_⟩ | refine hZ _ _ _ _ ⟨trivial, ?_⟩ | refine hZ _ _ _ _ ?_)
      rw [nI_clamp (by omega)]
      refine hp _ f1 ⟨hN, (by repeat (first | exact up_s | assumption | refine up_n (by omega) ?_)), (by repeat (first | exact up_s | assumption | refine up_n (by omega) ?_)), (by repeat (first | exact up_s | assumption | refine up_n (by omega) ?_))⟩ (fun j hj => by rw [hf1 j hj, if_pos (by omega)]) (((F.up (by omega) (by omega)).up (by omega) (by omega)).up (by omega) (by omega))
    | succ e ih =>
      intro q h1 f1 hq K1 hf1 F
      obtain ⟨-, r0, r1, r2, r3, r4, r5, r6⟩ := G0.fr F (by omega)
      obtain ⟨-, k0, k1, k2⟩ := K1
      have r2p := r2 p (by omega)
      repeat (first | refine hZ _ _ _ _ ⟨rfl, ?_⟩ | refine hZ _ _ _ _ ⟨_, _, (by repeat (first | exact up_s | assumption | refine up_n (by omega) ?_)), adl (by omega), (by rfl), ?_⟩ | refine hZ _ _ _ _ ⟨_, _, (by repeat (first | exact up_s | assumption | refine up_n (by omega) ?_)), adl (by omega), (by first | assumption | exact vp_in_nI (by omega) (by omega)), ?_⟩ | refine hZ _ _ _ _ ⟨_, (by repeat (first | exact up_s | assumption | refine up_n (by omega) ?_)), adl (by omega), (by rfl), trivial, ?_⟩ | refine hZ _ _ _ _ ⟨trivial, ?_⟩ | refine hZ _ _ _ _ ?_)
      refine ⟨fun c => absurd c (nI_ge (by omega) (by omega)), fun c => ?_⟩
      iterate 9 (first | refine hZ _ _ _ _ ⟨rfl, ?_⟩ | refine hZ _ _ _ _ ⟨_, _, (by repeat (first | exact up_s | assumption | refine up_n (by omega) ?_)), adl (by omega), (by rfl), ?_⟩ | refine hZ _ _ _ _ ⟨_, _, (by repeat (first | exact up_s | assumption | refine up_n (by omega) ?_)), adl (by omega), (by first | assumption | exact vp_in_nI (by omega) (by omega)), ?_⟩ | refine hZ _ _ _ _ ⟨_, (by repeat (first | exact up_s | assumption | refine up_n (by omega) ?_)), adl (by omega), (by rfl), trivial, ?_⟩ | refine hZ _ _ _ _ ⟨trivial, ?_⟩ | refine hZ _ _ _ _ ?_)
      show Z _ 43 _ _
      refine hZ _ _ _ _ ⟨_, _, _, _, r1, Or.inr (Or.inl rfl), adl (by omega), (by first | assumption | exact vp_in_nI (by omega) (by omega)), rowsF_at (by omega), ?_⟩
      iterate 6 (first | refine hZ _ _ _ _ ⟨rfl, ?_⟩ | refine hZ _ _ _ _ ⟨_, _, (by repeat (first | exact up_s | assumption | refine up_n (by omega) ?_)), adl (by omega), (by rfl), ?_⟩ | refine hZ _ _ _ _ ⟨_, _, (by repeat (first | exact up_s | assumption | refine up_n (by omega) ?_)), adl (by omega), (by first | assumption | exact vp_in_nI (by omega) (by omega)), ?_⟩ | refine hZ _ _ _ _ ⟨_, (by repeat (first | exact up_s | assumption | refine up_n (by omega) ?_)), adl (by omega), (by rfl), trivial, ?_⟩ | refine hZ _ _ _ _ ⟨trivial, ?_⟩ | refine hZ _ _ _ _ ?_)
      show Z _ 53 _ _
      rw [nI_inc, nI_clamp (by omega)]
      refine hZ _ _ _ _ (ih (q + 1) _ _ (by omega) ⟨hN, (by repeat (first | exact up_s | assumption | refine up_n (by omega) ?_)), (by repeat (first | exact up_s | assumption | refine up_n (by omega) ?_)), (by repeat (first | exact up_s | assumption | refine up_n (by omega) ?_))⟩ (fun j hj => ?_) (F.up (by omega) (by omega)))
      by_cases e1 : j = q
      · subst e1
        rw [pk_us, if_pos (by omega), hf1 j hj, hB j hj, if_neg (by omega), pk_mul, nI_add]
        by_cases e2 : j = p
        · subst e2
          rw [if_pos rfl, ha, Nat.mul_zero, Nat.add_zero]
          rw [show tpl a d x j tm j = x j - tm * d j from if_pos rfl]
        · rw [if_neg e2, show tpl a d x p tm j = x j + tm * a p j from if_neg e2]
      · rw [pk_un e1, hf1 j hj]
        by_cases e2 : j < q
        · rw [if_pos e2, if_pos (show j < q + 1 by omega)]
        · rw [if_neg e2, if_neg (show ¬ j < q + 1 by omega)]
  iterate 15 (first | refine hZ _ _ _ _ ⟨rfl, ?_⟩ | refine hZ _ _ _ _ ⟨_, _, (by repeat (first | exact up_s | assumption | refine up_n (by omega) ?_)), adl (by omega), (by rfl), ?_⟩ | refine hZ _ _ _ _ ⟨_, _, (by repeat (first | exact up_s | assumption | refine up_n (by omega) ?_)), adl (by omega), (by first | assumption | exact vp_in_nI (by omega) (by omega)), ?_⟩ | refine hZ _ _ _ _ ⟨_, (by repeat (first | exact up_s | assumption | refine up_n (by omega) ?_)), adl (by omega), (by rfl), trivial, ?_⟩ | refine hZ _ _ _ _ ⟨trivial, ?_⟩ | refine hZ _ _ _ _ ?_)
  show Z _ 20 _ _
  rw [nI_clamp (by omega)]
  refine loop n 0 _ (upd f p (f p - nI tm * deg p)) (by omega) ⟨hN, (by repeat (first | exact up_s | assumption | refine up_n (by omega) ?_)), (by repeat (first | exact up_s | assumption | refine up_n (by omega) ?_)), (by repeat (first | exact up_s | assumption | refine up_n (by omega) ?_))⟩ (fun j hj => ?_) (Fr.rf.up (by omega) (by omega))
  rw [if_neg (by omega)]
  by_cases e1 : j = p
  · subst e1
    rw [pk_us, if_pos rfl, hf j hj, hdg, pk_mul, pk_sub hle]
  · rw [pk_un e1, if_neg e1, hf j hj]
theorem c_Heaps_times {l : Launch} {N : Nat} {h : AH} {g k p x b d : Nat} {pl : Int32} {B : Nat → Nat → Int32} {pit kind deg brs : Nat → Int32} {f t : Nat → Int32} {fa to : Int32} {P : Option Value → AH → Prop} (G : Gd N h g pl B pit kind deg brs) (K : Hp N h k f t fa to) (hpn : p < 5) (hf : f p = nI x) (hb : brs p = nI b) (hdg : deg p = nI d) (hx : x < 2 ^ 31) (hb2 : b < 2 ^ 31) (hd0 : 0 < d) (hd2 : d < 2 ^ 31)
    (hp : P (some (.int (nI (if b ≤ x then (x - b) / d + 1 else 0)))) h) : Sem l QX2_timesInOneGo N h [.ref k, .ref g, .int (nI p)] P := by
  have K0 := K
  have G0 := G
  obtain ⟨hN, h0, h1, h2⟩ := K
  obtain ⟨gN, g0, g1, g2, g3, g4, g5, g6⟩ := G
  refine iX2_timesInOneGo rfl ?_
  intro Z hZ
  iterate 8 (first | refine hZ _ _ _ _ ⟨rfl, ?_⟩ | refine hZ _ _ _ _ ⟨_, _, (by repeat (first | exact up_s | assumption | refine up_n (by omega) ?_)), adl (by omega), (by rfl), ?_⟩ | refine hZ _ _ _ _ ⟨_, _, (by repeat (first | exact up_s | assumption | refine up_n (by omega) ?_)), adl (by omega), (by first | assumption | exact vp_in_nI (by omega) (by omega)), ?_⟩ | refine hZ _ _ _ _ ⟨_, (by repeat (first | exact up_s | assumption | refine up_n (by omega) ?_)), adl (by omega), (by rfl), trivial, ?_⟩ | refine hZ _ _ _ _ ⟨trivial, ?_⟩ | refine hZ _ _ _ _ ?_)
  show Z _ 10 _ _
  rw [nI_clamp (by omega), hdg]
  refine hZ _ _ _ _ ⟨⟨_, (by repeat (first | exact up_s | assumption | refine up_n (by omega) ?_))⟩, adl (by omega), rfl, ?_⟩
  refine c_Heaps_isReady G0 K0 hpn hf hb hx hb2 ?_
  show Z _ 13 _ _
  by_cases hc : b ≤ x
  · rw [decide_eq_true hc]
    rw [if_pos hc] at hp
    repeat (first | refine hZ _ _ _ _ ⟨rfl, ?_⟩ | refine hZ _ _ _ _ ⟨_, _, (by repeat (first | exact up_s | assumption | refine up_n (by omega) ?_)), adl (by omega), (by rfl), ?_⟩ | refine hZ _ _ _ _ ⟨_, _, (by repeat (first | exact up_s | assumption | refine up_n (by omega) ?_)), adl (by omega), (by first | assumption | exact vp_in_nI (by omega) (by omega)), ?_⟩ | refine hZ _ _ _ _ ⟨_, (by repeat (first | exact up_s | assumption | refine up_n (by omega) ?_)), adl (by omega), (by rfl), trivial, ?_⟩ | refine hZ _ _ _ _ ⟨trivial, ?_⟩ | refine hZ _ _ _ _ ?_)
    refine ⟨fun c => absurd c (by decide), fun c => ?_⟩
    repeat (first | refine hZ _ _ _ _ ⟨rfl, ?_⟩ | refine hZ _ _ _ _ ⟨_, _, (by repeat (first | exact up_s | assumption | refine up_n (by omega) ?_)), adl (by omega), (by rfl), ?_⟩ | refine hZ _ _ _ _ ⟨_, _, (by repeat (first | exact up_s | assumption | refine up_n (by omega) ?_)), adl (by omega), (by first | assumption | exact vp_in_nI (by omega) (by omega)), ?_⟩ | refine hZ _ _ _ _ ⟨_, (by repeat (first | exact up_s | assumption | refine up_n (by omega) ?_)), adl (by omega), (by rfl), trivial, ?_⟩ | refine hZ _ _ _ _ ⟨trivial, ?_⟩ | refine hZ _ _ _ _ ?_)
    refine ⟨fun c => ?_, fun c => absurd (nI_lt hd0 hd2) c⟩
    iterate 10 (first | refine hZ _ _ _ _ ⟨rfl, ?_⟩ | refine hZ _ _ _ _ ⟨_, _, (by repeat (first | exact up_s | assumption | refine up_n (by omega) ?_)), adl (by omega), (by rfl), ?_⟩ | refine hZ _ _ _ _ ⟨_, _, (by repeat (first | exact up_s | assumption | refine up_n (by omega) ?_)), adl (by omega), (by first | assumption | exact vp_in_nI (by omega) (by omega)), ?_⟩ | refine hZ _ _ _ _ ⟨_, (by repeat (first | exact up_s | assumption | refine up_n (by omega) ?_)), adl (by omega), (by rfl), trivial, ?_⟩ | refine hZ _ _ _ _ ⟨trivial, ?_⟩ | refine hZ _ _ _ _ ?_)
    show Z _ 36 _ _
    rw [nI_clamp (by omega), hf, hb, pk_sub hc]
    refine hZ _ _ _ _ ⟨nI_ne0 hd0 hd2, ?_⟩
    rw [pk_div (by omega) hd0 hd2]
    repeat (first | refine hZ _ _ _ _ ⟨rfl, ?_⟩ | refine hZ _ _ _ _ ⟨_, _, (by repeat (first | exact up_s | assumption | refine up_n (by omega) ?_)), adl (by omega), (by rfl), ?_⟩ | refine hZ _ _ _ _ ⟨_, _, (by repeat (first | exact up_s | assumption | refine up_n (by omega) ?_)), adl (by omega), (by first | assumption | exact vp_in_nI (by omega) (by omega)), ?_⟩ | refine hZ _ _ _ _ ⟨_, (by repeat (first | exact up_s | assumption | refine up_n (by omega) ?_)), adl (by omega), (by rfl), trivial, ?_⟩ | refine hZ _ _ _ _ ⟨trivial, ?_⟩ | refine hZ _ _ _ _ ?_)
    rw [lit_1, nI_add]
    exact hp
  · rw [decide_eq_false hc]
    rw [if_neg hc] at hp
    repeat (first | refine hZ _ _ _ _ ⟨rfl, ?_⟩ | refine hZ _ _ _ _ ⟨_, _, (by repeat (first | exact up_s | assumption | refine up_n (by omega) ?_)), adl (by omega), (by rfl), ?_⟩ | refine hZ _ _ _ _ ⟨_, _, (by repeat (first | exact up_s | assumption | refine up_n (by omega) ?_)), adl (by omega), (by first | assumption | exact vp_in_nI (by omega) (by omega)), ?_⟩ | refine hZ _ _ _ _ ⟨_, (by repeat (first | exact up_s | assumption | refine up_n (by omega) ?_)), adl (by omega), (by rfl), trivial, ?_⟩ | refine hZ _ _ _ _ ⟨trivial, ?_⟩ | refine hZ _ _ _ _ ?_)
    refine ⟨fun c => ?_, fun c => absurd rfl c⟩
    repeat (first | refine hZ _ _ _ _ ⟨rfl, ?_⟩ | refine hZ _ _ _ _ ⟨_, _, (by repeat (first | exact up_s | assumption | refine up_n (by omega) ?_)), adl (by omega), (by rfl), ?_⟩ | refine hZ _ _ _ _ ⟨_, _, (by repeat (first | exact up_s | assumption | refine up_n (by omega) ?_)), adl (by omega), (by first | assumption | exact vp_in_nI (by omega) (by omega)), ?_⟩ | refine hZ _ _ _ _ ⟨_, (by repeat (first | exact up_s | assumption | refine up_n (by omega) ?_)), adl (by omega), (by rfl), trivial, ?_⟩ | refine hZ _ _ _ _ ⟨trivial, ?_⟩ | refine hZ _ _ _ _ ?_)
    exact hp
