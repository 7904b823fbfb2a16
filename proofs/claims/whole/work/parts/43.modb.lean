/-! ===== the reference: topplings ===== -/
set_option maxHeartbeats 2000000 in
theorem m_topples {l : Launch} {h : AH} {n p : Nat} {a : Nat → Nat → Nat} {w κ y : Nat → Nat} {fl tr fa to at' rp dF' dT dS rd : Int32} {A : Nat → Nat → Int32} {L : Nat → Int64} {P : Option Value → AH → Prop} (M : MM h fl tr (nI n) fa to at' rp dF' dT dS rd A L) (G : Mg A n a w κ) (hX : Mx A n y) (hn : n ≤ 5) (hpn : p < n) (h0 : a p p = 0) (hd : dgr n a w p ≤ y p)
    (hp : ∀ h' f', Fr 61 82 h h' → MM h' fl tr (nI n) fa to at' rp (dF' + nI (w p)) (dT + nI 1) (dS ||| nI (2 ^ p)) rd (updA (updA A 67 f') 74 (upd (A 74) p (A 74 p + nI 1))) L → (∀ q, q < n → f' q = nI (tpl a (dgr n a w) y p 1 q)) → P none h') : Sem l QX7_topples 82 h [.ref 61, .int (nI p)] P := by
  have m0 := M.1
  have m67 := M.at (j := 67) (m := 5) (by omega) (by omega) (by omega) rfl
  refine iX7_topples rfl ?_
  intro Z hZ
  iterate 7 (first | refine hZ _ _ _ _ ⟨rfl, ?_⟩ | refine hZ _ _ _ _ ⟨_, _, (by repeat (first | exact up_s | assumption | refine up_n (by omega) ?_)), adl (by omega), (by rfl), ?_⟩ | refine hZ _ _ _ _ ⟨_, _, (by repeat (first | exact up_s | assumption | refine up_n (by omega) ?_)), adl (by omega), (by first | assumption | exact vp_in_nI (by omega) (by omega)), ?_⟩ | refine hZ _ _ _ _ ⟨_, (by repeat (first | exact up_s | assumption | refine up_n (by omega) ?_)), adl (by omega), (by rfl), trivial, ?_⟩ | refine hZ _ _ _ _ ⟨trivial, ?_⟩ | refine hZ _ _ _ _ ⟨_, _, _, _, (by repeat (first | exact up_s | assumption | refine up_n (by omega) ?_)), (by first | exact Or.inr (Or.inr rfl) | exact Or.inr (Or.inl rfl) | exact Or.inl rfl), adl (by omega), (by first | assumption | exact vp_in_nI (by omega) (by omega)), (by first | exact rowsF_at (by omega) | exact shF_at (by omega)), ?_⟩ | refine hZ _ _ _ _ ?_)
  show Z _ 9 _ _
  refine hZ _ _ _ _ ⟨⟨_, (by repeat (first | exact up_s | assumption | refine up_n (by omega) ?_))⟩, adl (by omega), rfl, ?_⟩
  refine m_degree M G hn hpn ?_
  show Z _ 12 _ _
  iterate 4 (first | refine hZ _ _ _ _ ⟨rfl, ?_⟩ | refine hZ _ _ _ _ ⟨_, _, (by repeat (first | exact up_s | assumption | refine up_n (by omega) ?_)), adl (by omega), (by rfl), ?_⟩ | refine hZ _ _ _ _ ⟨_, _, (by repeat (first | exact up_s | assumption | refine up_n (by omega) ?_)), adl (by omega), (by first | assumption | exact vp_in_nI (by omega) (by omega)), ?_⟩ | refine hZ _ _ _ _ ⟨_, (by repeat (first | exact up_s | assumption | refine up_n (by omega) ?_)), adl (by omega), (by rfl), trivial, ?_⟩ | refine hZ _ _ _ _ ⟨trivial, ?_⟩ | refine hZ _ _ _ _ ⟨_, _, _, _, (by repeat (first | exact up_s | assumption | refine up_n (by omega) ?_)), (by first | exact Or.inr (Or.inr rfl) | exact Or.inr (Or.inl rfl) | exact Or.inl rfl), adl (by omega), (by first | assumption | exact vp_in_nI (by omega) (by omega)), (by first | exact rowsF_at (by omega) | exact shF_at (by omega)), ?_⟩ | refine hZ _ _ _ _ ?_)
  show Z _ 16 _ _
  rw [nI_clamp (by omega), hX p hpn, pk_sub hd]
  have M1 := M.arr (k := 67) (m := 5) (f := upd (A 67) p (nI (y p - dgr n a w p))) (by omega) (by omega) (by omega) rfl
  have loop : ∀ e q h3 f3, q + e = n → MM h3 fl tr (nI n) fa to at' rp dF' dT dS rd (updA A 67 f3) L → Fr 61 82 h h3 → (∀ i, i < q → f3 i = nI (tpl a (dgr n a w) y p 1 i)) → (∀ i, q ≤ i → i < n → f3 i = nI (if i = p then y p - dgr n a w p else y i)) → Z h3 16 [some (.ref 61), some (.int (nI p)), some (.int (nI q))] [] := by
    intro e
    induction e with
    | zero =>
      intro q h3 f3 hq M3 F3 hf1 hf2
      have m30 := M3.1
      have m366 := M3.at (j := 66) (m := 5) (by omega) (by omega) (by omega) rfl
      have m374 := M3.at (j := 74) (m := 5) (by omega) (by omega) (by omega) rfl
      rw [updA_n (by decide)] at m366 m374
      repeat (first | refine hZ _ _ _ _ ⟨rfl, ?_⟩ | refine hZ _ _ _ _ ⟨_, _, (by repeat (first | exact up_s | assumption | refine up_n (by omega) ?_)), adl (by omega), (by rfl), ?_⟩ | refine hZ _ _ _ _ ⟨_, _, (by repeat (first | exact up_s | assumption | refine up_n (by omega) ?_)), adl (by omega), (by first | assumption | exact vp_in_nI (by omega) (by omega)), ?_⟩ | refine hZ _ _ _ _ ⟨_, (by repeat (first | exact up_s | assumption | refine up_n (by omega) ?_)), adl (by omega), (by rfl), trivial, ?_⟩ | refine hZ _ _ _ _ ⟨trivial, ?_⟩ | refine hZ _ _ _ _ ⟨_, _, _, _, (by repeat (first | exact up_s | assumption | refine up_n (by omega) ?_)), (by first | exact Or.inr (Or.inr rfl) | exact Or.inr (Or.inl rfl) | exact Or.inl rfl), adl (by omega), (by first | assumption | exact vp_in_nI (by omega) (by omega)), (by first | exact rowsF_at (by omega) | exact shF_at (by omega)), ?_⟩ | refine hZ _ _ _ _ ?_)
      refine ⟨fun c => ?_, fun c => absurd (nI_le (by omega) (by omega)) c⟩
      iterate 23 (first | refine hZ _ _ _ _ ⟨rfl, ?_⟩ | refine hZ _ _ _ _ ⟨_, _, (by repeat (first | exact up_s | assumption | refine up_n (by omega) ?_)), adl (by omega), (by rfl), ?_⟩ | refine hZ _ _ _ _ ⟨_, _, (by repeat (first | exact up_s | assumption | refine up_n (by omega) ?_)), adl (by omega), (by first | assumption | exact vp_in_nI (by omega) (by omega)), ?_⟩ | refine hZ _ _ _ _ ⟨_, (by repeat (first | exact up_s | assumption | refine up_n (by omega) ?_)), adl (by omega), (by rfl), trivial, ?_⟩ | refine hZ _ _ _ _ ⟨trivial, ?_⟩ | refine hZ _ _ _ _ ⟨_, _, _, _, (by repeat (first | exact up_s | assumption | refine up_n (by omega) ?_)), (by first | exact Or.inr (Or.inr rfl) | exact Or.inr (Or.inl rfl) | exact Or.inl rfl), adl (by omega), (by first | assumption | exact vp_in_nI (by omega) (by omega)), (by first | exact rowsF_at (by omega) | exact shF_at (by omega)), ?_⟩ | refine hZ _ _ _ _ ?_)
      show Z _ 86 _ _
      rw [nI_clamp (by omega), G.2.1 p hpn, lit_1, shl_bit (by omega)]
      generalize hh4 : va_up (va_up (va_up h3 61 _) 61 _) 61 _ = h4
      have M4 : MM h4 fl tr (nI n) fa to at' rp (dF' + nI (w p)) (dT + nI 1) (dS ||| nI (2 ^ p)) rd (updA A 67 f3) L := by
        rw [← hh4]
        exact M3.obj.obj.obj
      have F4 : Fr 61 82 h h4 := by
        rw [← hh4]
        exact ((F3.up (by omega) (by omega)).up (by omega) (by omega)).up (by omega) (by omega)
      have m40 := M4.1
      have m474 := M4.at (j := 74) (m := 5) (by omega) (by omega) (by omega) rfl
      rw [updA_n (by decide)] at m474
      repeat (first | refine hZ _ _ _ _ ⟨rfl, ?_⟩ | refine hZ _ _ _ _ ⟨_, _, (by repeat (first | exact up_s | assumption | refine up_n (by omega) ?_)), adl (by omega), (by rfl), ?_⟩ | refine hZ _ _ _ _ ⟨_, _, (by repeat (first | exact up_s | assumption | refine up_n (by omega) ?_)), adl (by omega), (by first | assumption | exact vp_in_nI (by omega) (by omega)), ?_⟩ | refine hZ _ _ _ _ ⟨_, (by repeat (first | exact up_s | assumption | refine up_n (by omega) ?_)), adl (by omega), (by rfl), trivial, ?_⟩ | refine hZ _ _ _ _ ⟨trivial, ?_⟩ | refine hZ _ _ _ _ ⟨_, _, _, _, (by repeat (first | exact up_s | assumption | refine up_n (by omega) ?_)), (by first | exact Or.inr (Or.inr rfl) | exact Or.inr (Or.inl rfl) | exact Or.inl rfl), adl (by omega), (by first | assumption | exact vp_in_nI (by omega) (by omega)), (by first | exact rowsF_at (by omega) | exact shF_at (by omega)), ?_⟩ | refine hZ _ _ _ _ ?_)
      rw [nI_clamp (by omega), lit_1]
      exact hp _ f3 (F4.up (by omega) (by omega)) (M4.arr (by omega) (by omega) (by omega) rfl) (fun i hi => hf1 i (by omega))
    | succ e ih =>
      intro q h3 f3 hq M3 F3 hf1 hf2
      have m30 := M3.1
      have m367 := M3.at (j := 67) (m := 5) (by omega) (by omega) (by omega) rfl
      have m369 := M3.at (j := 69) (m := 25) (by omega) (by omega) (by omega) rfl
      rw [updA_s] at m367
      rw [updA_n (by decide)] at m369
      repeat (first | refine hZ _ _ _ _ ⟨rfl, ?_⟩ | refine hZ _ _ _ _ ⟨_, _, (by repeat (first | exact up_s | assumption | refine up_n (by omega) ?_)), adl (by omega), (by rfl), ?_⟩ | refine hZ _ _ _ _ ⟨_, _, (by repeat (first | exact up_s | assumption | refine up_n (by omega) ?_)), adl (by omega), (by first | assumption | exact vp_in_nI (by omega) (by omega)), ?_⟩ | refine hZ _ _ _ _ ⟨_, (by repeat (first | exact up_s | assumption | refine up_n (by omega) ?_)), adl (by omega), (by rfl), trivial, ?_⟩ | refine hZ _ _ _ _ ⟨trivial, ?_⟩ | refine hZ _ _ _ _ ⟨_, _, _, _, (by repeat (first | exact up_s | assumption | refine up_n (by omega) ?_)), (by first | exact Or.inr (Or.inr rfl) | exact Or.inr (Or.inl rfl) | exact Or.inl rfl), adl (by omega), (by first | assumption | exact vp_in_nI (by omega) (by omega)), (by first | exact rowsF_at (by omega) | exact shF_at (by omega)), ?_⟩ | refine hZ _ _ _ _ ?_)
      refine ⟨fun c => absurd c (nI_ge (by omega) (by omega)), fun c => ?_⟩
      iterate 12 (first | refine hZ _ _ _ _ ⟨rfl, ?_⟩ | refine hZ _ _ _ _ ⟨_, _, (by repeat (first | exact up_s | assumption | refine up_n (by omega) ?_)), adl (by omega), (by rfl), ?_⟩ | refine hZ _ _ _ _ ⟨_, _, (by repeat (first | exact up_s | assumption | refine up_n (by omega) ?_)), adl (by omega), (by first | assumption | exact vp_in_nI (by omega) (by omega)), ?_⟩ | refine hZ _ _ _ _ ⟨_, (by repeat (first | exact up_s | assumption | refine up_n (by omega) ?_)), adl (by omega), (by rfl), trivial, ?_⟩ | refine hZ _ _ _ _ ⟨trivial, ?_⟩ | refine hZ _ _ _ _ ⟨_, _, _, _, (by repeat (first | exact up_s | assumption | refine up_n (by omega) ?_)), (by first | exact Or.inr (Or.inr rfl) | exact Or.inr (Or.inl rfl) | exact Or.inl rfl), adl (by omega), (by first | assumption | exact vp_in_nI (by omega) (by omega)), (by first | exact rowsF_at (by omega) | exact shF_at (by omega)), ?_⟩ | refine hZ _ _ _ _ ?_)
      show Z _ 40 _ _
      rw [lit_5, pk_mul, nI_add]
      iterate 5 (first | refine hZ _ _ _ _ ⟨rfl, ?_⟩ | refine hZ _ _ _ _ ⟨_, _, (by repeat (first | exact up_s | assumption | refine up_n (by omega) ?_)), adl (by omega), (by rfl), ?_⟩ | refine hZ _ _ _ _ ⟨_, _, (by repeat (first | exact up_s | assumption | refine up_n (by omega) ?_)), adl (by omega), (by first | assumption | exact vp_in_nI (by omega) (by omega)), ?_⟩ | refine hZ _ _ _ _ ⟨_, (by repeat (first | exact up_s | assumption | refine up_n (by omega) ?_)), adl (by omega), (by rfl), trivial, ?_⟩ | refine hZ _ _ _ _ ⟨trivial, ?_⟩ | refine hZ _ _ _ _ ⟨_, _, _, _, (by repeat (first | exact up_s | assumption | refine up_n (by omega) ?_)), (by first | exact Or.inr (Or.inr rfl) | exact Or.inr (Or.inl rfl) | exact Or.inl rfl), adl (by omega), (by first | assumption | exact vp_in_nI (by omega) (by omega)), (by first | exact rowsF_at (by omega) | exact shF_at (by omega)), ?_⟩ | refine hZ _ _ _ _ ?_)
      show Z _ 16 _ _
      rw [nI_inc, nI_clamp (show q < 2 ^ 31 by omega), nI_clamp (show 5 * p + q < 2 ^ 31 by omega), G.2.2 p q hpn (by omega), hf2 q (by omega) (by omega), nI_add]
      have M4 := M3.arr (k := 67) (m := 5) (f := upd f3 q (nI ((if q = p then y p - dgr n a w p else y q) + a p q))) (by omega) (by omega) (by omega) rfl
      rw [show updA (updA A 67 f3) 67 (upd f3 q (nI ((if q = p then y p - dgr n a w p else y q) + a p q))) = updA A 67 (upd f3 q (nI ((if q = p then y p - dgr n a w p else y q) + a p q))) from funext (fun j => by
        unfold updA
        split <;> rfl)] at M4
      refine ih (q + 1) _ _ (by omega) M4 (F3.up (by omega) (by omega)) (fun i hi => ?_) (fun i h1 h2 => ?_)
      · by_cases e9 : i = q
        · rw [upd_s e9, e9]
          unfold tpl
          by_cases e8 : q = p
          · rw [if_pos e8, if_pos e8, e8, h0, Nat.add_zero, Nat.one_mul]
          · rw [if_neg e8, if_neg e8, Nat.one_mul]
        · rw [pk_un e9]; exact hf1 i (by omega)
      · rw [pk_un (by omega)]; exact hf2 i (by omega) h2
  refine loop n 0 _ _ (by omega) M1 (Fr.rf.up (by omega) (by omega)) (fun i hi => by omega) (fun i _ h2 => ?_)
  by_cases e9 : i = p
  · rw [upd_s e9, if_pos e9]
  · rw [pk_un e9, if_neg e9, hX i h2]
