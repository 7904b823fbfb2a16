/-! ===== from the entry to the loop ===== -/
def h00 : AH := fun k => match k with
  | 0 => .inr (6, [.ref 1, .ref 2, .ref 11, .ref 13, .ref 21, .ref 24, .ref 25, .ref 36, .ref 47, .ref 50, .int 0, .int 0])
  | 1 => .inl (2, 4, .inr (.inr (.inr (.inr shF))))
  | 2 => .inr (3, [.ref 3, .ref 4, .ref 5, .ref 8, .int 0])
  | 3 => .inl (0, 8, .inl (fun _ => 0))
  | 4 => .inl (0, 8, .inl (fun _ => 0))
  | 5 => .inr (2, [.ref 6, .ref 7, .int 0, .int 0])
  | 6 => .inl (0, 5, .inl (fun _ => 0))
  | 7 => .inl (0, 5, .inl (fun _ => 0))
  | 8 => .inr (2, [.ref 9, .ref 10, .int 0, .int 0])
  | 9 => .inl (0, 5, .inl (fun _ => 0))
  | 10 => .inl (0, 5, .inl (fun _ => 0))
  | 11 => .inr (5, [.ref 12, .int 0, .int 0, .int 0])
  | 12 => .inl (0, 60, .inl (fun _ => 0))
  | 13 => .inr (0, [.ref 14, .ref 20, .int 0])
  | 14 => .inl (4, 5, .inr (.inr (.inr (.inr (rowsF 15)))))
  | 15 => .inl (1, 6, .inr (.inl (fun _ => 0)))
  | 16 => .inl (1, 6, .inr (.inl (fun _ => 0)))
  | 17 => .inl (1, 6, .inr (.inl (fun _ => 0)))
  | 18 => .inl (1, 6, .inr (.inl (fun _ => 0)))
  | 19 => .inl (1, 6, .inr (.inl (fun _ => 0)))
  | 20 => .inl (1, 5, .inr (.inl (fun _ => 0)))
  | 21 => .inr (2, [.ref 22, .ref 23, .int 0, .int 0])
  | 22 => .inl (0, 5, .inl (fun _ => 0))
  | 23 => .inl (0, 5, .inl (fun _ => 0))
  | 24 => .inl (0, 501, .inl (fun _ => 0))
  | 25 => .inr (1, [.ref 26, .ref 32, .ref 33, .ref 34, .ref 35, .int 0])
  | 26 => .inl (3, 5, .inr (.inr (.inr (.inr (rowsF 27)))))
  | 27 => .inl (0, 5, .inl (fun _ => 0))
  | 28 => .inl (0, 5, .inl (fun _ => 0))
  | 29 => .inl (0, 5, .inl (fun _ => 0))
  | 30 => .inl (0, 5, .inl (fun _ => 0))
  | 31 => .inl (0, 5, .inl (fun _ => 0))
  | 32 => .inl (0, 5, .inl (fun _ => 0))
  | 33 => .inl (0, 5, .inl (fun _ => 0))
  | 34 => .inl (0, 5, .inl (fun _ => 0))
  | 35 => .inl (0, 5, .inl (fun _ => 0))
  | 36 => .inr (1, [.ref 37, .ref 43, .ref 44, .ref 45, .ref 46, .int 0])
  | 37 => .inl (3, 5, .inr (.inr (.inr (.inr (rowsF 38)))))
  | 38 => .inl (0, 5, .inl (fun _ => 0))
  | 39 => .inl (0, 5, .inl (fun _ => 0))
  | 40 => .inl (0, 5, .inl (fun _ => 0))
  | 41 => .inl (0, 5, .inl (fun _ => 0))
  | 42 => .inl (0, 5, .inl (fun _ => 0))
  | 43 => .inl (0, 5, .inl (fun _ => 0))
  | 44 => .inl (0, 5, .inl (fun _ => 0))
  | 45 => .inl (0, 5, .inl (fun _ => 0))
  | 46 => .inl (0, 5, .inl (fun _ => 0))
  | 47 => .inr (2, [.ref 48, .ref 49, .int 0, .int 0])
  | 48 => .inl (0, 5, .inl (fun _ => 0))
  | 49 => .inl (0, 5, .inl (fun _ => 0))
  | 50 => .inr (2, [.ref 51, .ref 52, .int 0, .int 0])
  | 51 => .inl (0, 5, .inl (fun _ => 0))
  | 52 => .inl (0, 5, .inl (fun _ => 0))
  | 53 => .inr (4, [.ref 54, .int (-1), .int 0])
  | 54 => .inl (0, 60, .inl (fun _ => 0))
  | 55 => .inr (4, [.ref 56, .int (-1), .int 0])
  | 56 => .inl (0, 60, .inl (fun _ => 0))
  | 57 => .inr (4, [.ref 58, .int (-1), .int 0])
  | 58 => .inl (0, 60, .inl (fun _ => 0))
  | 59 => .inr (4, [.ref 60, .int (-1), .int 0])
  | 60 => .inl (0, 60, .inl (fun _ => 0))
  | 61 => .inr (7, [.int 0, .int 0, .ref 62, .ref 63, .ref 64, .int 0, .int 0, .int 0, .ref 65, .ref 66, .ref 67, .ref 68, .ref 69, .int 0, .int 0, .ref 70, .ref 71, .ref 72, .ref 73, .int 0, .int 0, .int 0, .ref 74, .ref 75, .ref 76, .ref 77, .ref 78, .ref 79, .int 0, .ref 80, .ref 81])
  | 62 => .inl (0, 4, .inl (upd (upd (upd (upd (fun _ => 0) 0 (-9)) 1 (-9)) 2 (-9)) 3 (-9)))
  | 63 => .inl (0, 4, .inl (fun _ => 0))
  | 64 => .inl (0, 240, .inl (fun _ => 0))
  | 65 => .inl (0, 5, .inl (fun _ => 0))
  | 66 => .inl (0, 5, .inl (fun _ => 0))
  | 67 => .inl (0, 5, .inl (fun _ => 0))
  | 68 => .inl (0, 5, .inl (fun _ => 0))
  | 69 => .inl (0, 25, .inl (fun _ => 0))
  | 70 => .inl (0, 5, .inl (fun _ => 0))
  | 71 => .inl (0, 5, .inl (fun _ => 0))
  | 72 => .inl (0, 5, .inl (fun _ => 0))
  | 73 => .inl (0, 25, .inl (fun _ => 0))
  | 74 => .inl (0, 5, .inl (fun _ => 0))
  | 75 => .inl (0, 5, .inl (fun _ => 0))
  | 76 => .inl (0, 2505, .inl (fun _ => 0))
  | 77 => .inl (0, 5, .inl (fun _ => 0))
  | 78 => .inl (1, 25, .inr (.inl (fun _ => 0)))
  | 79 => .inl (0, 5, .inl (fun _ => 0))
  | 80 => .inl (0, 8, .inl (fun _ => 0))
  | 81 => .inl (0, 8, .inl (fun _ => 0))
  | _ => .inr (0, [])
def ad3 (u1 u2 : Nat → Nat) (b : Nat) : Nat → Nat := fun k => match Nat.blt k 61 with
  | true => u1 k
  | false => match Nat.blt k 82 with
    | true => u2 (k - 61)
    | false => b
def ca3 (v1 v2 : Nat → ClassId) : Nat → ClassId := fun k => match Nat.blt k 61 with
  | true => v1 k
  | false => v2 (k - 61)
theorem row_ad {u1 u2 : Nat → Nat} {b g : Nat} (hg : g + 5 ≤ 61) : rowq u1 g = fun i => (rowsF g i).map (ad3 u1 u2 b) := funext (fun i => by
  unfold rowq rowsF
  by_cases hi : i < 5
  · rw [if_pos hi, if_pos hi]
    show some (u1 (g + i)) = some (ad3 u1 u2 b (g + i))
    unfold ad3
    rw [show Nat.blt (g + i) 61 = true from by rw [Nat.blt_eq]; omega]
  · rw [if_neg hi, if_neg hi]
    rfl)
theorem sh_ad {u1 u2 : Nat → Nat} {b : Nat} : va_up (va_up (va_up (va_up (fun _ => none) 0 (some (u1 53))) 1 (some (u1 55))) 2 (some (u1 57))) 3 (some (u1 59)) = fun i => (shF i).map (ad3 u1 u2 b) := funext (fun i => by
  unfold va_up shF
  by_cases h3 : i = 3
  · subst h3; rfl
  · by_cases h2 : i = 2
    · subst h2; rfl
    · by_cases h1 : i = 1
      · subst h1; rfl
      · by_cases h0 : i = 0
        · subst h0; rfl
        · rw [if_neg h3, if_neg h2, if_neg h1, if_neg h0, if_neg (by omega)]
          rfl)
set_option maxHeartbeats 8000000 in
set_option maxRecDepth 100000 in
theorem wl_eq (u1 u2 : Nat → Nat) (v1 v2 : Nat → ClassId) (b : Nat) : wlX6 u1 v1 ++ wlX7 u2 v2 = av_ws (ad3 u1 u2 b) (ca3 v1 v2) 82 h00 := by
  unfold wlX6
  rw [sh_ad (u1 := u1) (u2 := u2) (b := b), row_ad (u2 := u2) (b := b) (g := 15) (by omega), row_ad (u2 := u2) (b := b) (g := 27) (by omega), row_ad (u2 := u2) (b := b) (g := 38) (by omega)]
  rfl
set_option maxHeartbeats 8000000 in
set_option maxRecDepth 100000 in
theorem ao_all {D : va_G} {s : State} {v1 v2 : Nat → ClassId} (hK : va_K D vwCl (tyl6 v1 ++ tyl7 v2) s) : ∀ k, k < 82 → av_ao s (ca3 v1 v2 k) (h00 k) := fun k hk => match k, hk with
  | 0, _ => trivial
  | 1, _ => hK.2 0 _ rfl
  | 2, _ => trivial
  | 3, _ => hK.2 1 _ rfl
  | 4, _ => hK.2 2 _ rfl
  | 5, _ => trivial
  | 6, _ => hK.2 3 _ rfl
  | 7, _ => hK.2 4 _ rfl
  | 8, _ => trivial
  | 9, _ => hK.2 5 _ rfl
  | 10, _ => hK.2 6 _ rfl
  | 11, _ => trivial
  | 12, _ => hK.2 7 _ rfl
  | 13, _ => trivial
  | 14, _ => hK.2 8 _ rfl
  | 15, _ => hK.2 9 _ rfl
  | 16, _ => hK.2 10 _ rfl
  | 17, _ => hK.2 11 _ rfl
  | 18, _ => hK.2 12 _ rfl
  | 19, _ => hK.2 13 _ rfl
  | 20, _ => hK.2 14 _ rfl
  | 21, _ => trivial
  | 22, _ => hK.2 15 _ rfl
  | 23, _ => hK.2 16 _ rfl
  | 24, _ => hK.2 17 _ rfl
  | 25, _ => trivial
  | 26, _ => hK.2 18 _ rfl
  | 27, _ => hK.2 19 _ rfl
  | 28, _ => hK.2 20 _ rfl
  | 29, _ => hK.2 21 _ rfl
  | 30, _ => hK.2 22 _ rfl
  | 31, _ => hK.2 23 _ rfl
  | 32, _ => hK.2 24 _ rfl
  | 33, _ => hK.2 25 _ rfl
  | 34, _ => hK.2 26 _ rfl
  | 35, _ => hK.2 27 _ rfl
  | 36, _ => trivial
  | 37, _ => hK.2 28 _ rfl
  | 38, _ => hK.2 29 _ rfl
  | 39, _ => hK.2 30 _ rfl
  | 40, _ => hK.2 31 _ rfl
  | 41, _ => hK.2 32 _ rfl
  | 42, _ => hK.2 33 _ rfl
  | 43, _ => hK.2 34 _ rfl
  | 44, _ => hK.2 35 _ rfl
  | 45, _ => hK.2 36 _ rfl
  | 46, _ => hK.2 37 _ rfl
  | 47, _ => trivial
  | 48, _ => hK.2 38 _ rfl
  | 49, _ => hK.2 39 _ rfl
  | 50, _ => trivial
  | 51, _ => hK.2 40 _ rfl
  | 52, _ => hK.2 41 _ rfl
  | 53, _ => trivial
  | 54, _ => hK.2 42 _ rfl
  | 55, _ => trivial
  | 56, _ => hK.2 43 _ rfl
  | 57, _ => trivial
  | 58, _ => hK.2 44 _ rfl
  | 59, _ => trivial
  | 60, _ => hK.2 45 _ rfl
  | 61, _ => trivial
  | 62, _ => hK.2 46 _ rfl
  | 63, _ => hK.2 47 _ rfl
  | 64, _ => hK.2 48 _ rfl
  | 65, _ => hK.2 49 _ rfl
  | 66, _ => hK.2 50 _ rfl
  | 67, _ => hK.2 51 _ rfl
  | 68, _ => hK.2 52 _ rfl
  | 69, _ => hK.2 53 _ rfl
  | 70, _ => hK.2 54 _ rfl
  | 71, _ => hK.2 55 _ rfl
  | 72, _ => hK.2 56 _ rfl
  | 73, _ => hK.2 57 _ rfl
  | 74, _ => hK.2 58 _ rfl
  | 75, _ => hK.2 59 _ rfl
  | 76, _ => hK.2 60 _ rfl
  | 77, _ => hK.2 61 _ rfl
  | 78, _ => hK.2 62 _ rfl
  | 79, _ => hK.2 63 _ rfl
  | 80, _ => hK.2 64 _ rfl
  | 81, _ => hK.2 65 _ rfl
  | k + 82, h => absurd h (by omega)
/-- nothing was told yet -/
def s00 : St := ((0, fun _ _ => 0, fun _ => 0, fun _ => 0), (fun _ => 0, fun _ => 0, 0, 0), (0, fun _ => 0, fun _ => 0), (fun _ => 3, fun _ => 0, fun _ _ => 0), 0, 0)
theorem five {P : Nat → Prop} (h0 : P 0) (h1 : P 1) (h2 : P 2) (h3 : P 3) (h4 : P 4) : ∀ i, i < 5 → P i := fun i hi => by
  rcases lt5 hi with e | e | e | e | e <;> subst e
  · exact h0
  · exact h1
  · exact h2
  · exact h3
  · exact h4
theorem ok00 : Ok s00 := ⟨Or.inl rfl, Nat.zero_le _, fun j hj => absurd hj (Nat.not_lt_zero j), Nat.zero_le _, fun _ _ => ⟨Nat.le_refl 3, Nat.zero_le _⟩⟩
theorem hp00 {k : Nat} (hk : k + 2 < 82) (h0 : h00 k = .inr (2, [.ref (k + 1), .ref (k + 2), .int 0, .int 0])) (h1 : h00 (k + 1) = .inl (0, 5, .inl (fun _ => 0))) (h2 : h00 (k + 2) = .inl (0, 5, .inl (fun _ => 0))) : Hp 82 h00 k (fun _ => 0) (fun _ => 0) 0 0 := ⟨hk, h0, h1, h2⟩
theorem gd25 : Gd 82 h00 25 (nI 0) (fun _ _ => 0) (fun _ => 0) (fun _ => 0) (fun _ => 0) (fun _ => 0) := ⟨by omega, rfl, rfl, five rfl rfl rfl rfl rfl, rfl, rfl, rfl, rfl⟩
theorem gd36 : Gd 82 h00 36 (nI 0) (fun _ _ => 0) (fun _ => 0) (fun _ => 0) (fun _ => 0) (fun _ => 0) := ⟨by omega, rfl, rfl, five rfl rfl rfl rfl rfl, rfl, rfl, rfl, rfl⟩
theorem cy00 : CY h00 s00 := by
  refine ⟨25, 36, 47, 50, ⟨Or.inl ⟨rfl, rfl⟩, Or.inl ⟨rfl, rfl⟩⟩, rfl, ⟨rfl, fun j hj => ?_⟩, ⟨fun _ => 0, fun _ => 0, ⟨by omega, rfl, rfl, rfl⟩, fun j hj => absurd hj (Nat.not_lt_zero j), ⟨_, _, _, _, hp00 (k := 5) (by omega) rfl rfl rfl⟩, ⟨_, _, _, _, hp00 (k := 8) (by omega) rfl rfl rfl⟩⟩, ⟨⟨0, 0, 0, fun _ => 0, by omega, rfl, rfl⟩, ⟨0, fun _ _ => 0, fun _ => 0, by omega, rfl, rfl, five rfl rfl rfl rfl rfl, rfl⟩, ⟨_, _, _, _, hp00 (k := 21) (by omega) rfl rfl rfl⟩, fun _ => 0, rfl⟩, ⟨_, _, _, _, _, gd25, fun _ _ => rfl, fun p q hp => absurd hp (Nat.not_lt_zero p), fun p hp => absurd hp (Nat.not_lt_zero p), fun p hp => absurd hp (Nat.not_lt_zero p), fun p hp => absurd hp (Nat.not_lt_zero p), fun p hp => absurd hp (Nat.not_lt_zero p)⟩, ⟨_, _, _, _, _, _, gd36, fun _ _ => rfl⟩, ⟨_, _, hp00 (k := 47) (by omega) rfl rfl rfl, fun q hq => absurd hq (Nat.not_lt_zero q), fun q hq => absurd hq (Nat.not_lt_zero q)⟩, ⟨_, _, _, _, hp00 (k := 50) (by omega) rfl rfl rfl⟩⟩
  have h4 : j = 0 ∨ j = 1 ∨ j = 2 ∨ j = 3 := by omega
  rcases h4 with e | e | e | e <;> subst e
  · exact ⟨0, fun _ => 0, ⟨by omega, rfl, rfl⟩, fun h => absurd h (by decide)⟩
  · exact ⟨0, fun _ => 0, ⟨by omega, rfl, rfl⟩, fun h => absurd h (by decide)⟩
  · exact ⟨0, fun _ => 0, ⟨by omega, rfl, rfl⟩, fun h => absurd h (by decide)⟩
  · exact ⟨0, fun _ => 0, ⟨by omega, rfl, rfl⟩, fun h => absurd h (by decide)⟩
def so00 : Nat → Int32 := upd (upd (upd (upd (fun _ => 0) 0 (-9)) 1 (-9)) 2 (-9)) 3 (-9)
theorem my00 : MY h00 s00 := by
  refine ⟨0, 0, 0, 0, 0, fun j => if j = 62 then so00 else fun _ => 0, fun _ => 0, ⟨rfl, rfl, fun j h1 h2 h3 => ?_⟩, ⟨fun p hp => absurd hp (Nat.not_lt_zero p), fun p hp => absurd hp (Nat.not_lt_zero p), fun p q hp => absurd hp (Nat.not_lt_zero p)⟩, fun p hp => absurd hp (Nat.not_lt_zero p), fun p hp => absurd hp (Nat.not_lt_zero p), fun p hp => absurd hp (Nat.not_lt_zero p), fun j hj => ⟨?_, fun h => absurd h (show ¬ 3 < 3 by decide)⟩, fun p _ => rfl⟩
  · have h9 : j = 62 ∨ j = 63 ∨ j = 64 ∨ j = 65 ∨ j = 66 ∨ j = 67 ∨ j = 68 ∨ j = 69 ∨ j = 70 ∨ j = 71 ∨ j = 72 ∨ j = 73 ∨ j = 74 ∨ j = 75 ∨ j = 76 ∨ j = 77 ∨ j = 79 ∨ j = 80 ∨ j = 81 := by omega
    rcases h9 with e | e | e | e | e | e | e | e | e | e | e | e | e | e | e | e | e | e | e <;> subst e <;> rfl
  · have h4 : j = 0 ∨ j = 1 ∨ j = 2 ∨ j = 3 := by omega
    rcases h4 with e | e | e | e <;> subst e <;> rfl
