/-! ===== the cases of the law ===== -/
theorem lcmp_rf (x : Int64) : lg_cmp x x = 0 := by
  unfold lg_cmp
  rw [if_neg Int64.lt_irrefl, if_pos rfl]
set_option maxHeartbeats 2000000 in
theorem bL0 {l : Launch} {L i : Nat} {xs : Nat → Int32} {Z : AH → Nat → List (Option Value) → List Value → Prop} (hZ : ∀ h pc ls st, FsL l rL0 L xs Z h pc ls st → Z h pc ls st) {h : AH} {s : St} (C : CY h s) (M : MY h s) (O : Ok s) (hb : gr s ≤ 58000) (hi : i + 6 ≤ L) (hL : L ≤ 3072) (kk : ∀ h' s', CY h' s' → MY h' s' → Kp s s' → Z h' 1054 [some (.ref 82), some (.ref 0), some (.ref 61), some (.int (nI i))] []) : Z h 164 [some (.ref 82), some (.ref 0), some (.ref 61), some (.int (nI i))] [] := by
  obtain ⟨f0, m0⟩ := C.obj
  iterate 5 (first | refine hZ _ _ _ _ ⟨rfl, ?_⟩ | refine hZ _ _ _ _ ⟨_, _, (by repeat (first | exact up_s | assumption | refine up_n (by omega) ?_)), adl (by omega), (by rfl), ?_⟩ | refine hZ _ _ _ _ ⟨_, _, (by repeat (first | exact up_s | assumption | refine up_n (by omega) ?_)), adl (by omega), (by first | assumption | exact vp_in_nI (by omega) (by omega)), ?_⟩ | refine hZ _ _ _ _ ⟨_, (by repeat (first | exact up_s | assumption | refine up_n (by omega) ?_)), adl (by omega), (by rfl), trivial, ?_⟩ | refine hZ _ _ _ _ ⟨trivial, ?_⟩ | refine hZ _ _ _ _ ⟨_, _, _, _, (by repeat (first | exact up_s | assumption | refine up_n (by omega) ?_)), (by first | exact Or.inr (Or.inr rfl) | exact Or.inr (Or.inl rfl) | exact Or.inl rfl), adl (by omega), (by first | assumption | exact vp_in_nI (by omega) (by omega)), (by first | exact rowsF_at (by omega) | exact shF_at (by omega)), ?_⟩ | refine hZ _ _ _ _ ?_)
  show Z _ 169 _ _
  rw [lit_1, nI_add]
  refine hZ _ _ _ _ ⟨rfl, vp_in_nI (by omega) (by omega), ?_⟩
  rw [nI_clamp (by omega)]
  show Z _ 170 _ _
  iterate 4 (first | refine hZ _ _ _ _ ⟨rfl, ?_⟩ | refine hZ _ _ _ _ ⟨_, _, (by repeat (first | exact up_s | assumption | refine up_n (by omega) ?_)), adl (by omega), (by rfl), ?_⟩ | refine hZ _ _ _ _ ⟨_, _, (by repeat (first | exact up_s | assumption | refine up_n (by omega) ?_)), adl (by omega), (by first | assumption | exact vp_in_nI (by omega) (by omega)), ?_⟩ | refine hZ _ _ _ _ ⟨_, (by repeat (first | exact up_s | assumption | refine up_n (by omega) ?_)), adl (by omega), (by rfl), trivial, ?_⟩ | refine hZ _ _ _ _ ⟨trivial, ?_⟩ | refine hZ _ _ _ _ ⟨_, _, _, _, (by repeat (first | exact up_s | assumption | refine up_n (by omega) ?_)), (by first | exact Or.inr (Or.inr rfl) | exact Or.inr (Or.inl rfl) | exact Or.inl rfl), adl (by omega), (by first | assumption | exact vp_in_nI (by omega) (by omega)), (by first | exact rowsF_at (by omega) | exact shF_at (by omega)), ?_⟩ | refine hZ _ _ _ _ ?_)
  show Z _ 174 _ _
  rw [lit_2, nI_add]
  refine hZ _ _ _ _ ⟨rfl, vp_in_nI (by omega) (by omega), ?_⟩
  rw [nI_clamp (by omega)]
  show Z _ 175 _ _
  iterate 4 (first | refine hZ _ _ _ _ ⟨rfl, ?_⟩ | refine hZ _ _ _ _ ⟨_, _, (by repeat (first | exact up_s | assumption | refine up_n (by omega) ?_)), adl (by omega), (by rfl), ?_⟩ | refine hZ _ _ _ _ ⟨_, _, (by repeat (first | exact up_s | assumption | refine up_n (by omega) ?_)), adl (by omega), (by first | assumption | exact vp_in_nI (by omega) (by omega)), ?_⟩ | refine hZ _ _ _ _ ⟨_, (by repeat (first | exact up_s | assumption | refine up_n (by omega) ?_)), adl (by omega), (by rfl), trivial, ?_⟩ | refine hZ _ _ _ _ ⟨trivial, ?_⟩ | refine hZ _ _ _ _ ⟨_, _, _, _, (by repeat (first | exact up_s | assumption | refine up_n (by omega) ?_)), (by first | exact Or.inr (Or.inr rfl) | exact Or.inr (Or.inl rfl) | exact Or.inl rfl), adl (by omega), (by first | assumption | exact vp_in_nI (by omega) (by omega)), (by first | exact rowsF_at (by omega) | exact shF_at (by omega)), ?_⟩ | refine hZ _ _ _ _ ?_)
  show Z _ 179 _ _
  rw [lit_3, nI_add]
  refine hZ _ _ _ _ ⟨rfl, vp_in_nI (by omega) (by omega), ?_⟩
  rw [nI_clamp (by omega)]
  show Z _ 180 _ _
  iterate 4 (first | refine hZ _ _ _ _ ⟨rfl, ?_⟩ | refine hZ _ _ _ _ ⟨_, _, (by repeat (first | exact up_s | assumption | refine up_n (by omega) ?_)), adl (by omega), (by rfl), ?_⟩ | refine hZ _ _ _ _ ⟨_, _, (by repeat (first | exact up_s | assumption | refine up_n (by omega) ?_)), adl (by omega), (by first | assumption | exact vp_in_nI (by omega) (by omega)), ?_⟩ | refine hZ _ _ _ _ ⟨_, (by repeat (first | exact up_s | assumption | refine up_n (by omega) ?_)), adl (by omega), (by rfl), trivial, ?_⟩ | refine hZ _ _ _ _ ⟨trivial, ?_⟩ | refine hZ _ _ _ _ ⟨_, _, _, _, (by repeat (first | exact up_s | assumption | refine up_n (by omega) ?_)), (by first | exact Or.inr (Or.inr rfl) | exact Or.inr (Or.inl rfl) | exact Or.inl rfl), adl (by omega), (by first | assumption | exact vp_in_nI (by omega) (by omega)), (by first | exact rowsF_at (by omega) | exact shF_at (by omega)), ?_⟩ | refine hZ _ _ _ _ ?_)
  show Z _ 184 _ _
  rw [lit_4, nI_add]
  refine hZ _ _ _ _ ⟨rfl, vp_in_nI (by omega) (by omega), ?_⟩
  rw [nI_clamp (by omega)]
  show Z _ 185 _ _
  refine hZ _ _ _ _ ⟨⟨_, (by repeat (first | exact up_s | assumption | refine up_n (by omega) ?_))⟩, adl (by omega), rfl, ?_⟩
  refine C_yard C O (fun h1 F1 C1 => ?_)
  show Z h1 188 _ _
  have M1 := M.fr F1 (by omega)
  obtain ⟨f1, m1⟩ := M1.obj
  iterate 5 (first | refine hZ _ _ _ _ ⟨rfl, ?_⟩ | refine hZ _ _ _ _ ⟨_, _, (by repeat (first | exact up_s | assumption | refine up_n (by omega) ?_)), adl (by omega), (by rfl), ?_⟩ | refine hZ _ _ _ _ ⟨_, _, (by repeat (first | exact up_s | assumption | refine up_n (by omega) ?_)), adl (by omega), (by first | assumption | exact vp_in_nI (by omega) (by omega)), ?_⟩ | refine hZ _ _ _ _ ⟨_, (by repeat (first | exact up_s | assumption | refine up_n (by omega) ?_)), adl (by omega), (by rfl), trivial, ?_⟩ | refine hZ _ _ _ _ ⟨trivial, ?_⟩ | refine hZ _ _ _ _ ⟨_, _, _, _, (by repeat (first | exact up_s | assumption | refine up_n (by omega) ?_)), (by first | exact Or.inr (Or.inr rfl) | exact Or.inr (Or.inl rfl) | exact Or.inl rfl), adl (by omega), (by first | assumption | exact vp_in_nI (by omega) (by omega)), (by first | exact rowsF_at (by omega) | exact shF_at (by omega)), ?_⟩ | refine hZ _ _ _ _ ?_)
  show Z _ 193 _ _
  rw [lit_1, nI_add]
  refine hZ _ _ _ _ ⟨rfl, vp_in_nI (by omega) (by omega), ?_⟩
  rw [nI_clamp (by omega)]
  show Z _ 194 _ _
  iterate 4 (first | refine hZ _ _ _ _ ⟨rfl, ?_⟩ | refine hZ _ _ _ _ ⟨_, _, (by repeat (first | exact up_s | assumption | refine up_n (by omega) ?_)), adl (by omega), (by rfl), ?_⟩ | refine hZ _ _ _ _ ⟨_, _, (by repeat (first | exact up_s | assumption | refine up_n (by omega) ?_)), adl (by omega), (by first | assumption | exact vp_in_nI (by omega) (by omega)), ?_⟩ | refine hZ _ _ _ _ ⟨_, (by repeat (first | exact up_s | assumption | refine up_n (by omega) ?_)), adl (by omega), (by rfl), trivial, ?_⟩ | refine hZ _ _ _ _ ⟨trivial, ?_⟩ | refine hZ _ _ _ _ ⟨_, _, _, _, (by repeat (first | exact up_s | assumption | refine up_n (by omega) ?_)), (by first | exact Or.inr (Or.inr rfl) | exact Or.inr (Or.inl rfl) | exact Or.inl rfl), adl (by omega), (by first | assumption | exact vp_in_nI (by omega) (by omega)), (by first | exact rowsF_at (by omega) | exact shF_at (by omega)), ?_⟩ | refine hZ _ _ _ _ ?_)
  show Z _ 198 _ _
  rw [lit_2, nI_add]
  refine hZ _ _ _ _ ⟨rfl, vp_in_nI (by omega) (by omega), ?_⟩
  rw [nI_clamp (by omega)]
  show Z _ 199 _ _
  iterate 4 (first | refine hZ _ _ _ _ ⟨rfl, ?_⟩ | refine hZ _ _ _ _ ⟨_, _, (by repeat (first | exact up_s | assumption | refine up_n (by omega) ?_)), adl (by omega), (by rfl), ?_⟩ | refine hZ _ _ _ _ ⟨_, _, (by repeat (first | exact up_s | assumption | refine up_n (by omega) ?_)), adl (by omega), (by first | assumption | exact vp_in_nI (by omega) (by omega)), ?_⟩ | refine hZ _ _ _ _ ⟨_, (by repeat (first | exact up_s | assumption | refine up_n (by omega) ?_)), adl (by omega), (by rfl), trivial, ?_⟩ | refine hZ _ _ _ _ ⟨trivial, ?_⟩ | refine hZ _ _ _ _ ⟨_, _, _, _, (by repeat (first | exact up_s | assumption | refine up_n (by omega) ?_)), (by first | exact Or.inr (Or.inr rfl) | exact Or.inr (Or.inl rfl) | exact Or.inl rfl), adl (by omega), (by first | assumption | exact vp_in_nI (by omega) (by omega)), (by first | exact rowsF_at (by omega) | exact shF_at (by omega)), ?_⟩ | refine hZ _ _ _ _ ?_)
  show Z _ 203 _ _
  rw [lit_3, nI_add]
  refine hZ _ _ _ _ ⟨rfl, vp_in_nI (by omega) (by omega), ?_⟩
  rw [nI_clamp (by omega)]
  show Z _ 204 _ _
  iterate 4 (first | refine hZ _ _ _ _ ⟨rfl, ?_⟩ | refine hZ _ _ _ _ ⟨_, _, (by repeat (first | exact up_s | assumption | refine up_n (by omega) ?_)), adl (by omega), (by rfl), ?_⟩ | refine hZ _ _ _ _ ⟨_, _, (by repeat (first | exact up_s | assumption | refine up_n (by omega) ?_)), adl (by omega), (by first | assumption | exact vp_in_nI (by omega) (by omega)), ?_⟩ | refine hZ _ _ _ _ ⟨_, (by repeat (first | exact up_s | assumption | refine up_n (by omega) ?_)), adl (by omega), (by rfl), trivial, ?_⟩ | refine hZ _ _ _ _ ⟨trivial, ?_⟩ | refine hZ _ _ _ _ ⟨_, _, _, _, (by repeat (first | exact up_s | assumption | refine up_n (by omega) ?_)), (by first | exact Or.inr (Or.inr rfl) | exact Or.inr (Or.inl rfl) | exact Or.inl rfl), adl (by omega), (by first | assumption | exact vp_in_nI (by omega) (by omega)), (by first | exact rowsF_at (by omega) | exact shF_at (by omega)), ?_⟩ | refine hZ _ _ _ _ ?_)
  show Z _ 208 _ _
  rw [lit_4, nI_add]
  refine hZ _ _ _ _ ⟨rfl, vp_in_nI (by omega) (by omega), ?_⟩
  rw [nI_clamp (by omega)]
  show Z _ 209 _ _
  refine hZ _ _ _ _ ⟨⟨_, (by repeat (first | exact up_s | assumption | refine up_n (by omega) ?_))⟩, adl (by omega), rfl, ?_⟩
  refine M_yard M1 O (fun h2 F2 M2 => ?_)
  show Z h2 212 _ _
  have C2 := C1.fr F2
  refine hZ _ _ _ _ ⟨fun _ => ?_, fun c9 => absurd rfl c9⟩
  exact kk h2 _ C2 M2 (K_yard O _ _ _ _)
set_option maxHeartbeats 2000000 in
theorem bL1 {l : Launch} {L i : Nat} {xs : Nat → Int32} {Z : AH → Nat → List (Option Value) → List Value → Prop} (hZ : ∀ h pc ls st, FsL l rL1 L xs Z h pc ls st → Z h pc ls st) {h : AH} {s : St} (C : CY h s) (M : MY h s) (O : Ok s) (hb : gr s ≤ 58000) (hi : i + 6 ≤ L) (hL : L ≤ 3072) (kk : ∀ h' s', CY h' s' → MY h' s' → Kp s s' → Z h' 1054 [some (.ref 82), some (.ref 0), some (.ref 61), some (.int (nI i))] []) : Z h 217 [some (.ref 82), some (.ref 0), some (.ref 61), some (.int (nI i))] [] := by
  obtain ⟨f0, m0⟩ := C.obj
  iterate 5 (first | refine hZ _ _ _ _ ⟨rfl, ?_⟩ | refine hZ _ _ _ _ ⟨_, _, (by repeat (first | exact up_s | assumption | refine up_n (by omega) ?_)), adl (by omega), (by rfl), ?_⟩ | refine hZ _ _ _ _ ⟨_, _, (by repeat (first | exact up_s | assumption | refine up_n (by omega) ?_)), adl (by omega), (by first | assumption | exact vp_in_nI (by omega) (by omega)), ?_⟩ | refine hZ _ _ _ _ ⟨_, (by repeat (first | exact up_s | assumption | refine up_n (by omega) ?_)), adl (by omega), (by rfl), trivial, ?_⟩ | refine hZ _ _ _ _ ⟨trivial, ?_⟩ | refine hZ _ _ _ _ ⟨_, _, _, _, (by repeat (first | exact up_s | assumption | refine up_n (by omega) ?_)), (by first | exact Or.inr (Or.inr rfl) | exact Or.inr (Or.inl rfl) | exact Or.inl rfl), adl (by omega), (by first | assumption | exact vp_in_nI (by omega) (by omega)), (by first | exact rowsF_at (by omega) | exact shF_at (by omega)), ?_⟩ | refine hZ _ _ _ _ ?_)
  show Z _ 222 _ _
  rw [lit_1, nI_add]
  refine hZ _ _ _ _ ⟨rfl, vp_in_nI (by omega) (by omega), ?_⟩
  rw [nI_clamp (by omega)]
  show Z _ 223 _ _
  iterate 4 (first | refine hZ _ _ _ _ ⟨rfl, ?_⟩ | refine hZ _ _ _ _ ⟨_, _, (by repeat (first | exact up_s | assumption | refine up_n (by omega) ?_)), adl (by omega), (by rfl), ?_⟩ | refine hZ _ _ _ _ ⟨_, _, (by repeat (first | exact up_s | assumption | refine up_n (by omega) ?_)), adl (by omega), (by first | assumption | exact vp_in_nI (by omega) (by omega)), ?_⟩ | refine hZ _ _ _ _ ⟨_, (by repeat (first | exact up_s | assumption | refine up_n (by omega) ?_)), adl (by omega), (by rfl), trivial, ?_⟩ | refine hZ _ _ _ _ ⟨trivial, ?_⟩ | refine hZ _ _ _ _ ⟨_, _, _, _, (by repeat (first | exact up_s | assumption | refine up_n (by omega) ?_)), (by first | exact Or.inr (Or.inr rfl) | exact Or.inr (Or.inl rfl) | exact Or.inl rfl), adl (by omega), (by first | assumption | exact vp_in_nI (by omega) (by omega)), (by first | exact rowsF_at (by omega) | exact shF_at (by omega)), ?_⟩ | refine hZ _ _ _ _ ?_)
  show Z _ 227 _ _
  rw [lit_2, nI_add]
  refine hZ _ _ _ _ ⟨rfl, vp_in_nI (by omega) (by omega), ?_⟩
  rw [nI_clamp (by omega)]
  show Z _ 228 _ _
  refine hZ _ _ _ _ ⟨⟨_, (by repeat (first | exact up_s | assumption | refine up_n (by omega) ?_))⟩, adl (by omega), rfl, ?_⟩
  refine C_ofPlace C O (fun h1 F1 C1 => ?_)
  show Z h1 231 _ _
  have M1 := M.fr F1 (by omega)
  obtain ⟨f1, m1⟩ := M1.obj
  iterate 5 (first | refine hZ _ _ _ _ ⟨rfl, ?_⟩ | refine hZ _ _ _ _ ⟨_, _, (by repeat (first | exact up_s | assumption | refine up_n (by omega) ?_)), adl (by omega), (by rfl), ?_⟩ | refine hZ _ _ _ _ ⟨_, _, (by repeat (first | exact up_s | assumption | refine up_n (by omega) ?_)), adl (by omega), (by first | assumption | exact vp_in_nI (by omega) (by omega)), ?_⟩ | refine hZ _ _ _ _ ⟨_, (by repeat (first | exact up_s | assumption | refine up_n (by omega) ?_)), adl (by omega), (by rfl), trivial, ?_⟩ | refine hZ _ _ _ _ ⟨trivial, ?_⟩ | refine hZ _ _ _ _ ⟨_, _, _, _, (by repeat (first | exact up_s | assumption | refine up_n (by omega) ?_)), (by first | exact Or.inr (Or.inr rfl) | exact Or.inr (Or.inl rfl) | exact Or.inl rfl), adl (by omega), (by first | assumption | exact vp_in_nI (by omega) (by omega)), (by first | exact rowsF_at (by omega) | exact shF_at (by omega)), ?_⟩ | refine hZ _ _ _ _ ?_)
  show Z _ 236 _ _
  rw [lit_1, nI_add]
  refine hZ _ _ _ _ ⟨rfl, vp_in_nI (by omega) (by omega), ?_⟩
  rw [nI_clamp (by omega)]
  show Z _ 237 _ _
  iterate 4 (first | refine hZ _ _ _ _ ⟨rfl, ?_⟩ | refine hZ _ _ _ _ ⟨_, _, (by repeat (first | exact up_s | assumption | refine up_n (by omega) ?_)), adl (by omega), (by rfl), ?_⟩ | refine hZ _ _ _ _ ⟨_, _, (by repeat (first | exact up_s | assumption | refine up_n (by omega) ?_)), adl (by omega), (by first | assumption | exact vp_in_nI (by omega) (by omega)), ?_⟩ | refine hZ _ _ _ _ ⟨_, (by repeat (first | exact up_s | assumption | refine up_n (by omega) ?_)), adl (by omega), (by rfl), trivial, ?_⟩ | refine hZ _ _ _ _ ⟨trivial, ?_⟩ | refine hZ _ _ _ _ ⟨_, _, _, _, (by repeat (first | exact up_s | assumption | refine up_n (by omega) ?_)), (by first | exact Or.inr (Or.inr rfl) | exact Or.inr (Or.inl rfl) | exact Or.inl rfl), adl (by omega), (by first | assumption | exact vp_in_nI (by omega) (by omega)), (by first | exact rowsF_at (by omega) | exact shF_at (by omega)), ?_⟩ | refine hZ _ _ _ _ ?_)
  show Z _ 241 _ _
  rw [lit_2, nI_add]
  refine hZ _ _ _ _ ⟨rfl, vp_in_nI (by omega) (by omega), ?_⟩
  rw [nI_clamp (by omega)]
  show Z _ 242 _ _
  refine hZ _ _ _ _ ⟨⟨_, (by repeat (first | exact up_s | assumption | refine up_n (by omega) ?_))⟩, adl (by omega), rfl, ?_⟩
  refine M_ofPlace M1 O (fun h2 F2 M2 => ?_)
  show Z h2 245 _ _
  have C2 := C1.fr F2
  refine hZ _ _ _ _ ⟨fun _ => ?_, fun c9 => absurd rfl c9⟩
  exact kk h2 s C2 M2 (Kp.rf O)
set_option maxHeartbeats 2000000 in
theorem bL2 {l : Launch} {L i : Nat} {xs : Nat → Int32} {Z : AH → Nat → List (Option Value) → List Value → Prop} (hZ : ∀ h pc ls st, FsL l rL2 L xs Z h pc ls st → Z h pc ls st) {h : AH} {s : St} (C : CY h s) (M : MY h s) (O : Ok s) (hb : gr s ≤ 58000) (hi : i + 6 ≤ L) (hL : L ≤ 3072) (kk : ∀ h' s', CY h' s' → MY h' s' → Kp s s' → Z h' 1054 [some (.ref 82), some (.ref 0), some (.ref 61), some (.int (nI i))] []) : Z h 250 [some (.ref 82), some (.ref 0), some (.ref 61), some (.int (nI i))] [] := by
  obtain ⟨f0, m0⟩ := C.obj
  iterate 5 (first | refine hZ _ _ _ _ ⟨rfl, ?_⟩ | refine hZ _ _ _ _ ⟨_, _, (by repeat (first | exact up_s | assumption | refine up_n (by omega) ?_)), adl (by omega), (by rfl), ?_⟩ | refine hZ _ _ _ _ ⟨_, _, (by repeat (first | exact up_s | assumption | refine up_n (by omega) ?_)), adl (by omega), (by first | assumption | exact vp_in_nI (by omega) (by omega)), ?_⟩ | refine hZ _ _ _ _ ⟨_, (by repeat (first | exact up_s | assumption | refine up_n (by omega) ?_)), adl (by omega), (by rfl), trivial, ?_⟩ | refine hZ _ _ _ _ ⟨trivial, ?_⟩ | refine hZ _ _ _ _ ⟨_, _, _, _, (by repeat (first | exact up_s | assumption | refine up_n (by omega) ?_)), (by first | exact Or.inr (Or.inr rfl) | exact Or.inr (Or.inl rfl) | exact Or.inl rfl), adl (by omega), (by first | assumption | exact vp_in_nI (by omega) (by omega)), (by first | exact rowsF_at (by omega) | exact shF_at (by omega)), ?_⟩ | refine hZ _ _ _ _ ?_)
  show Z _ 255 _ _
  rw [lit_1, nI_add]
  refine hZ _ _ _ _ ⟨rfl, vp_in_nI (by omega) (by omega), ?_⟩
  rw [nI_clamp (by omega)]
  show Z _ 256 _ _
  iterate 4 (first | refine hZ _ _ _ _ ⟨rfl, ?_⟩ | refine hZ _ _ _ _ ⟨_, _, (by repeat (first | exact up_s | assumption | refine up_n (by omega) ?_)), adl (by omega), (by rfl), ?_⟩ | refine hZ _ _ _ _ ⟨_, _, (by repeat (first | exact up_s | assumption | refine up_n (by omega) ?_)), adl (by omega), (by first | assumption | exact vp_in_nI (by omega) (by omega)), ?_⟩ | refine hZ _ _ _ _ ⟨_, (by repeat (first | exact up_s | assumption | refine up_n (by omega) ?_)), adl (by omega), (by rfl), trivial, ?_⟩ | refine hZ _ _ _ _ ⟨trivial, ?_⟩ | refine hZ _ _ _ _ ⟨_, _, _, _, (by repeat (first | exact up_s | assumption | refine up_n (by omega) ?_)), (by first | exact Or.inr (Or.inr rfl) | exact Or.inr (Or.inl rfl) | exact Or.inl rfl), adl (by omega), (by first | assumption | exact vp_in_nI (by omega) (by omega)), (by first | exact rowsF_at (by omega) | exact shF_at (by omega)), ?_⟩ | refine hZ _ _ _ _ ?_)
  show Z _ 260 _ _
  rw [lit_2, nI_add]
  refine hZ _ _ _ _ ⟨rfl, vp_in_nI (by omega) (by omega), ?_⟩
  rw [nI_clamp (by omega)]
  show Z _ 261 _ _
  refine hZ _ _ _ _ ⟨⟨_, (by repeat (first | exact up_s | assumption | refine up_n (by omega) ?_))⟩, adl (by omega), rfl, ?_⟩
  refine C_paths C O (fun h1 F1 C1 => ?_)
  show Z h1 264 _ _
  have M1 := M.fr F1 (by omega)
  obtain ⟨f1, m1⟩ := M1.obj
  iterate 5 (first | refine hZ _ _ _ _ ⟨rfl, ?_⟩ | refine hZ _ _ _ _ ⟨_, _, (by repeat (first | exact up_s | assumption | refine up_n (by omega) ?_)), adl (by omega), (by rfl), ?_⟩ | refine hZ _ _ _ _ ⟨_, _, (by repeat (first | exact up_s | assumption | refine up_n (by omega) ?_)), adl (by omega), (by first | assumption | exact vp_in_nI (by omega) (by omega)), ?_⟩ | refine hZ _ _ _ _ ⟨_, (by repeat (first | exact up_s | assumption | refine up_n (by omega) ?_)), adl (by omega), (by rfl), trivial, ?_⟩ | refine hZ _ _ _ _ ⟨trivial, ?_⟩ | refine hZ _ _ _ _ ⟨_, _, _, _, (by repeat (first | exact up_s | assumption | refine up_n (by omega) ?_)), (by first | exact Or.inr (Or.inr rfl) | exact Or.inr (Or.inl rfl) | exact Or.inl rfl), adl (by omega), (by first | assumption | exact vp_in_nI (by omega) (by omega)), (by first | exact rowsF_at (by omega) | exact shF_at (by omega)), ?_⟩ | refine hZ _ _ _ _ ?_)
  show Z _ 269 _ _
  rw [lit_1, nI_add]
  refine hZ _ _ _ _ ⟨rfl, vp_in_nI (by omega) (by omega), ?_⟩
  rw [nI_clamp (by omega)]
  show Z _ 270 _ _
  iterate 4 (first | refine hZ _ _ _ _ ⟨rfl, ?_⟩ | refine hZ _ _ _ _ ⟨_, _, (by repeat (first | exact up_s | assumption | refine up_n (by omega) ?_)), adl (by omega), (by rfl), ?_⟩ | refine hZ _ _ _ _ ⟨_, _, (by repeat (first | exact up_s | assumption | refine up_n (by omega) ?_)), adl (by omega), (by first | assumption | exact vp_in_nI (by omega) (by omega)), ?_⟩ | refine hZ _ _ _ _ ⟨_, (by repeat (first | exact up_s | assumption | refine up_n (by omega) ?_)), adl (by omega), (by rfl), trivial, ?_⟩ | refine hZ _ _ _ _ ⟨trivial, ?_⟩ | refine hZ _ _ _ _ ⟨_, _, _, _, (by repeat (first | exact up_s | assumption | refine up_n (by omega) ?_)), (by first | exact Or.inr (Or.inr rfl) | exact Or.inr (Or.inl rfl) | exact Or.inl rfl), adl (by omega), (by first | assumption | exact vp_in_nI (by omega) (by omega)), (by first | exact rowsF_at (by omega) | exact shF_at (by omega)), ?_⟩ | refine hZ _ _ _ _ ?_)
  show Z _ 274 _ _
  rw [lit_2, nI_add]
  refine hZ _ _ _ _ ⟨rfl, vp_in_nI (by omega) (by omega), ?_⟩
  rw [nI_clamp (by omega)]
  show Z _ 275 _ _
  refine hZ _ _ _ _ ⟨⟨_, (by repeat (first | exact up_s | assumption | refine up_n (by omega) ?_))⟩, adl (by omega), rfl, ?_⟩
  refine M_paths M1 O (fun h2 F2 M2 => ?_)
  show Z h2 278 _ _
  have C2 := C1.fr F2
  refine hZ _ _ _ _ ⟨fun _ => ?_, fun c9 => absurd rfl c9⟩
  exact kk h2 s C2 M2 (Kp.rf O)
set_option maxHeartbeats 2000000 in
theorem bL3 {l : Launch} {L i : Nat} {xs : Nat → Int32} {Z : AH → Nat → List (Option Value) → List Value → Prop} (hZ : ∀ h pc ls st, FsL l rL3 L xs Z h pc ls st → Z h pc ls st) {h : AH} {s : St} (C : CY h s) (M : MY h s) (O : Ok s) (hb : gr s ≤ 58000) (hi : i + 6 ≤ L) (hL : L ≤ 3072) (kk : ∀ h' s', CY h' s' → MY h' s' → Kp s s' → Z h' 1054 [some (.ref 82), some (.ref 0), some (.ref 61), some (.int (nI i))] []) : Z h 283 [some (.ref 82), some (.ref 0), some (.ref 61), some (.int (nI i))] [] := by
  obtain ⟨f0, m0⟩ := C.obj
  iterate 5 (first | refine hZ _ _ _ _ ⟨rfl, ?_⟩ | refine hZ _ _ _ _ ⟨_, _, (by repeat (first | exact up_s | assumption | refine up_n (by omega) ?_)), adl (by omega), (by rfl), ?_⟩ | refine hZ _ _ _ _ ⟨_, _, (by repeat (first | exact up_s | assumption | refine up_n (by omega) ?_)), adl (by omega), (by first | assumption | exact vp_in_nI (by omega) (by omega)), ?_⟩ | refine hZ _ _ _ _ ⟨_, (by repeat (first | exact up_s | assumption | refine up_n (by omega) ?_)), adl (by omega), (by rfl), trivial, ?_⟩ | refine hZ _ _ _ _ ⟨trivial, ?_⟩ | refine hZ _ _ _ _ ⟨_, _, _, _, (by repeat (first | exact up_s | assumption | refine up_n (by omega) ?_)), (by first | exact Or.inr (Or.inr rfl) | exact Or.inr (Or.inl rfl) | exact Or.inl rfl), adl (by omega), (by first | assumption | exact vp_in_nI (by omega) (by omega)), (by first | exact rowsF_at (by omega) | exact shF_at (by omega)), ?_⟩ | refine hZ _ _ _ _ ?_)
  show Z _ 288 _ _
  rw [lit_1, nI_add]
  refine hZ _ _ _ _ ⟨rfl, vp_in_nI (by omega) (by omega), ?_⟩
  rw [nI_clamp (by omega)]
  show Z _ 289 _ _
  iterate 4 (first | refine hZ _ _ _ _ ⟨rfl, ?_⟩ | refine hZ _ _ _ _ ⟨_, _, (by repeat (first | exact up_s | assumption | refine up_n (by omega) ?_)), adl (by omega), (by rfl), ?_⟩ | refine hZ _ _ _ _ ⟨_, _, (by repeat (first | exact up_s | assumption | refine up_n (by omega) ?_)), adl (by omega), (by first | assumption | exact vp_in_nI (by omega) (by omega)), ?_⟩ | refine hZ _ _ _ _ ⟨_, (by repeat (first | exact up_s | assumption | refine up_n (by omega) ?_)), adl (by omega), (by rfl), trivial, ?_⟩ | refine hZ _ _ _ _ ⟨trivial, ?_⟩ | refine hZ _ _ _ _ ⟨_, _, _, _, (by repeat (first | exact up_s | assumption | refine up_n (by omega) ?_)), (by first | exact Or.inr (Or.inr rfl) | exact Or.inr (Or.inl rfl) | exact Or.inl rfl), adl (by omega), (by first | assumption | exact vp_in_nI (by omega) (by omega)), (by first | exact rowsF_at (by omega) | exact shF_at (by omega)), ?_⟩ | refine hZ _ _ _ _ ?_)
  show Z _ 293 _ _
  rw [lit_2, nI_add]
  refine hZ _ _ _ _ ⟨rfl, vp_in_nI (by omega) (by omega), ?_⟩
  rw [nI_clamp (by omega)]
  show Z _ 294 _ _
  refine hZ _ _ _ _ ⟨⟨_, (by repeat (first | exact up_s | assumption | refine up_n (by omega) ?_))⟩, adl (by omega), rfl, ?_⟩
  refine C_heap C O (fun h1 F1 C1 => ?_)
  show Z h1 297 _ _
  have M1 := M.fr F1 (by omega)
  obtain ⟨f1, m1⟩ := M1.obj
  iterate 5 (first | refine hZ _ _ _ _ ⟨rfl, ?_⟩ | refine hZ _ _ _ _ ⟨_, _, (by repeat (first | exact up_s | assumption | refine up_n (by omega) ?_)), adl (by omega), (by rfl), ?_⟩ | refine hZ _ _ _ _ ⟨_, _, (by repeat (first | exact up_s | assumption | refine up_n (by omega) ?_)), adl (by omega), (by first | assumption | exact vp_in_nI (by omega) (by omega)), ?_⟩ | refine hZ _ _ _ _ ⟨_, (by repeat (first | exact up_s | assumption | refine up_n (by omega) ?_)), adl (by omega), (by rfl), trivial, ?_⟩ | refine hZ _ _ _ _ ⟨trivial, ?_⟩ | refine hZ _ _ _ _ ⟨_, _, _, _, (by repeat (first | exact up_s | assumption | refine up_n (by omega) ?_)), (by first | exact Or.inr (Or.inr rfl) | exact Or.inr (Or.inl rfl) | exact Or.inl rfl), adl (by omega), (by first | assumption | exact vp_in_nI (by omega) (by omega)), (by first | exact rowsF_at (by omega) | exact shF_at (by omega)), ?_⟩ | refine hZ _ _ _ _ ?_)
  show Z _ 302 _ _
  rw [lit_1, nI_add]
  refine hZ _ _ _ _ ⟨rfl, vp_in_nI (by omega) (by omega), ?_⟩
  rw [nI_clamp (by omega)]
  show Z _ 303 _ _
  iterate 4 (first | refine hZ _ _ _ _ ⟨rfl, ?_⟩ | refine hZ _ _ _ _ ⟨_, _, (by repeat (first | exact up_s | assumption | refine up_n (by omega) ?_)), adl (by omega), (by rfl), ?_⟩ | refine hZ _ _ _ _ ⟨_, _, (by repeat (first | exact up_s | assumption | refine up_n (by omega) ?_)), adl (by omega), (by first | assumption | exact vp_in_nI (by omega) (by omega)), ?_⟩ | refine hZ _ _ _ _ ⟨_, (by repeat (first | exact up_s | assumption | refine up_n (by omega) ?_)), adl (by omega), (by rfl), trivial, ?_⟩ | refine hZ _ _ _ _ ⟨trivial, ?_⟩ | refine hZ _ _ _ _ ⟨_, _, _, _, (by repeat (first | exact up_s | assumption | refine up_n (by omega) ?_)), (by first | exact Or.inr (Or.inr rfl) | exact Or.inr (Or.inl rfl) | exact Or.inl rfl), adl (by omega), (by first | assumption | exact vp_in_nI (by omega) (by omega)), (by first | exact rowsF_at (by omega) | exact shF_at (by omega)), ?_⟩ | refine hZ _ _ _ _ ?_)
  show Z _ 307 _ _
  rw [lit_2, nI_add]
  refine hZ _ _ _ _ ⟨rfl, vp_in_nI (by omega) (by omega), ?_⟩
  rw [nI_clamp (by omega)]
  show Z _ 308 _ _
  refine hZ _ _ _ _ ⟨⟨_, (by repeat (first | exact up_s | assumption | refine up_n (by omega) ?_))⟩, adl (by omega), rfl, ?_⟩
  refine M_heap M1 O (fun h2 F2 M2 => ?_)
  show Z h2 311 _ _
  have C2 := C1.fr F2
  refine hZ _ _ _ _ ⟨fun _ => ?_, fun c9 => absurd rfl c9⟩
  exact kk h2 _ C2 M2 (K_heap O _ _)
set_option maxHeartbeats 2000000 in
theorem bL4 {l : Launch} {L i : Nat} {xs : Nat → Int32} {Z : AH → Nat → List (Option Value) → List Value → Prop} (hZ : ∀ h pc ls st, FsL l rL4 L xs Z h pc ls st → Z h pc ls st) {h : AH} {s : St} (C : CY h s) (M : MY h s) (O : Ok s) (hb : gr s ≤ 58000) (hi : i + 6 ≤ L) (hL : L ≤ 3072) (kk : ∀ h' s', CY h' s' → MY h' s' → Kp s s' → Z h' 1054 [some (.ref 82), some (.ref 0), some (.ref 61), some (.int (nI i))] []) : Z h 316 [some (.ref 82), some (.ref 0), some (.ref 61), some (.int (nI i))] [] := by
  obtain ⟨f0, m0⟩ := C.obj
  have hx30 : ∀ q, q < s.1.1 → s.2.1.1 q < 2 ^ 30 := fun q hq => Nat.lt_of_le_of_lt (Nat.le_trans (sm_ge (f := s.2.1.1) hq) hb) (by decide)
  iterate 5 (first | refine hZ _ _ _ _ ⟨rfl, ?_⟩ | refine hZ _ _ _ _ ⟨_, _, (by repeat (first | exact up_s | assumption | refine up_n (by omega) ?_)), adl (by omega), (by rfl), ?_⟩ | refine hZ _ _ _ _ ⟨_, _, (by repeat (first | exact up_s | assumption | refine up_n (by omega) ?_)), adl (by omega), (by first | assumption | exact vp_in_nI (by omega) (by omega)), ?_⟩ | refine hZ _ _ _ _ ⟨_, (by repeat (first | exact up_s | assumption | refine up_n (by omega) ?_)), adl (by omega), (by rfl), trivial, ?_⟩ | refine hZ _ _ _ _ ⟨trivial, ?_⟩ | refine hZ _ _ _ _ ⟨_, _, _, _, (by repeat (first | exact up_s | assumption | refine up_n (by omega) ?_)), (by first | exact Or.inr (Or.inr rfl) | exact Or.inr (Or.inl rfl) | exact Or.inl rfl), adl (by omega), (by first | assumption | exact vp_in_nI (by omega) (by omega)), (by first | exact rowsF_at (by omega) | exact shF_at (by omega)), ?_⟩ | refine hZ _ _ _ _ ?_)
  show Z _ 321 _ _
  rw [lit_1, nI_add]
  refine hZ _ _ _ _ ⟨rfl, vp_in_nI (by omega) (by omega), ?_⟩
  rw [nI_clamp (by omega)]
  show Z _ 322 _ _
  iterate 4 (first | refine hZ _ _ _ _ ⟨rfl, ?_⟩ | refine hZ _ _ _ _ ⟨_, _, (by repeat (first | exact up_s | assumption | refine up_n (by omega) ?_)), adl (by omega), (by rfl), ?_⟩ | refine hZ _ _ _ _ ⟨_, _, (by repeat (first | exact up_s | assumption | refine up_n (by omega) ?_)), adl (by omega), (by first | assumption | exact vp_in_nI (by omega) (by omega)), ?_⟩ | refine hZ _ _ _ _ ⟨_, (by repeat (first | exact up_s | assumption | refine up_n (by omega) ?_)), adl (by omega), (by rfl), trivial, ?_⟩ | refine hZ _ _ _ _ ⟨trivial, ?_⟩ | refine hZ _ _ _ _ ⟨_, _, _, _, (by repeat (first | exact up_s | assumption | refine up_n (by omega) ?_)), (by first | exact Or.inr (Or.inr rfl) | exact Or.inr (Or.inl rfl) | exact Or.inl rfl), adl (by omega), (by first | assumption | exact vp_in_nI (by omega) (by omega)), (by first | exact rowsF_at (by omega) | exact shF_at (by omega)), ?_⟩ | refine hZ _ _ _ _ ?_)
  show Z _ 326 _ _
  rw [lit_2, nI_add]
  refine hZ _ _ _ _ ⟨rfl, vp_in_nI (by omega) (by omega), ?_⟩
  rw [nI_clamp (by omega)]
  show Z _ 327 _ _
  refine hZ _ _ _ _ ⟨⟨_, (by repeat (first | exact up_s | assumption | refine up_n (by omega) ?_))⟩, adl (by omega), rfl, ?_⟩
  refine C_drop C O hx30 (fun h1 F1 C1 => ?_)
  show Z h1 330 _ _
  have M1 := M.fr F1 (by omega)
  obtain ⟨f1, m1⟩ := M1.obj
  iterate 5 (first | refine hZ _ _ _ _ ⟨rfl, ?_⟩ | refine hZ _ _ _ _ ⟨_, _, (by repeat (first | exact up_s | assumption | refine up_n (by omega) ?_)), adl (by omega), (by rfl), ?_⟩ | refine hZ _ _ _ _ ⟨_, _, (by repeat (first | exact up_s | assumption | refine up_n (by omega) ?_)), adl (by omega), (by first | assumption | exact vp_in_nI (by omega) (by omega)), ?_⟩ | refine hZ _ _ _ _ ⟨_, (by repeat (first | exact up_s | assumption | refine up_n (by omega) ?_)), adl (by omega), (by rfl), trivial, ?_⟩ | refine hZ _ _ _ _ ⟨trivial, ?_⟩ | refine hZ _ _ _ _ ⟨_, _, _, _, (by repeat (first | exact up_s | assumption | refine up_n (by omega) ?_)), (by first | exact Or.inr (Or.inr rfl) | exact Or.inr (Or.inl rfl) | exact Or.inl rfl), adl (by omega), (by first | assumption | exact vp_in_nI (by omega) (by omega)), (by first | exact rowsF_at (by omega) | exact shF_at (by omega)), ?_⟩ | refine hZ _ _ _ _ ?_)
  show Z _ 335 _ _
  rw [lit_1, nI_add]
  refine hZ _ _ _ _ ⟨rfl, vp_in_nI (by omega) (by omega), ?_⟩
  rw [nI_clamp (by omega)]
  show Z _ 336 _ _
  iterate 4 (first | refine hZ _ _ _ _ ⟨rfl, ?_⟩ | refine hZ _ _ _ _ ⟨_, _, (by repeat (first | exact up_s | assumption | refine up_n (by omega) ?_)), adl (by omega), (by rfl), ?_⟩ | refine hZ _ _ _ _ ⟨_, _, (by repeat (first | exact up_s | assumption | refine up_n (by omega) ?_)), adl (by omega), (by first | assumption | exact vp_in_nI (by omega) (by omega)), ?_⟩ | refine hZ _ _ _ _ ⟨_, (by repeat (first | exact up_s | assumption | refine up_n (by omega) ?_)), adl (by omega), (by rfl), trivial, ?_⟩ | refine hZ _ _ _ _ ⟨trivial, ?_⟩ | refine hZ _ _ _ _ ⟨_, _, _, _, (by repeat (first | exact up_s | assumption | refine up_n (by omega) ?_)), (by first | exact Or.inr (Or.inr rfl) | exact Or.inr (Or.inl rfl) | exact Or.inl rfl), adl (by omega), (by first | assumption | exact vp_in_nI (by omega) (by omega)), (by first | exact rowsF_at (by omega) | exact shF_at (by omega)), ?_⟩ | refine hZ _ _ _ _ ?_)
  show Z _ 340 _ _
  rw [lit_2, nI_add]
  refine hZ _ _ _ _ ⟨rfl, vp_in_nI (by omega) (by omega), ?_⟩
  rw [nI_clamp (by omega)]
  show Z _ 341 _ _
  refine hZ _ _ _ _ ⟨⟨_, (by repeat (first | exact up_s | assumption | refine up_n (by omega) ?_))⟩, adl (by omega), rfl, ?_⟩
  refine M_drop M1 O hx30 (fun h2 F2 M2 => ?_)
  show Z h2 344 _ _
  have C2 := C1.fr F2
  refine hZ _ _ _ _ ⟨fun _ => ?_, fun c9 => absurd rfl c9⟩
  exact kk h2 _ C2 M2 (K_drop O _ _)
set_option maxHeartbeats 2000000 in
theorem bL5 {l : Launch} {L i : Nat} {xs : Nat → Int32} {Z : AH → Nat → List (Option Value) → List Value → Prop} (hZ : ∀ h pc ls st, FsL l rL5 L xs Z h pc ls st → Z h pc ls st) {h : AH} {s : St} (C : CY h s) (M : MY h s) (O : Ok s) (hb : gr s ≤ 58000) (hi : i + 6 ≤ L) (hL : L ≤ 3072) (kk : ∀ h' s', CY h' s' → MY h' s' → Kp s s' → Z h' 1054 [some (.ref 82), some (.ref 0), some (.ref 61), some (.int (nI i))] []) : Z h 349 [some (.ref 82), some (.ref 0), some (.ref 61), some (.int (nI i))] [] := by
  obtain ⟨f0, m0⟩ := C.obj
  have hx30 : ∀ q, q < s.1.1 → s.2.1.1 q < 2 ^ 30 := fun q hq => Nat.lt_of_le_of_lt (Nat.le_trans (sm_ge (f := s.2.1.1) hq) hb) (by decide)
  iterate 5 (first | refine hZ _ _ _ _ ⟨rfl, ?_⟩ | refine hZ _ _ _ _ ⟨_, _, (by repeat (first | exact up_s | assumption | refine up_n (by omega) ?_)), adl (by omega), (by rfl), ?_⟩ | refine hZ _ _ _ _ ⟨_, _, (by repeat (first | exact up_s | assumption | refine up_n (by omega) ?_)), adl (by omega), (by first | assumption | exact vp_in_nI (by omega) (by omega)), ?_⟩ | refine hZ _ _ _ _ ⟨_, (by repeat (first | exact up_s | assumption | refine up_n (by omega) ?_)), adl (by omega), (by rfl), trivial, ?_⟩ | refine hZ _ _ _ _ ⟨trivial, ?_⟩ | refine hZ _ _ _ _ ⟨_, _, _, _, (by repeat (first | exact up_s | assumption | refine up_n (by omega) ?_)), (by first | exact Or.inr (Or.inr rfl) | exact Or.inr (Or.inl rfl) | exact Or.inl rfl), adl (by omega), (by first | assumption | exact vp_in_nI (by omega) (by omega)), (by first | exact rowsF_at (by omega) | exact shF_at (by omega)), ?_⟩ | refine hZ _ _ _ _ ?_)
  show Z _ 354 _ _
  rw [lit_1, nI_add]
  refine hZ _ _ _ _ ⟨rfl, vp_in_nI (by omega) (by omega), ?_⟩
  rw [nI_clamp (by omega)]
  show Z _ 355 _ _
  refine hZ _ _ _ _ ⟨⟨_, (by repeat (first | exact up_s | assumption | refine up_n (by omega) ?_))⟩, adl (by omega), rfl, ?_⟩
  refine C_topple C O hx30 (fun h1 F1 C1 => ?_)
  show Z h1 358 _ _
  have M1 := M.fr F1 (by omega)
  obtain ⟨f1, m1⟩ := M1.obj
  iterate 5 (first | refine hZ _ _ _ _ ⟨rfl, ?_⟩ | refine hZ _ _ _ _ ⟨_, _, (by repeat (first | exact up_s | assumption | refine up_n (by omega) ?_)), adl (by omega), (by rfl), ?_⟩ | refine hZ _ _ _ _ ⟨_, _, (by repeat (first | exact up_s | assumption | refine up_n (by omega) ?_)), adl (by omega), (by first | assumption | exact vp_in_nI (by omega) (by omega)), ?_⟩ | refine hZ _ _ _ _ ⟨_, (by repeat (first | exact up_s | assumption | refine up_n (by omega) ?_)), adl (by omega), (by rfl), trivial, ?_⟩ | refine hZ _ _ _ _ ⟨trivial, ?_⟩ | refine hZ _ _ _ _ ⟨_, _, _, _, (by repeat (first | exact up_s | assumption | refine up_n (by omega) ?_)), (by first | exact Or.inr (Or.inr rfl) | exact Or.inr (Or.inl rfl) | exact Or.inl rfl), adl (by omega), (by first | assumption | exact vp_in_nI (by omega) (by omega)), (by first | exact rowsF_at (by omega) | exact shF_at (by omega)), ?_⟩ | refine hZ _ _ _ _ ?_)
  show Z _ 363 _ _
  rw [lit_1, nI_add]
  refine hZ _ _ _ _ ⟨rfl, vp_in_nI (by omega) (by omega), ?_⟩
  rw [nI_clamp (by omega)]
  show Z _ 364 _ _
  refine hZ _ _ _ _ ⟨⟨_, (by repeat (first | exact up_s | assumption | refine up_n (by omega) ?_))⟩, adl (by omega), rfl, ?_⟩
  refine M_topple M1 O hx30 (fun h2 F2 M2 => ?_)
  show Z h2 367 _ _
  have C2 := C1.fr F2
  refine hZ _ _ _ _ ⟨fun _ => ?_, fun c9 => absurd rfl c9⟩
  exact kk h2 _ C2 M2 (K_topple O _)
set_option maxHeartbeats 2000000 in
theorem bL6 {l : Launch} {L i : Nat} {xs : Nat → Int32} {Z : AH → Nat → List (Option Value) → List Value → Prop} (hZ : ∀ h pc ls st, FsL l rL6 L xs Z h pc ls st → Z h pc ls st) {h : AH} {s : St} (C : CY h s) (M : MY h s) (O : Ok s) (hb : gr s ≤ 58000) (hi : i + 6 ≤ L) (hL : L ≤ 3072) (kk : ∀ h' s', CY h' s' → MY h' s' → Kp s s' → Z h' 1054 [some (.ref 82), some (.ref 0), some (.ref 61), some (.int (nI i))] []) : Z h 372 [some (.ref 82), some (.ref 0), some (.ref 61), some (.int (nI i))] [] := by
  obtain ⟨f0, m0⟩ := C.obj
  iterate 1 (first | refine hZ _ _ _ _ ⟨rfl, ?_⟩ | refine hZ _ _ _ _ ⟨_, _, (by repeat (first | exact up_s | assumption | refine up_n (by omega) ?_)), adl (by omega), (by rfl), ?_⟩ | refine hZ _ _ _ _ ⟨_, _, (by repeat (first | exact up_s | assumption | refine up_n (by omega) ?_)), adl (by omega), (by first | assumption | exact vp_in_nI (by omega) (by omega)), ?_⟩ | refine hZ _ _ _ _ ⟨_, (by repeat (first | exact up_s | assumption | refine up_n (by omega) ?_)), adl (by omega), (by rfl), trivial, ?_⟩ | refine hZ _ _ _ _ ⟨trivial, ?_⟩ | refine hZ _ _ _ _ ⟨_, _, _, _, (by repeat (first | exact up_s | assumption | refine up_n (by omega) ?_)), (by first | exact Or.inr (Or.inr rfl) | exact Or.inr (Or.inl rfl) | exact Or.inl rfl), adl (by omega), (by first | assumption | exact vp_in_nI (by omega) (by omega)), (by first | exact rowsF_at (by omega) | exact shF_at (by omega)), ?_⟩ | refine hZ _ _ _ _ ?_)
  show Z _ 373 _ _
  refine hZ _ _ _ _ ⟨⟨_, (by repeat (first | exact up_s | assumption | refine up_n (by omega) ?_))⟩, adl (by omega), rfl, ?_⟩
  refine C_settle C O (Nat.le_trans hb (by decide)) (fun h1 F1 C1 => ?_)
  show Z h1 376 _ _
  have M1 := M.fr F1 (by omega)
  obtain ⟨f1, m1⟩ := M1.obj
  iterate 1 (first | refine hZ _ _ _ _ ⟨rfl, ?_⟩ | refine hZ _ _ _ _ ⟨_, _, (by repeat (first | exact up_s | assumption | refine up_n (by omega) ?_)), adl (by omega), (by rfl), ?_⟩ | refine hZ _ _ _ _ ⟨_, _, (by repeat (first | exact up_s | assumption | refine up_n (by omega) ?_)), adl (by omega), (by first | assumption | exact vp_in_nI (by omega) (by omega)), ?_⟩ | refine hZ _ _ _ _ ⟨_, (by repeat (first | exact up_s | assumption | refine up_n (by omega) ?_)), adl (by omega), (by rfl), trivial, ?_⟩ | refine hZ _ _ _ _ ⟨trivial, ?_⟩ | refine hZ _ _ _ _ ⟨_, _, _, _, (by repeat (first | exact up_s | assumption | refine up_n (by omega) ?_)), (by first | exact Or.inr (Or.inr rfl) | exact Or.inr (Or.inl rfl) | exact Or.inl rfl), adl (by omega), (by first | assumption | exact vp_in_nI (by omega) (by omega)), (by first | exact rowsF_at (by omega) | exact shF_at (by omega)), ?_⟩ | refine hZ _ _ _ _ ?_)
  show Z _ 377 _ _
  refine hZ _ _ _ _ ⟨⟨_, (by repeat (first | exact up_s | assumption | refine up_n (by omega) ?_))⟩, adl (by omega), rfl, ?_⟩
  refine M_settle M1 O (Nat.le_trans hb (by decide)) (fun h2 F2 M2 => ?_)
  show Z h2 380 _ _
  have C2 := C1.fr F2
  refine hZ _ _ _ _ ⟨fun _ => ?_, fun c9 => absurd rfl c9⟩
  exact kk h2 _ C2 M2 (K_settle O)
set_option maxHeartbeats 2000000 in
theorem bL7 {l : Launch} {L i : Nat} {xs : Nat → Int32} {Z : AH → Nat → List (Option Value) → List Value → Prop} (hZ : ∀ h pc ls st, FsL l rL7 L xs Z h pc ls st → Z h pc ls st) {h : AH} {s : St} (C : CY h s) (M : MY h s) (O : Ok s) (hb : gr s ≤ 58000) (hi : i + 6 ≤ L) (hL : L ≤ 3072) (kk : ∀ h' s', CY h' s' → MY h' s' → Kp s s' → Z h' 1054 [some (.ref 82), some (.ref 0), some (.ref 61), some (.int (nI i))] []) : Z h 385 [some (.ref 82), some (.ref 0), some (.ref 61), some (.int (nI i))] [] := by
  obtain ⟨f0, m0⟩ := C.obj
  iterate 5 (first | refine hZ _ _ _ _ ⟨rfl, ?_⟩ | refine hZ _ _ _ _ ⟨_, _, (by repeat (first | exact up_s | assumption | refine up_n (by omega) ?_)), adl (by omega), (by rfl), ?_⟩ | refine hZ _ _ _ _ ⟨_, _, (by repeat (first | exact up_s | assumption | refine up_n (by omega) ?_)), adl (by omega), (by first | assumption | exact vp_in_nI (by omega) (by omega)), ?_⟩ | refine hZ _ _ _ _ ⟨_, (by repeat (first | exact up_s | assumption | refine up_n (by omega) ?_)), adl (by omega), (by rfl), trivial, ?_⟩ | refine hZ _ _ _ _ ⟨trivial, ?_⟩ | refine hZ _ _ _ _ ⟨_, _, _, _, (by repeat (first | exact up_s | assumption | refine up_n (by omega) ?_)), (by first | exact Or.inr (Or.inr rfl) | exact Or.inr (Or.inl rfl) | exact Or.inl rfl), adl (by omega), (by first | assumption | exact vp_in_nI (by omega) (by omega)), (by first | exact rowsF_at (by omega) | exact shF_at (by omega)), ?_⟩ | refine hZ _ _ _ _ ?_)
  show Z _ 390 _ _
  rw [lit_1, nI_add]
  refine hZ _ _ _ _ ⟨rfl, vp_in_nI (by omega) (by omega), ?_⟩
  rw [nI_clamp (by omega)]
  show Z _ 391 _ _
  iterate 4 (first | refine hZ _ _ _ _ ⟨rfl, ?_⟩ | refine hZ _ _ _ _ ⟨_, _, (by repeat (first | exact up_s | assumption | refine up_n (by omega) ?_)), adl (by omega), (by rfl), ?_⟩ | refine hZ _ _ _ _ ⟨_, _, (by repeat (first | exact up_s | assumption | refine up_n (by omega) ?_)), adl (by omega), (by first | assumption | exact vp_in_nI (by omega) (by omega)), ?_⟩ | refine hZ _ _ _ _ ⟨_, (by repeat (first | exact up_s | assumption | refine up_n (by omega) ?_)), adl (by omega), (by rfl), trivial, ?_⟩ | refine hZ _ _ _ _ ⟨trivial, ?_⟩ | refine hZ _ _ _ _ ⟨_, _, _, _, (by repeat (first | exact up_s | assumption | refine up_n (by omega) ?_)), (by first | exact Or.inr (Or.inr rfl) | exact Or.inr (Or.inl rfl) | exact Or.inl rfl), adl (by omega), (by first | assumption | exact vp_in_nI (by omega) (by omega)), (by first | exact rowsF_at (by omega) | exact shF_at (by omega)), ?_⟩ | refine hZ _ _ _ _ ?_)
  show Z _ 395 _ _
  rw [lit_2, nI_add]
  refine hZ _ _ _ _ ⟨rfl, vp_in_nI (by omega) (by omega), ?_⟩
  rw [nI_clamp (by omega)]
  show Z _ 396 _ _
  iterate 4 (first | refine hZ _ _ _ _ ⟨rfl, ?_⟩ | refine hZ _ _ _ _ ⟨_, _, (by repeat (first | exact up_s | assumption | refine up_n (by omega) ?_)), adl (by omega), (by rfl), ?_⟩ | refine hZ _ _ _ _ ⟨_, _, (by repeat (first | exact up_s | assumption | refine up_n (by omega) ?_)), adl (by omega), (by first | assumption | exact vp_in_nI (by omega) (by omega)), ?_⟩ | refine hZ _ _ _ _ ⟨_, (by repeat (first | exact up_s | assumption | refine up_n (by omega) ?_)), adl (by omega), (by rfl), trivial, ?_⟩ | refine hZ _ _ _ _ ⟨trivial, ?_⟩ | refine hZ _ _ _ _ ⟨_, _, _, _, (by repeat (first | exact up_s | assumption | refine up_n (by omega) ?_)), (by first | exact Or.inr (Or.inr rfl) | exact Or.inr (Or.inl rfl) | exact Or.inl rfl), adl (by omega), (by first | assumption | exact vp_in_nI (by omega) (by omega)), (by first | exact rowsF_at (by omega) | exact shF_at (by omega)), ?_⟩ | refine hZ _ _ _ _ ?_)
  show Z _ 400 _ _
  rw [lit_3, nI_add]
  refine hZ _ _ _ _ ⟨rfl, vp_in_nI (by omega) (by omega), ?_⟩
  rw [nI_clamp (by omega)]
  show Z _ 401 _ _
  iterate 4 (first | refine hZ _ _ _ _ ⟨rfl, ?_⟩ | refine hZ _ _ _ _ ⟨_, _, (by repeat (first | exact up_s | assumption | refine up_n (by omega) ?_)), adl (by omega), (by rfl), ?_⟩ | refine hZ _ _ _ _ ⟨_, _, (by repeat (first | exact up_s | assumption | refine up_n (by omega) ?_)), adl (by omega), (by first | assumption | exact vp_in_nI (by omega) (by omega)), ?_⟩ | refine hZ _ _ _ _ ⟨_, (by repeat (first | exact up_s | assumption | refine up_n (by omega) ?_)), adl (by omega), (by rfl), trivial, ?_⟩ | refine hZ _ _ _ _ ⟨trivial, ?_⟩ | refine hZ _ _ _ _ ⟨_, _, _, _, (by repeat (first | exact up_s | assumption | refine up_n (by omega) ?_)), (by first | exact Or.inr (Or.inr rfl) | exact Or.inr (Or.inl rfl) | exact Or.inl rfl), adl (by omega), (by first | assumption | exact vp_in_nI (by omega) (by omega)), (by first | exact rowsF_at (by omega) | exact shF_at (by omega)), ?_⟩ | refine hZ _ _ _ _ ?_)
  show Z _ 405 _ _
  rw [lit_4, nI_add]
  refine hZ _ _ _ _ ⟨rfl, vp_in_nI (by omega) (by omega), ?_⟩
  rw [nI_clamp (by omega)]
  show Z _ 406 _ _
  iterate 4 (first | refine hZ _ _ _ _ ⟨rfl, ?_⟩ | refine hZ _ _ _ _ ⟨_, _, (by repeat (first | exact up_s | assumption | refine up_n (by omega) ?_)), adl (by omega), (by rfl), ?_⟩ | refine hZ _ _ _ _ ⟨_, _, (by repeat (first | exact up_s | assumption | refine up_n (by omega) ?_)), adl (by omega), (by first | assumption | exact vp_in_nI (by omega) (by omega)), ?_⟩ | refine hZ _ _ _ _ ⟨_, (by repeat (first | exact up_s | assumption | refine up_n (by omega) ?_)), adl (by omega), (by rfl), trivial, ?_⟩ | refine hZ _ _ _ _ ⟨trivial, ?_⟩ | refine hZ _ _ _ _ ⟨_, _, _, _, (by repeat (first | exact up_s | assumption | refine up_n (by omega) ?_)), (by first | exact Or.inr (Or.inr rfl) | exact Or.inr (Or.inl rfl) | exact Or.inl rfl), adl (by omega), (by first | assumption | exact vp_in_nI (by omega) (by omega)), (by first | exact rowsF_at (by omega) | exact shF_at (by omega)), ?_⟩ | refine hZ _ _ _ _ ?_)
  show Z _ 410 _ _
  rw [lit_5, nI_add]
  refine hZ _ _ _ _ ⟨rfl, vp_in_nI (by omega) (by omega), ?_⟩
  rw [nI_clamp (by omega)]
  show Z _ 411 _ _
  refine hZ _ _ _ _ ⟨⟨_, (by repeat (first | exact up_s | assumption | refine up_n (by omega) ?_))⟩, adl (by omega), rfl, ?_⟩
  refine C_day C O (Nat.le_trans hb (by decide)) (fun h1 F1 C1 => ?_)
  show Z h1 414 _ _
  have M1 := M.fr F1 (by omega)
  obtain ⟨f1, m1⟩ := M1.obj
  iterate 5 (first | refine hZ _ _ _ _ ⟨rfl, ?_⟩ | refine hZ _ _ _ _ ⟨_, _, (by repeat (first | exact up_s | assumption | refine up_n (by omega) ?_)), adl (by omega), (by rfl), ?_⟩ | refine hZ _ _ _ _ ⟨_, _, (by repeat (first | exact up_s | assumption | refine up_n (by omega) ?_)), adl (by omega), (by first | assumption | exact vp_in_nI (by omega) (by omega)), ?_⟩ | refine hZ _ _ _ _ ⟨_, (by repeat (first | exact up_s | assumption | refine up_n (by omega) ?_)), adl (by omega), (by rfl), trivial, ?_⟩ | refine hZ _ _ _ _ ⟨trivial, ?_⟩ | refine hZ _ _ _ _ ⟨_, _, _, _, (by repeat (first | exact up_s | assumption | refine up_n (by omega) ?_)), (by first | exact Or.inr (Or.inr rfl) | exact Or.inr (Or.inl rfl) | exact Or.inl rfl), adl (by omega), (by first | assumption | exact vp_in_nI (by omega) (by omega)), (by first | exact rowsF_at (by omega) | exact shF_at (by omega)), ?_⟩ | refine hZ _ _ _ _ ?_)
  show Z _ 419 _ _
  rw [lit_1, nI_add]
  refine hZ _ _ _ _ ⟨rfl, vp_in_nI (by omega) (by omega), ?_⟩
  rw [nI_clamp (by omega)]
  show Z _ 420 _ _
  iterate 4 (first | refine hZ _ _ _ _ ⟨rfl, ?_⟩ | refine hZ _ _ _ _ ⟨_, _, (by repeat (first | exact up_s | assumption | refine up_n (by omega) ?_)), adl (by omega), (by rfl), ?_⟩ | refine hZ _ _ _ _ ⟨_, _, (by repeat (first | exact up_s | assumption | refine up_n (by omega) ?_)), adl (by omega), (by first | assumption | exact vp_in_nI (by omega) (by omega)), ?_⟩ | refine hZ _ _ _ _ ⟨_, (by repeat (first | exact up_s | assumption | refine up_n (by omega) ?_)), adl (by omega), (by rfl), trivial, ?_⟩ | refine hZ _ _ _ _ ⟨trivial, ?_⟩ | refine hZ _ _ _ _ ⟨_, _, _, _, (by repeat (first | exact up_s | assumption | refine up_n (by omega) ?_)), (by first | exact Or.inr (Or.inr rfl) | exact Or.inr (Or.inl rfl) | exact Or.inl rfl), adl (by omega), (by first | assumption | exact vp_in_nI (by omega) (by omega)), (by first | exact rowsF_at (by omega) | exact shF_at (by omega)), ?_⟩ | refine hZ _ _ _ _ ?_)
  show Z _ 424 _ _
  rw [lit_2, nI_add]
  refine hZ _ _ _ _ ⟨rfl, vp_in_nI (by omega) (by omega), ?_⟩
  rw [nI_clamp (by omega)]
  show Z _ 425 _ _
  iterate 4 (first | refine hZ _ _ _ _ ⟨rfl, ?_⟩ | refine hZ _ _ _ _ ⟨_, _, (by repeat (first | exact up_s | assumption | refine up_n (by omega) ?_)), adl (by omega), (by rfl), ?_⟩ | refine hZ _ _ _ _ ⟨_, _, (by repeat (first | exact up_s | assumption | refine up_n (by omega) ?_)), adl (by omega), (by first | assumption | exact vp_in_nI (by omega) (by omega)), ?_⟩ | refine hZ _ _ _ _ ⟨_, (by repeat (first | exact up_s | assumption | refine up_n (by omega) ?_)), adl (by omega), (by rfl), trivial, ?_⟩ | refine hZ _ _ _ _ ⟨trivial, ?_⟩ | refine hZ _ _ _ _ ⟨_, _, _, _, (by repeat (first | exact up_s | assumption | refine up_n (by omega) ?_)), (by first | exact Or.inr (Or.inr rfl) | exact Or.inr (Or.inl rfl) | exact Or.inl rfl), adl (by omega), (by first | assumption | exact vp_in_nI (by omega) (by omega)), (by first | exact rowsF_at (by omega) | exact shF_at (by omega)), ?_⟩ | refine hZ _ _ _ _ ?_)
  show Z _ 429 _ _
  rw [lit_3, nI_add]
  refine hZ _ _ _ _ ⟨rfl, vp_in_nI (by omega) (by omega), ?_⟩
  rw [nI_clamp (by omega)]
  show Z _ 430 _ _
  iterate 4 (first | refine hZ _ _ _ _ ⟨rfl, ?_⟩ | refine hZ _ _ _ _ ⟨_, _, (by repeat (first | exact up_s | assumption | refine up_n (by omega) ?_)), adl (by omega), (by rfl), ?_⟩ | refine hZ _ _ _ _ ⟨_, _, (by repeat (first | exact up_s | assumption | refine up_n (by omega) ?_)), adl (by omega), (by first | assumption | exact vp_in_nI (by omega) (by omega)), ?_⟩ | refine hZ _ _ _ _ ⟨_, (by repeat (first | exact up_s | assumption | refine up_n (by omega) ?_)), adl (by omega), (by rfl), trivial, ?_⟩ | refine hZ _ _ _ _ ⟨trivial, ?_⟩ | refine hZ _ _ _ _ ⟨_, _, _, _, (by repeat (first | exact up_s | assumption | refine up_n (by omega) ?_)), (by first | exact Or.inr (Or.inr rfl) | exact Or.inr (Or.inl rfl) | exact Or.inl rfl), adl (by omega), (by first | assumption | exact vp_in_nI (by omega) (by omega)), (by first | exact rowsF_at (by omega) | exact shF_at (by omega)), ?_⟩ | refine hZ _ _ _ _ ?_)
  show Z _ 434 _ _
  rw [lit_4, nI_add]
  refine hZ _ _ _ _ ⟨rfl, vp_in_nI (by omega) (by omega), ?_⟩
  rw [nI_clamp (by omega)]
  show Z _ 435 _ _
  iterate 4 (first | refine hZ _ _ _ _ ⟨rfl, ?_⟩ | refine hZ _ _ _ _ ⟨_, _, (by repeat (first | exact up_s | assumption | refine up_n (by omega) ?_)), adl (by omega), (by rfl), ?_⟩ | refine hZ _ _ _ _ ⟨_, _, (by repeat (first | exact up_s | assumption | refine up_n (by omega) ?_)), adl (by omega), (by first | assumption | exact vp_in_nI (by omega) (by omega)), ?_⟩ | refine hZ _ _ _ _ ⟨_, (by repeat (first | exact up_s | assumption | refine up_n (by omega) ?_)), adl (by omega), (by rfl), trivial, ?_⟩ | refine hZ _ _ _ _ ⟨trivial, ?_⟩ | refine hZ _ _ _ _ ⟨_, _, _, _, (by repeat (first | exact up_s | assumption | refine up_n (by omega) ?_)), (by first | exact Or.inr (Or.inr rfl) | exact Or.inr (Or.inl rfl) | exact Or.inl rfl), adl (by omega), (by first | assumption | exact vp_in_nI (by omega) (by omega)), (by first | exact rowsF_at (by omega) | exact shF_at (by omega)), ?_⟩ | refine hZ _ _ _ _ ?_)
  show Z _ 439 _ _
  rw [lit_5, nI_add]
  refine hZ _ _ _ _ ⟨rfl, vp_in_nI (by omega) (by omega), ?_⟩
  rw [nI_clamp (by omega)]
  show Z _ 440 _ _
  refine hZ _ _ _ _ ⟨⟨_, (by repeat (first | exact up_s | assumption | refine up_n (by omega) ?_))⟩, adl (by omega), rfl, ?_⟩
  refine M_day M1 O (Nat.le_trans hb (by decide)) (fun h2 F2 M2 => ?_)
  show Z h2 443 _ _
  have C2 := C1.fr F2
  refine hZ _ _ _ _ ⟨fun _ => ?_, fun c9 => absurd rfl c9⟩
  exact kk h2 _ C2 M2 (K_day O _ _ _ _ _)
set_option maxHeartbeats 2000000 in
theorem bL8 {l : Launch} {L i : Nat} {xs : Nat → Int32} {Z : AH → Nat → List (Option Value) → List Value → Prop} (hZ : ∀ h pc ls st, FsL l rL8 L xs Z h pc ls st → Z h pc ls st) {h : AH} {s : St} (C : CY h s) (M : MY h s) (O : Ok s) (hb : gr s ≤ 58000) (hi : i + 6 ≤ L) (hL : L ≤ 3072) (kk : ∀ h' s', CY h' s' → MY h' s' → Kp s s' → Z h' 1054 [some (.ref 82), some (.ref 0), some (.ref 61), some (.int (nI i))] []) : Z h 448 [some (.ref 82), some (.ref 0), some (.ref 61), some (.int (nI i))] [] := by
  obtain ⟨f0, m0⟩ := C.obj
  iterate 5 (first | refine hZ _ _ _ _ ⟨rfl, ?_⟩ | refine hZ _ _ _ _ ⟨_, _, (by repeat (first | exact up_s | assumption | refine up_n (by omega) ?_)), adl (by omega), (by rfl), ?_⟩ | refine hZ _ _ _ _ ⟨_, _, (by repeat (first | exact up_s | assumption | refine up_n (by omega) ?_)), adl (by omega), (by first | assumption | exact vp_in_nI (by omega) (by omega)), ?_⟩ | refine hZ _ _ _ _ ⟨_, (by repeat (first | exact up_s | assumption | refine up_n (by omega) ?_)), adl (by omega), (by rfl), trivial, ?_⟩ | refine hZ _ _ _ _ ⟨trivial, ?_⟩ | refine hZ _ _ _ _ ⟨_, _, _, _, (by repeat (first | exact up_s | assumption | refine up_n (by omega) ?_)), (by first | exact Or.inr (Or.inr rfl) | exact Or.inr (Or.inl rfl) | exact Or.inl rfl), adl (by omega), (by first | assumption | exact vp_in_nI (by omega) (by omega)), (by first | exact rowsF_at (by omega) | exact shF_at (by omega)), ?_⟩ | refine hZ _ _ _ _ ?_)
  show Z _ 453 _ _
  rw [lit_1, nI_add]
  refine hZ _ _ _ _ ⟨rfl, vp_in_nI (by omega) (by omega), ?_⟩
  rw [nI_clamp (by omega)]
  show Z _ 454 _ _
  iterate 4 (first | refine hZ _ _ _ _ ⟨rfl, ?_⟩ | refine hZ _ _ _ _ ⟨_, _, (by repeat (first | exact up_s | assumption | refine up_n (by omega) ?_)), adl (by omega), (by rfl), ?_⟩ | refine hZ _ _ _ _ ⟨_, _, (by repeat (first | exact up_s | assumption | refine up_n (by omega) ?_)), adl (by omega), (by first | assumption | exact vp_in_nI (by omega) (by omega)), ?_⟩ | refine hZ _ _ _ _ ⟨_, (by repeat (first | exact up_s | assumption | refine up_n (by omega) ?_)), adl (by omega), (by rfl), trivial, ?_⟩ | refine hZ _ _ _ _ ⟨trivial, ?_⟩ | refine hZ _ _ _ _ ⟨_, _, _, _, (by repeat (first | exact up_s | assumption | refine up_n (by omega) ?_)), (by first | exact Or.inr (Or.inr rfl) | exact Or.inr (Or.inl rfl) | exact Or.inl rfl), adl (by omega), (by first | assumption | exact vp_in_nI (by omega) (by omega)), (by first | exact rowsF_at (by omega) | exact shF_at (by omega)), ?_⟩ | refine hZ _ _ _ _ ?_)
  show Z _ 458 _ _
  rw [lit_2, nI_add]
  refine hZ _ _ _ _ ⟨rfl, vp_in_nI (by omega) (by omega), ?_⟩
  rw [nI_clamp (by omega)]
  show Z _ 459 _ _
  refine hZ _ _ _ _ ⟨⟨_, (by repeat (first | exact up_s | assumption | refine up_n (by omega) ?_))⟩, adl (by omega), rfl, ?_⟩
  refine C_spill C O (Nat.lt_of_le_of_lt hb (by decide)) (fun h1 F1 C1 => ?_)
  show Z h1 462 _ _
  have M1 := M.fr F1 (by omega)
  obtain ⟨f1, m1⟩ := M1.obj
  iterate 5 (first | refine hZ _ _ _ _ ⟨rfl, ?_⟩ | refine hZ _ _ _ _ ⟨_, _, (by repeat (first | exact up_s | assumption | refine up_n (by omega) ?_)), adl (by omega), (by rfl), ?_⟩ | refine hZ _ _ _ _ ⟨_, _, (by repeat (first | exact up_s | assumption | refine up_n (by omega) ?_)), adl (by omega), (by first | assumption | exact vp_in_nI (by omega) (by omega)), ?_⟩ | refine hZ _ _ _ _ ⟨_, (by repeat (first | exact up_s | assumption | refine up_n (by omega) ?_)), adl (by omega), (by rfl), trivial, ?_⟩ | refine hZ _ _ _ _ ⟨trivial, ?_⟩ | refine hZ _ _ _ _ ⟨_, _, _, _, (by repeat (first | exact up_s | assumption | refine up_n (by omega) ?_)), (by first | exact Or.inr (Or.inr rfl) | exact Or.inr (Or.inl rfl) | exact Or.inl rfl), adl (by omega), (by first | assumption | exact vp_in_nI (by omega) (by omega)), (by first | exact rowsF_at (by omega) | exact shF_at (by omega)), ?_⟩ | refine hZ _ _ _ _ ?_)
  show Z _ 467 _ _
  rw [lit_1, nI_add]
  refine hZ _ _ _ _ ⟨rfl, vp_in_nI (by omega) (by omega), ?_⟩
  rw [nI_clamp (by omega)]
  show Z _ 468 _ _
  iterate 4 (first | refine hZ _ _ _ _ ⟨rfl, ?_⟩ | refine hZ _ _ _ _ ⟨_, _, (by repeat (first | exact up_s | assumption | refine up_n (by omega) ?_)), adl (by omega), (by rfl), ?_⟩ | refine hZ _ _ _ _ ⟨_, _, (by repeat (first | exact up_s | assumption | refine up_n (by omega) ?_)), adl (by omega), (by first | assumption | exact vp_in_nI (by omega) (by omega)), ?_⟩ | refine hZ _ _ _ _ ⟨_, (by repeat (first | exact up_s | assumption | refine up_n (by omega) ?_)), adl (by omega), (by rfl), trivial, ?_⟩ | refine hZ _ _ _ _ ⟨trivial, ?_⟩ | refine hZ _ _ _ _ ⟨_, _, _, _, (by repeat (first | exact up_s | assumption | refine up_n (by omega) ?_)), (by first | exact Or.inr (Or.inr rfl) | exact Or.inr (Or.inl rfl) | exact Or.inl rfl), adl (by omega), (by first | assumption | exact vp_in_nI (by omega) (by omega)), (by first | exact rowsF_at (by omega) | exact shF_at (by omega)), ?_⟩ | refine hZ _ _ _ _ ?_)
  show Z _ 472 _ _
  rw [lit_2, nI_add]
  refine hZ _ _ _ _ ⟨rfl, vp_in_nI (by omega) (by omega), ?_⟩
  rw [nI_clamp (by omega)]
  show Z _ 473 _ _
  refine hZ _ _ _ _ ⟨⟨_, (by repeat (first | exact up_s | assumption | refine up_n (by omega) ?_))⟩, adl (by omega), rfl, ?_⟩
  refine M_spill M1 O (Nat.lt_of_le_of_lt hb (by decide)) (fun h2 F2 M2 => ?_)
  show Z h2 476 _ _
  have C2 := C1.fr F2
  refine hZ _ _ _ _ ⟨fun _ => ?_, fun c9 => absurd rfl c9⟩
  exact kk h2 s C2 M2 (Kp.rf O)
set_option maxHeartbeats 2000000 in
theorem bL9 {l : Launch} {L i : Nat} {xs : Nat → Int32} {Z : AH → Nat → List (Option Value) → List Value → Prop} (hZ : ∀ h pc ls st, FsL l rL9 L xs Z h pc ls st → Z h pc ls st) {h : AH} {s : St} (C : CY h s) (M : MY h s) (O : Ok s) (hb : gr s ≤ 58000) (hi : i + 6 ≤ L) (hL : L ≤ 3072) (kk : ∀ h' s', CY h' s' → MY h' s' → Kp s s' → Z h' 1054 [some (.ref 82), some (.ref 0), some (.ref 61), some (.int (nI i))] []) : Z h 481 [some (.ref 82), some (.ref 0), some (.ref 61), some (.int (nI i))] [] := by
  obtain ⟨f0, m0⟩ := C.obj
  iterate 5 (first | refine hZ _ _ _ _ ⟨rfl, ?_⟩ | refine hZ _ _ _ _ ⟨_, _, (by repeat (first | exact up_s | assumption | refine up_n (by omega) ?_)), adl (by omega), (by rfl), ?_⟩ | refine hZ _ _ _ _ ⟨_, _, (by repeat (first | exact up_s | assumption | refine up_n (by omega) ?_)), adl (by omega), (by first | assumption | exact vp_in_nI (by omega) (by omega)), ?_⟩ | refine hZ _ _ _ _ ⟨_, (by repeat (first | exact up_s | assumption | refine up_n (by omega) ?_)), adl (by omega), (by rfl), trivial, ?_⟩ | refine hZ _ _ _ _ ⟨trivial, ?_⟩ | refine hZ _ _ _ _ ⟨_, _, _, _, (by repeat (first | exact up_s | assumption | refine up_n (by omega) ?_)), (by first | exact Or.inr (Or.inr rfl) | exact Or.inr (Or.inl rfl) | exact Or.inl rfl), adl (by omega), (by first | assumption | exact vp_in_nI (by omega) (by omega)), (by first | exact rowsF_at (by omega) | exact shF_at (by omega)), ?_⟩ | refine hZ _ _ _ _ ?_)
  show Z _ 486 _ _
  rw [lit_1, nI_add]
  refine hZ _ _ _ _ ⟨rfl, vp_in_nI (by omega) (by omega), ?_⟩
  rw [nI_clamp (by omega)]
  show Z _ 487 _ _
  iterate 4 (first | refine hZ _ _ _ _ ⟨rfl, ?_⟩ | refine hZ _ _ _ _ ⟨_, _, (by repeat (first | exact up_s | assumption | refine up_n (by omega) ?_)), adl (by omega), (by rfl), ?_⟩ | refine hZ _ _ _ _ ⟨_, _, (by repeat (first | exact up_s | assumption | refine up_n (by omega) ?_)), adl (by omega), (by first | assumption | exact vp_in_nI (by omega) (by omega)), ?_⟩ | refine hZ _ _ _ _ ⟨_, (by repeat (first | exact up_s | assumption | refine up_n (by omega) ?_)), adl (by omega), (by rfl), trivial, ?_⟩ | refine hZ _ _ _ _ ⟨trivial, ?_⟩ | refine hZ _ _ _ _ ⟨_, _, _, _, (by repeat (first | exact up_s | assumption | refine up_n (by omega) ?_)), (by first | exact Or.inr (Or.inr rfl) | exact Or.inr (Or.inl rfl) | exact Or.inl rfl), adl (by omega), (by first | assumption | exact vp_in_nI (by omega) (by omega)), (by first | exact rowsF_at (by omega) | exact shF_at (by omega)), ?_⟩ | refine hZ _ _ _ _ ?_)
  show Z _ 491 _ _
  rw [lit_2, nI_add]
  refine hZ _ _ _ _ ⟨rfl, vp_in_nI (by omega) (by omega), ?_⟩
  rw [nI_clamp (by omega)]
  show Z _ 492 _ _
  refine hZ _ _ _ _ ⟨⟨_, (by repeat (first | exact up_s | assumption | refine up_n (by omega) ?_))⟩, adl (by omega), rfl, ?_⟩
  refine C_again C O (Nat.le_trans hb (by decide)) (fun h1 F1 C1 => ?_)
  show Z h1 495 _ _
  have M1 := M.fr F1 (by omega)
  obtain ⟨f1, m1⟩ := M1.obj
  iterate 5 (first | refine hZ _ _ _ _ ⟨rfl, ?_⟩ | refine hZ _ _ _ _ ⟨_, _, (by repeat (first | exact up_s | assumption | refine up_n (by omega) ?_)), adl (by omega), (by rfl), ?_⟩ | refine hZ _ _ _ _ ⟨_, _, (by repeat (first | exact up_s | assumption | refine up_n (by omega) ?_)), adl (by omega), (by first | assumption | exact vp_in_nI (by omega) (by omega)), ?_⟩ | refine hZ _ _ _ _ ⟨_, (by repeat (first | exact up_s | assumption | refine up_n (by omega) ?_)), adl (by omega), (by rfl), trivial, ?_⟩ | refine hZ _ _ _ _ ⟨trivial, ?_⟩ | refine hZ _ _ _ _ ⟨_, _, _, _, (by repeat (first | exact up_s | assumption | refine up_n (by omega) ?_)), (by first | exact Or.inr (Or.inr rfl) | exact Or.inr (Or.inl rfl) | exact Or.inl rfl), adl (by omega), (by first | assumption | exact vp_in_nI (by omega) (by omega)), (by first | exact rowsF_at (by omega) | exact shF_at (by omega)), ?_⟩ | refine hZ _ _ _ _ ?_)
  show Z _ 500 _ _
  rw [lit_1, nI_add]
  refine hZ _ _ _ _ ⟨rfl, vp_in_nI (by omega) (by omega), ?_⟩
  rw [nI_clamp (by omega)]
  show Z _ 501 _ _
  iterate 4 (first | refine hZ _ _ _ _ ⟨rfl, ?_⟩ | refine hZ _ _ _ _ ⟨_, _, (by repeat (first | exact up_s | assumption | refine up_n (by omega) ?_)), adl (by omega), (by rfl), ?_⟩ | refine hZ _ _ _ _ ⟨_, _, (by repeat (first | exact up_s | assumption | refine up_n (by omega) ?_)), adl (by omega), (by first | assumption | exact vp_in_nI (by omega) (by omega)), ?_⟩ | refine hZ _ _ _ _ ⟨_, (by repeat (first | exact up_s | assumption | refine up_n (by omega) ?_)), adl (by omega), (by rfl), trivial, ?_⟩ | refine hZ _ _ _ _ ⟨trivial, ?_⟩ | refine hZ _ _ _ _ ⟨_, _, _, _, (by repeat (first | exact up_s | assumption | refine up_n (by omega) ?_)), (by first | exact Or.inr (Or.inr rfl) | exact Or.inr (Or.inl rfl) | exact Or.inl rfl), adl (by omega), (by first | assumption | exact vp_in_nI (by omega) (by omega)), (by first | exact rowsF_at (by omega) | exact shF_at (by omega)), ?_⟩ | refine hZ _ _ _ _ ?_)
  show Z _ 505 _ _
  rw [lit_2, nI_add]
  refine hZ _ _ _ _ ⟨rfl, vp_in_nI (by omega) (by omega), ?_⟩
  rw [nI_clamp (by omega)]
  show Z _ 506 _ _
  refine hZ _ _ _ _ ⟨⟨_, (by repeat (first | exact up_s | assumption | refine up_n (by omega) ?_))⟩, adl (by omega), rfl, ?_⟩
  refine M_again M1 O (Nat.le_trans hb (by decide)) (fun h2 F2 M2 => ?_)
  show Z h2 509 _ _
  have C2 := C1.fr F2
  refine hZ _ _ _ _ ⟨fun _ => ?_, fun c9 => absurd rfl c9⟩
  exact kk h2 s C2 M2 (Kp.rf O)
set_option maxHeartbeats 2000000 in
theorem bL10 {l : Launch} {L i : Nat} {xs : Nat → Int32} {Z : AH → Nat → List (Option Value) → List Value → Prop} (hZ : ∀ h pc ls st, FsL l rL10 L xs Z h pc ls st → Z h pc ls st) {h : AH} {s : St} (C : CY h s) (M : MY h s) (O : Ok s) (hb : gr s ≤ 58000) (hi : i + 6 ≤ L) (hL : L ≤ 3072) (kk : ∀ h' s', CY h' s' → MY h' s' → Kp s s' → Z h' 1054 [some (.ref 82), some (.ref 0), some (.ref 61), some (.int (nI i))] []) : Z h 514 [some (.ref 82), some (.ref 0), some (.ref 61), some (.int (nI i))] [] := by
  obtain ⟨f0, m0⟩ := C.obj
  have hx30 : ∀ q, q < s.1.1 → s.2.1.1 q < 2 ^ 30 := fun q hq => Nat.lt_of_le_of_lt (Nat.le_trans (sm_ge (f := s.2.1.1) hq) hb) (by decide)
  iterate 1 (first | refine hZ _ _ _ _ ⟨rfl, ?_⟩ | refine hZ _ _ _ _ ⟨_, _, (by repeat (first | exact up_s | assumption | refine up_n (by omega) ?_)), adl (by omega), (by rfl), ?_⟩ | refine hZ _ _ _ _ ⟨_, _, (by repeat (first | exact up_s | assumption | refine up_n (by omega) ?_)), adl (by omega), (by first | assumption | exact vp_in_nI (by omega) (by omega)), ?_⟩ | refine hZ _ _ _ _ ⟨_, (by repeat (first | exact up_s | assumption | refine up_n (by omega) ?_)), adl (by omega), (by rfl), trivial, ?_⟩ | refine hZ _ _ _ _ ⟨trivial, ?_⟩ | refine hZ _ _ _ _ ⟨_, _, _, _, (by repeat (first | exact up_s | assumption | refine up_n (by omega) ?_)), (by first | exact Or.inr (Or.inr rfl) | exact Or.inr (Or.inl rfl) | exact Or.inl rfl), adl (by omega), (by first | assumption | exact vp_in_nI (by omega) (by omega)), (by first | exact rowsF_at (by omega) | exact shF_at (by omega)), ?_⟩ | refine hZ _ _ _ _ ?_)
  show Z _ 515 _ _
  refine hZ _ _ _ _ ⟨⟨_, (by repeat (first | exact up_s | assumption | refine up_n (by omega) ?_))⟩, adl (by omega), rfl, ?_⟩
  refine C_burnt C O hx30 (fun h1 F1 C1 => ?_)
  show Z h1 518 _ _
  have M1 := M.fr F1 (by omega)
  obtain ⟨f1, m1⟩ := M1.obj
  iterate 1 (first | refine hZ _ _ _ _ ⟨rfl, ?_⟩ | refine hZ _ _ _ _ ⟨_, _, (by repeat (first | exact up_s | assumption | refine up_n (by omega) ?_)), adl (by omega), (by rfl), ?_⟩ | refine hZ _ _ _ _ ⟨_, _, (by repeat (first | exact up_s | assumption | refine up_n (by omega) ?_)), adl (by omega), (by first | assumption | exact vp_in_nI (by omega) (by omega)), ?_⟩ | refine hZ _ _ _ _ ⟨_, (by repeat (first | exact up_s | assumption | refine up_n (by omega) ?_)), adl (by omega), (by rfl), trivial, ?_⟩ | refine hZ _ _ _ _ ⟨trivial, ?_⟩ | refine hZ _ _ _ _ ⟨_, _, _, _, (by repeat (first | exact up_s | assumption | refine up_n (by omega) ?_)), (by first | exact Or.inr (Or.inr rfl) | exact Or.inr (Or.inl rfl) | exact Or.inl rfl), adl (by omega), (by first | assumption | exact vp_in_nI (by omega) (by omega)), (by first | exact rowsF_at (by omega) | exact shF_at (by omega)), ?_⟩ | refine hZ _ _ _ _ ?_)
  show Z _ 519 _ _
  refine hZ _ _ _ _ ⟨⟨_, (by repeat (first | exact up_s | assumption | refine up_n (by omega) ?_))⟩, adl (by omega), rfl, ?_⟩
  refine M_burnt M1 O hx30 (fun h2 F2 M2 => ?_)
  show Z h2 522 _ _
  have C2 := C1.fr F2
  refine hZ _ _ _ _ ⟨fun _ => ?_, fun c9 => absurd rfl c9⟩
  exact kk h2 s C2 M2 (Kp.rf O)
set_option maxHeartbeats 2000000 in
theorem bL11 {l : Launch} {L i : Nat} {xs : Nat → Int32} {Z : AH → Nat → List (Option Value) → List Value → Prop} (hZ : ∀ h pc ls st, FsL l rL11 L xs Z h pc ls st → Z h pc ls st) {h : AH} {s : St} (C : CY h s) (M : MY h s) (O : Ok s) (hb : gr s ≤ 58000) (hi : i + 6 ≤ L) (hL : L ≤ 3072) (kk : ∀ h' s', CY h' s' → MY h' s' → Kp s s' → Z h' 1054 [some (.ref 82), some (.ref 0), some (.ref 61), some (.int (nI i))] []) : Z h 527 [some (.ref 82), some (.ref 0), some (.ref 61), some (.int (nI i))] [] := by
  obtain ⟨f0, m0⟩ := C.obj
  iterate 1 (first | refine hZ _ _ _ _ ⟨rfl, ?_⟩ | refine hZ _ _ _ _ ⟨_, _, (by repeat (first | exact up_s | assumption | refine up_n (by omega) ?_)), adl (by omega), (by rfl), ?_⟩ | refine hZ _ _ _ _ ⟨_, _, (by repeat (first | exact up_s | assumption | refine up_n (by omega) ?_)), adl (by omega), (by first | assumption | exact vp_in_nI (by omega) (by omega)), ?_⟩ | refine hZ _ _ _ _ ⟨_, (by repeat (first | exact up_s | assumption | refine up_n (by omega) ?_)), adl (by omega), (by rfl), trivial, ?_⟩ | refine hZ _ _ _ _ ⟨trivial, ?_⟩ | refine hZ _ _ _ _ ⟨_, _, _, _, (by repeat (first | exact up_s | assumption | refine up_n (by omega) ?_)), (by first | exact Or.inr (Or.inr rfl) | exact Or.inr (Or.inl rfl) | exact Or.inl rfl), adl (by omega), (by first | assumption | exact vp_in_nI (by omega) (by omega)), (by first | exact rowsF_at (by omega) | exact shF_at (by omega)), ?_⟩ | refine hZ _ _ _ _ ?_)
  show Z _ 528 _ _
  refine hZ _ _ _ _ ⟨⟨_, (by repeat (first | exact up_s | assumption | refine up_n (by omega) ?_))⟩, adl (by omega), rfl, ?_⟩
  refine C_trees C O (fun h1 F1 C1 => ?_)
  show Z h1 531 _ _
  have M1 := M.fr F1 (by omega)
  obtain ⟨f1, m1⟩ := M1.obj
  iterate 1 (first | refine hZ _ _ _ _ ⟨rfl, ?_⟩ | refine hZ _ _ _ _ ⟨_, _, (by repeat (first | exact up_s | assumption | refine up_n (by omega) ?_)), adl (by omega), (by rfl), ?_⟩ | refine hZ _ _ _ _ ⟨_, _, (by repeat (first | exact up_s | assumption | refine up_n (by omega) ?_)), adl (by omega), (by first | assumption | exact vp_in_nI (by omega) (by omega)), ?_⟩ | refine hZ _ _ _ _ ⟨_, (by repeat (first | exact up_s | assumption | refine up_n (by omega) ?_)), adl (by omega), (by rfl), trivial, ?_⟩ | refine hZ _ _ _ _ ⟨trivial, ?_⟩ | refine hZ _ _ _ _ ⟨_, _, _, _, (by repeat (first | exact up_s | assumption | refine up_n (by omega) ?_)), (by first | exact Or.inr (Or.inr rfl) | exact Or.inr (Or.inl rfl) | exact Or.inl rfl), adl (by omega), (by first | assumption | exact vp_in_nI (by omega) (by omega)), (by first | exact rowsF_at (by omega) | exact shF_at (by omega)), ?_⟩ | refine hZ _ _ _ _ ?_)
  show Z _ 532 _ _
  refine hZ _ _ _ _ ⟨⟨_, (by repeat (first | exact up_s | assumption | refine up_n (by omega) ?_))⟩, adl (by omega), rfl, ?_⟩
  refine M_trees M1 O (fun h2 F2 M2 => ?_)
  show Z h2 535 _ _
  have C2 := C1.fr F2
  iterate 1 (first | refine hZ _ _ _ _ ⟨rfl, ?_⟩ | refine hZ _ _ _ _ ⟨_, _, (by repeat (first | exact up_s | assumption | refine up_n (by omega) ?_)), adl (by omega), (by rfl), ?_⟩ | refine hZ _ _ _ _ ⟨_, _, (by repeat (first | exact up_s | assumption | refine up_n (by omega) ?_)), adl (by omega), (by first | assumption | exact vp_in_nI (by omega) (by omega)), ?_⟩ | refine hZ _ _ _ _ ⟨_, (by repeat (first | exact up_s | assumption | refine up_n (by omega) ?_)), adl (by omega), (by rfl), trivial, ?_⟩ | refine hZ _ _ _ _ ⟨trivial, ?_⟩ | refine hZ _ _ _ _ ⟨_, _, _, _, (by repeat (first | exact up_s | assumption | refine up_n (by omega) ?_)), (by first | exact Or.inr (Or.inr rfl) | exact Or.inr (Or.inl rfl) | exact Or.inl rfl), adl (by omega), (by first | assumption | exact vp_in_nI (by omega) (by omega)), (by first | exact rowsF_at (by omega) | exact shF_at (by omega)), ?_⟩ | refine hZ _ _ _ _ ?_)
  show Z _ 536 _ _
  rw [lcmp_rf]
  refine hZ _ _ _ _ ⟨fun _ => ?_, fun c9 => absurd rfl c9⟩
  exact kk h2 s C2 M2 (Kp.rf O)
set_option maxHeartbeats 2000000 in
theorem bL12 {l : Launch} {L i : Nat} {xs : Nat → Int32} {Z : AH → Nat → List (Option Value) → List Value → Prop} (hZ : ∀ h pc ls st, FsL l rL12 L xs Z h pc ls st → Z h pc ls st) {h : AH} {s : St} (C : CY h s) (M : MY h s) (O : Ok s) (hb : gr s ≤ 58000) (hi : i + 6 ≤ L) (hL : L ≤ 3072) (kk : ∀ h' s', CY h' s' → MY h' s' → Kp s s' → Z h' 1054 [some (.ref 82), some (.ref 0), some (.ref 61), some (.int (nI i))] []) : Z h 541 [some (.ref 82), some (.ref 0), some (.ref 61), some (.int (nI i))] [] := by
  obtain ⟨f0, m0⟩ := C.obj
  have hx59 : ∀ q, q < s.1.1 → s.2.1.1 q ≤ 59000 := fun q hq => Nat.le_trans (Nat.le_trans (sm_ge (f := s.2.1.1) hq) hb) (by decide)
  iterate 5 (first | refine hZ _ _ _ _ ⟨rfl, ?_⟩ | refine hZ _ _ _ _ ⟨_, _, (by repeat (first | exact up_s | assumption | refine up_n (by omega) ?_)), adl (by omega), (by rfl), ?_⟩ | refine hZ _ _ _ _ ⟨_, _, (by repeat (first | exact up_s | assumption | refine up_n (by omega) ?_)), adl (by omega), (by first | assumption | exact vp_in_nI (by omega) (by omega)), ?_⟩ | refine hZ _ _ _ _ ⟨_, (by repeat (first | exact up_s | assumption | refine up_n (by omega) ?_)), adl (by omega), (by rfl), trivial, ?_⟩ | refine hZ _ _ _ _ ⟨trivial, ?_⟩ | refine hZ _ _ _ _ ⟨_, _, _, _, (by repeat (first | exact up_s | assumption | refine up_n (by omega) ?_)), (by first | exact Or.inr (Or.inr rfl) | exact Or.inr (Or.inl rfl) | exact Or.inl rfl), adl (by omega), (by first | assumption | exact vp_in_nI (by omega) (by omega)), (by first | exact rowsF_at (by omega) | exact shF_at (by omega)), ?_⟩ | refine hZ _ _ _ _ ?_)
  show Z _ 546 _ _
  rw [lit_1, nI_add]
  refine hZ _ _ _ _ ⟨rfl, vp_in_nI (by omega) (by omega), ?_⟩
  rw [nI_clamp (by omega)]
  show Z _ 547 _ _
  iterate 4 (first | refine hZ _ _ _ _ ⟨rfl, ?_⟩ | refine hZ _ _ _ _ ⟨_, _, (by repeat (first | exact up_s | assumption | refine up_n (by omega) ?_)), adl (by omega), (by rfl), ?_⟩ | refine hZ _ _ _ _ ⟨_, _, (by repeat (first | exact up_s | assumption | refine up_n (by omega) ?_)), adl (by omega), (by first | assumption | exact vp_in_nI (by omega) (by omega)), ?_⟩ | refine hZ _ _ _ _ ⟨_, (by repeat (first | exact up_s | assumption | refine up_n (by omega) ?_)), adl (by omega), (by rfl), trivial, ?_⟩ | refine hZ _ _ _ _ ⟨trivial, ?_⟩ | refine hZ _ _ _ _ ⟨_, _, _, _, (by repeat (first | exact up_s | assumption | refine up_n (by omega) ?_)), (by first | exact Or.inr (Or.inr rfl) | exact Or.inr (Or.inl rfl) | exact Or.inl rfl), adl (by omega), (by first | assumption | exact vp_in_nI (by omega) (by omega)), (by first | exact rowsF_at (by omega) | exact shF_at (by omega)), ?_⟩ | refine hZ _ _ _ _ ?_)
  show Z _ 551 _ _
  rw [lit_2, nI_add]
  refine hZ _ _ _ _ ⟨rfl, vp_in_nI (by omega) (by omega), ?_⟩
  rw [nI_clamp (by omega)]
  show Z _ 552 _ _
  iterate 4 (first | refine hZ _ _ _ _ ⟨rfl, ?_⟩ | refine hZ _ _ _ _ ⟨_, _, (by repeat (first | exact up_s | assumption | refine up_n (by omega) ?_)), adl (by omega), (by rfl), ?_⟩ | refine hZ _ _ _ _ ⟨_, _, (by repeat (first | exact up_s | assumption | refine up_n (by omega) ?_)), adl (by omega), (by first | assumption | exact vp_in_nI (by omega) (by omega)), ?_⟩ | refine hZ _ _ _ _ ⟨_, (by repeat (first | exact up_s | assumption | refine up_n (by omega) ?_)), adl (by omega), (by rfl), trivial, ?_⟩ | refine hZ _ _ _ _ ⟨trivial, ?_⟩ | refine hZ _ _ _ _ ⟨_, _, _, _, (by repeat (first | exact up_s | assumption | refine up_n (by omega) ?_)), (by first | exact Or.inr (Or.inr rfl) | exact Or.inr (Or.inl rfl) | exact Or.inl rfl), adl (by omega), (by first | assumption | exact vp_in_nI (by omega) (by omega)), (by first | exact rowsF_at (by omega) | exact shF_at (by omega)), ?_⟩ | refine hZ _ _ _ _ ?_)
  show Z _ 556 _ _
  rw [lit_3, nI_add]
  refine hZ _ _ _ _ ⟨rfl, vp_in_nI (by omega) (by omega), ?_⟩
  rw [nI_clamp (by omega)]
  show Z _ 557 _ _
  refine hZ _ _ _ _ ⟨⟨_, (by repeat (first | exact up_s | assumption | refine up_n (by omega) ?_))⟩, adl (by omega), rfl, ?_⟩
  refine C_alike C O hx59 (fun h1 F1 C1 => ?_)
  show Z h1 560 _ _
  have M1 := M.fr F1 (by omega)
  obtain ⟨f1, m1⟩ := M1.obj
  iterate 5 (first | refine hZ _ _ _ _ ⟨rfl, ?_⟩ | refine hZ _ _ _ _ ⟨_, _, (by repeat (first | exact up_s | assumption | refine up_n (by omega) ?_)), adl (by omega), (by rfl), ?_⟩ | refine hZ _ _ _ _ ⟨_, _, (by repeat (first | exact up_s | assumption | refine up_n (by omega) ?_)), adl (by omega), (by first | assumption | exact vp_in_nI (by omega) (by omega)), ?_⟩ | refine hZ _ _ _ _ ⟨_, (by repeat (first | exact up_s | assumption | refine up_n (by omega) ?_)), adl (by omega), (by rfl), trivial, ?_⟩ | refine hZ _ _ _ _ ⟨trivial, ?_⟩ | refine hZ _ _ _ _ ⟨_, _, _, _, (by repeat (first | exact up_s | assumption | refine up_n (by omega) ?_)), (by first | exact Or.inr (Or.inr rfl) | exact Or.inr (Or.inl rfl) | exact Or.inl rfl), adl (by omega), (by first | assumption | exact vp_in_nI (by omega) (by omega)), (by first | exact rowsF_at (by omega) | exact shF_at (by omega)), ?_⟩ | refine hZ _ _ _ _ ?_)
  show Z _ 565 _ _
  rw [lit_1, nI_add]
  refine hZ _ _ _ _ ⟨rfl, vp_in_nI (by omega) (by omega), ?_⟩
  rw [nI_clamp (by omega)]
  show Z _ 566 _ _
  iterate 4 (first | refine hZ _ _ _ _ ⟨rfl, ?_⟩ | refine hZ _ _ _ _ ⟨_, _, (by repeat (first | exact up_s | assumption | refine up_n (by omega) ?_)), adl (by omega), (by rfl), ?_⟩ | refine hZ _ _ _ _ ⟨_, _, (by repeat (first | exact up_s | assumption | refine up_n (by omega) ?_)), adl (by omega), (by first | assumption | exact vp_in_nI (by omega) (by omega)), ?_⟩ | refine hZ _ _ _ _ ⟨_, (by repeat (first | exact up_s | assumption | refine up_n (by omega) ?_)), adl (by omega), (by rfl), trivial, ?_⟩ | refine hZ _ _ _ _ ⟨trivial, ?_⟩ | refine hZ _ _ _ _ ⟨_, _, _, _, (by repeat (first | exact up_s | assumption | refine up_n (by omega) ?_)), (by first | exact Or.inr (Or.inr rfl) | exact Or.inr (Or.inl rfl) | exact Or.inl rfl), adl (by omega), (by first | assumption | exact vp_in_nI (by omega) (by omega)), (by first | exact rowsF_at (by omega) | exact shF_at (by omega)), ?_⟩ | refine hZ _ _ _ _ ?_)
  show Z _ 570 _ _
  rw [lit_2, nI_add]
  refine hZ _ _ _ _ ⟨rfl, vp_in_nI (by omega) (by omega), ?_⟩
  rw [nI_clamp (by omega)]
  show Z _ 571 _ _
  iterate 4 (first | refine hZ _ _ _ _ ⟨rfl, ?_⟩ | refine hZ _ _ _ _ ⟨_, _, (by repeat (first | exact up_s | assumption | refine up_n (by omega) ?_)), adl (by omega), (by rfl), ?_⟩ | refine hZ _ _ _ _ ⟨_, _, (by repeat (first | exact up_s | assumption | refine up_n (by omega) ?_)), adl (by omega), (by first | assumption | exact vp_in_nI (by omega) (by omega)), ?_⟩ | refine hZ _ _ _ _ ⟨_, (by repeat (first | exact up_s | assumption | refine up_n (by omega) ?_)), adl (by omega), (by rfl), trivial, ?_⟩ | refine hZ _ _ _ _ ⟨trivial, ?_⟩ | refine hZ _ _ _ _ ⟨_, _, _, _, (by repeat (first | exact up_s | assumption | refine up_n (by omega) ?_)), (by first | exact Or.inr (Or.inr rfl) | exact Or.inr (Or.inl rfl) | exact Or.inl rfl), adl (by omega), (by first | assumption | exact vp_in_nI (by omega) (by omega)), (by first | exact rowsF_at (by omega) | exact shF_at (by omega)), ?_⟩ | refine hZ _ _ _ _ ?_)
  show Z _ 575 _ _
  rw [lit_3, nI_add]
  refine hZ _ _ _ _ ⟨rfl, vp_in_nI (by omega) (by omega), ?_⟩
  rw [nI_clamp (by omega)]
  show Z _ 576 _ _
  refine hZ _ _ _ _ ⟨⟨_, (by repeat (first | exact up_s | assumption | refine up_n (by omega) ?_))⟩, adl (by omega), rfl, ?_⟩
  refine M_alike M1 O hx59 (fun h2 F2 M2 => ?_)
  show Z h2 579 _ _
  have C2 := C1.fr F2
  refine hZ _ _ _ _ ⟨fun _ => ?_, fun c9 => absurd rfl c9⟩
  exact kk h2 _ C2 M2 (K_alike O _ _ _)
set_option maxHeartbeats 2000000 in
theorem bL13 {l : Launch} {L i : Nat} {xs : Nat → Int32} {Z : AH → Nat → List (Option Value) → List Value → Prop} (hZ : ∀ h pc ls st, FsL l rL13 L xs Z h pc ls st → Z h pc ls st) {h : AH} {s : St} (C : CY h s) (M : MY h s) (O : Ok s) (hb : gr s ≤ 58000) (hi : i + 6 ≤ L) (hL : L ≤ 3072) (kk : ∀ h' s', CY h' s' → MY h' s' → Kp s s' → Z h' 1054 [some (.ref 82), some (.ref 0), some (.ref 61), some (.int (nI i))] []) : Z h 584 [some (.ref 82), some (.ref 0), some (.ref 61), some (.int (nI i))] [] := by
  obtain ⟨f0, m0⟩ := C.obj
  iterate 5 (first | refine hZ _ _ _ _ ⟨rfl, ?_⟩ | refine hZ _ _ _ _ ⟨_, _, (by repeat (first | exact up_s | assumption | refine up_n (by omega) ?_)), adl (by omega), (by rfl), ?_⟩ | refine hZ _ _ _ _ ⟨_, _, (by repeat (first | exact up_s | assumption | refine up_n (by omega) ?_)), adl (by omega), (by first | assumption | exact vp_in_nI (by omega) (by omega)), ?_⟩ | refine hZ _ _ _ _ ⟨_, (by repeat (first | exact up_s | assumption | refine up_n (by omega) ?_)), adl (by omega), (by rfl), trivial, ?_⟩ | refine hZ _ _ _ _ ⟨trivial, ?_⟩ | refine hZ _ _ _ _ ⟨_, _, _, _, (by repeat (first | exact up_s | assumption | refine up_n (by omega) ?_)), (by first | exact Or.inr (Or.inr rfl) | exact Or.inr (Or.inl rfl) | exact Or.inl rfl), adl (by omega), (by first | assumption | exact vp_in_nI (by omega) (by omega)), (by first | exact rowsF_at (by omega) | exact shF_at (by omega)), ?_⟩ | refine hZ _ _ _ _ ?_)
  show Z _ 589 _ _
  rw [lit_1, nI_add]
  refine hZ _ _ _ _ ⟨rfl, vp_in_nI (by omega) (by omega), ?_⟩
  rw [nI_clamp (by omega)]
  show Z _ 590 _ _
  iterate 4 (first | refine hZ _ _ _ _ ⟨rfl, ?_⟩ | refine hZ _ _ _ _ ⟨_, _, (by repeat (first | exact up_s | assumption | refine up_n (by omega) ?_)), adl (by omega), (by rfl), ?_⟩ | refine hZ _ _ _ _ ⟨_, _, (by repeat (first | exact up_s | assumption | refine up_n (by omega) ?_)), adl (by omega), (by first | assumption | exact vp_in_nI (by omega) (by omega)), ?_⟩ | refine hZ _ _ _ _ ⟨_, (by repeat (first | exact up_s | assumption | refine up_n (by omega) ?_)), adl (by omega), (by rfl), trivial, ?_⟩ | refine hZ _ _ _ _ ⟨trivial, ?_⟩ | refine hZ _ _ _ _ ⟨_, _, _, _, (by repeat (first | exact up_s | assumption | refine up_n (by omega) ?_)), (by first | exact Or.inr (Or.inr rfl) | exact Or.inr (Or.inl rfl) | exact Or.inl rfl), adl (by omega), (by first | assumption | exact vp_in_nI (by omega) (by omega)), (by first | exact rowsF_at (by omega) | exact shF_at (by omega)), ?_⟩ | refine hZ _ _ _ _ ?_)
  show Z _ 594 _ _
  rw [lit_2, nI_add]
  refine hZ _ _ _ _ ⟨rfl, vp_in_nI (by omega) (by omega), ?_⟩
  rw [nI_clamp (by omega)]
  show Z _ 595 _ _
  refine hZ _ _ _ _ ⟨⟨_, (by repeat (first | exact up_s | assumption | refine up_n (by omega) ?_))⟩, adl (by omega), rfl, ?_⟩
  refine C_reading C O (fun h1 F1 C1 => ?_)
  show Z h1 598 _ _
  have M1 := M.fr F1 (by omega)
  obtain ⟨f1, m1⟩ := M1.obj
  iterate 5 (first | refine hZ _ _ _ _ ⟨rfl, ?_⟩ | refine hZ _ _ _ _ ⟨_, _, (by repeat (first | exact up_s | assumption | refine up_n (by omega) ?_)), adl (by omega), (by rfl), ?_⟩ | refine hZ _ _ _ _ ⟨_, _, (by repeat (first | exact up_s | assumption | refine up_n (by omega) ?_)), adl (by omega), (by first | assumption | exact vp_in_nI (by omega) (by omega)), ?_⟩ | refine hZ _ _ _ _ ⟨_, (by repeat (first | exact up_s | assumption | refine up_n (by omega) ?_)), adl (by omega), (by rfl), trivial, ?_⟩ | refine hZ _ _ _ _ ⟨trivial, ?_⟩ | refine hZ _ _ _ _ ⟨_, _, _, _, (by repeat (first | exact up_s | assumption | refine up_n (by omega) ?_)), (by first | exact Or.inr (Or.inr rfl) | exact Or.inr (Or.inl rfl) | exact Or.inl rfl), adl (by omega), (by first | assumption | exact vp_in_nI (by omega) (by omega)), (by first | exact rowsF_at (by omega) | exact shF_at (by omega)), ?_⟩ | refine hZ _ _ _ _ ?_)
  show Z _ 603 _ _
  rw [lit_1, nI_add]
  refine hZ _ _ _ _ ⟨rfl, vp_in_nI (by omega) (by omega), ?_⟩
  rw [nI_clamp (by omega)]
  show Z _ 604 _ _
  iterate 4 (first | refine hZ _ _ _ _ ⟨rfl, ?_⟩ | refine hZ _ _ _ _ ⟨_, _, (by repeat (first | exact up_s | assumption | refine up_n (by omega) ?_)), adl (by omega), (by rfl), ?_⟩ | refine hZ _ _ _ _ ⟨_, _, (by repeat (first | exact up_s | assumption | refine up_n (by omega) ?_)), adl (by omega), (by first | assumption | exact vp_in_nI (by omega) (by omega)), ?_⟩ | refine hZ _ _ _ _ ⟨_, (by repeat (first | exact up_s | assumption | refine up_n (by omega) ?_)), adl (by omega), (by rfl), trivial, ?_⟩ | refine hZ _ _ _ _ ⟨trivial, ?_⟩ | refine hZ _ _ _ _ ⟨_, _, _, _, (by repeat (first | exact up_s | assumption | refine up_n (by omega) ?_)), (by first | exact Or.inr (Or.inr rfl) | exact Or.inr (Or.inl rfl) | exact Or.inl rfl), adl (by omega), (by first | assumption | exact vp_in_nI (by omega) (by omega)), (by first | exact rowsF_at (by omega) | exact shF_at (by omega)), ?_⟩ | refine hZ _ _ _ _ ?_)
  show Z _ 608 _ _
  rw [lit_2, nI_add]
  refine hZ _ _ _ _ ⟨rfl, vp_in_nI (by omega) (by omega), ?_⟩
  rw [nI_clamp (by omega)]
  show Z _ 609 _ _
  refine hZ _ _ _ _ ⟨⟨_, (by repeat (first | exact up_s | assumption | refine up_n (by omega) ?_))⟩, adl (by omega), rfl, ?_⟩
  refine M_reading M1 O (fun h2 F2 M2 => ?_)
  show Z h2 612 _ _
  have C2 := C1.fr F2
  refine hZ _ _ _ _ ⟨fun _ => ?_, fun c9 => absurd rfl c9⟩
  exact kk h2 _ C2 M2 (K_reading O _ _)
set_option maxHeartbeats 2000000 in
theorem bL14 {l : Launch} {L i : Nat} {xs : Nat → Int32} {Z : AH → Nat → List (Option Value) → List Value → Prop} (hZ : ∀ h pc ls st, FsL l rL14 L xs Z h pc ls st → Z h pc ls st) {h : AH} {s : St} (C : CY h s) (M : MY h s) (O : Ok s) (hb : gr s ≤ 58000) (hi : i + 6 ≤ L) (hL : L ≤ 3072) (kk : ∀ h' s', CY h' s' → MY h' s' → Kp s s' → Z h' 1054 [some (.ref 82), some (.ref 0), some (.ref 61), some (.int (nI i))] []) : Z h 617 [some (.ref 82), some (.ref 0), some (.ref 61), some (.int (nI i))] [] := by
  obtain ⟨f0, m0⟩ := C.obj
  iterate 5 (first | refine hZ _ _ _ _ ⟨rfl, ?_⟩ | refine hZ _ _ _ _ ⟨_, _, (by repeat (first | exact up_s | assumption | refine up_n (by omega) ?_)), adl (by omega), (by rfl), ?_⟩ | refine hZ _ _ _ _ ⟨_, _, (by repeat (first | exact up_s | assumption | refine up_n (by omega) ?_)), adl (by omega), (by first | assumption | exact vp_in_nI (by omega) (by omega)), ?_⟩ | refine hZ _ _ _ _ ⟨_, (by repeat (first | exact up_s | assumption | refine up_n (by omega) ?_)), adl (by omega), (by rfl), trivial, ?_⟩ | refine hZ _ _ _ _ ⟨trivial, ?_⟩ | refine hZ _ _ _ _ ⟨_, _, _, _, (by repeat (first | exact up_s | assumption | refine up_n (by omega) ?_)), (by first | exact Or.inr (Or.inr rfl) | exact Or.inr (Or.inl rfl) | exact Or.inl rfl), adl (by omega), (by first | assumption | exact vp_in_nI (by omega) (by omega)), (by first | exact rowsF_at (by omega) | exact shF_at (by omega)), ?_⟩ | refine hZ _ _ _ _ ?_)
  show Z _ 622 _ _
  rw [lit_1, nI_add]
  refine hZ _ _ _ _ ⟨rfl, vp_in_nI (by omega) (by omega), ?_⟩
  rw [nI_clamp (by omega)]
  show Z _ 623 _ _
  refine hZ _ _ _ _ ⟨⟨_, (by repeat (first | exact up_s | assumption | refine up_n (by omega) ?_))⟩, adl (by omega), rfl, ?_⟩
  refine C_back C O (fun h1 F1 C1 => ?_)
  show Z h1 626 _ _
  have M1 := M.fr F1 (by omega)
  obtain ⟨f1, m1⟩ := M1.obj
  iterate 5 (first | refine hZ _ _ _ _ ⟨rfl, ?_⟩ | refine hZ _ _ _ _ ⟨_, _, (by repeat (first | exact up_s | assumption | refine up_n (by omega) ?_)), adl (by omega), (by rfl), ?_⟩ | refine hZ _ _ _ _ ⟨_, _, (by repeat (first | exact up_s | assumption | refine up_n (by omega) ?_)), adl (by omega), (by first | assumption | exact vp_in_nI (by omega) (by omega)), ?_⟩ | refine hZ _ _ _ _ ⟨_, (by repeat (first | exact up_s | assumption | refine up_n (by omega) ?_)), adl (by omega), (by rfl), trivial, ?_⟩ | refine hZ _ _ _ _ ⟨trivial, ?_⟩ | refine hZ _ _ _ _ ⟨_, _, _, _, (by repeat (first | exact up_s | assumption | refine up_n (by omega) ?_)), (by first | exact Or.inr (Or.inr rfl) | exact Or.inr (Or.inl rfl) | exact Or.inl rfl), adl (by omega), (by first | assumption | exact vp_in_nI (by omega) (by omega)), (by first | exact rowsF_at (by omega) | exact shF_at (by omega)), ?_⟩ | refine hZ _ _ _ _ ?_)
  show Z _ 631 _ _
  rw [lit_1, nI_add]
  refine hZ _ _ _ _ ⟨rfl, vp_in_nI (by omega) (by omega), ?_⟩
  rw [nI_clamp (by omega)]
  show Z _ 632 _ _
  refine hZ _ _ _ _ ⟨⟨_, (by repeat (first | exact up_s | assumption | refine up_n (by omega) ?_))⟩, adl (by omega), rfl, ?_⟩
  refine M_back M1 O (fun h2 F2 M2 => ?_)
  show Z h2 635 _ _
  have C2 := C1.fr F2
  refine hZ _ _ _ _ ⟨fun _ => ?_, fun c9 => absurd rfl c9⟩
  exact kk h2 _ C2 M2 (K_back O _)
set_option maxHeartbeats 2000000 in
theorem bL15 {l : Launch} {L i : Nat} {xs : Nat → Int32} {Z : AH → Nat → List (Option Value) → List Value → Prop} (hZ : ∀ h pc ls st, FsL l rL15 L xs Z h pc ls st → Z h pc ls st) {h : AH} {s : St} (C : CY h s) (M : MY h s) (O : Ok s) (hb : gr s ≤ 58000) (hi : i + 6 ≤ L) (hL : L ≤ 3072) (kk : ∀ h' s', CY h' s' → MY h' s' → Kp s s' → Z h' 1054 [some (.ref 82), some (.ref 0), some (.ref 61), some (.int (nI i))] []) : Z h 640 [some (.ref 82), some (.ref 0), some (.ref 61), some (.int (nI i))] [] := by
  obtain ⟨f0, m0⟩ := C.obj
  iterate 5 (first | refine hZ _ _ _ _ ⟨rfl, ?_⟩ | refine hZ _ _ _ _ ⟨_, _, (by repeat (first | exact up_s | assumption | refine up_n (by omega) ?_)), adl (by omega), (by rfl), ?_⟩ | refine hZ _ _ _ _ ⟨_, _, (by repeat (first | exact up_s | assumption | refine up_n (by omega) ?_)), adl (by omega), (by first | assumption | exact vp_in_nI (by omega) (by omega)), ?_⟩ | refine hZ _ _ _ _ ⟨_, (by repeat (first | exact up_s | assumption | refine up_n (by omega) ?_)), adl (by omega), (by rfl), trivial, ?_⟩ | refine hZ _ _ _ _ ⟨trivial, ?_⟩ | refine hZ _ _ _ _ ⟨_, _, _, _, (by repeat (first | exact up_s | assumption | refine up_n (by omega) ?_)), (by first | exact Or.inr (Or.inr rfl) | exact Or.inr (Or.inl rfl) | exact Or.inl rfl), adl (by omega), (by first | assumption | exact vp_in_nI (by omega) (by omega)), (by first | exact rowsF_at (by omega) | exact shF_at (by omega)), ?_⟩ | refine hZ _ _ _ _ ?_)
  show Z _ 645 _ _
  rw [lit_1, nI_add]
  refine hZ _ _ _ _ ⟨rfl, vp_in_nI (by omega) (by omega), ?_⟩
  rw [nI_clamp (by omega)]
  show Z _ 646 _ _
  refine hZ _ _ _ _ ⟨⟨_, (by repeat (first | exact up_s | assumption | refine up_n (by omega) ?_))⟩, adl (by omega), rfl, ?_⟩
  refine C_kinds C O (Nat.le_trans hb (by decide)) (fun h1 F1 C1 => ?_)
  show Z h1 649 _ _
  have M1 := M.fr F1 (by omega)
  obtain ⟨f1, m1⟩ := M1.obj
  iterate 5 (first | refine hZ _ _ _ _ ⟨rfl, ?_⟩ | refine hZ _ _ _ _ ⟨_, _, (by repeat (first | exact up_s | assumption | refine up_n (by omega) ?_)), adl (by omega), (by rfl), ?_⟩ | refine hZ _ _ _ _ ⟨_, _, (by repeat (first | exact up_s | assumption | refine up_n (by omega) ?_)), adl (by omega), (by first | assumption | exact vp_in_nI (by omega) (by omega)), ?_⟩ | refine hZ _ _ _ _ ⟨_, (by repeat (first | exact up_s | assumption | refine up_n (by omega) ?_)), adl (by omega), (by rfl), trivial, ?_⟩ | refine hZ _ _ _ _ ⟨trivial, ?_⟩ | refine hZ _ _ _ _ ⟨_, _, _, _, (by repeat (first | exact up_s | assumption | refine up_n (by omega) ?_)), (by first | exact Or.inr (Or.inr rfl) | exact Or.inr (Or.inl rfl) | exact Or.inl rfl), adl (by omega), (by first | assumption | exact vp_in_nI (by omega) (by omega)), (by first | exact rowsF_at (by omega) | exact shF_at (by omega)), ?_⟩ | refine hZ _ _ _ _ ?_)
  show Z _ 654 _ _
  rw [lit_1, nI_add]
  refine hZ _ _ _ _ ⟨rfl, vp_in_nI (by omega) (by omega), ?_⟩
  rw [nI_clamp (by omega)]
  show Z _ 655 _ _
  refine hZ _ _ _ _ ⟨⟨_, (by repeat (first | exact up_s | assumption | refine up_n (by omega) ?_))⟩, adl (by omega), rfl, ?_⟩
  refine M_kinds M1 O (Nat.lt_of_le_of_lt hb (by decide)) (fun h2 F2 M2 => ?_)
  show Z h2 658 _ _
  have C2 := C1.fr F2
  refine hZ _ _ _ _ ⟨fun _ => ?_, fun c9 => absurd rfl c9⟩
  exact kk h2 s C2 M2 (Kp.rf O)
set_option maxHeartbeats 2000000 in
theorem bL16 {l : Launch} {L i : Nat} {xs : Nat → Int32} {Z : AH → Nat → List (Option Value) → List Value → Prop} (hZ : ∀ h pc ls st, FsL l rL16 L xs Z h pc ls st → Z h pc ls st) {h : AH} {s : St} (C : CY h s) (M : MY h s) (O : Ok s) (hb : gr s ≤ 58000) (hi : i + 6 ≤ L) (hL : L ≤ 3072) (kk : ∀ h' s', CY h' s' → MY h' s' → Kp s s' → Z h' 1054 [some (.ref 82), some (.ref 0), some (.ref 61), some (.int (nI i))] []) : Z h 663 [some (.ref 82), some (.ref 0), some (.ref 61), some (.int (nI i))] [] := by
  obtain ⟨f0, m0⟩ := C.obj
  iterate 5 (first | refine hZ _ _ _ _ ⟨rfl, ?_⟩ | refine hZ _ _ _ _ ⟨_, _, (by repeat (first | exact up_s | assumption | refine up_n (by omega) ?_)), adl (by omega), (by rfl), ?_⟩ | refine hZ _ _ _ _ ⟨_, _, (by repeat (first | exact up_s | assumption | refine up_n (by omega) ?_)), adl (by omega), (by first | assumption | exact vp_in_nI (by omega) (by omega)), ?_⟩ | refine hZ _ _ _ _ ⟨_, (by repeat (first | exact up_s | assumption | refine up_n (by omega) ?_)), adl (by omega), (by rfl), trivial, ?_⟩ | refine hZ _ _ _ _ ⟨trivial, ?_⟩ | refine hZ _ _ _ _ ⟨_, _, _, _, (by repeat (first | exact up_s | assumption | refine up_n (by omega) ?_)), (by first | exact Or.inr (Or.inr rfl) | exact Or.inr (Or.inl rfl) | exact Or.inl rfl), adl (by omega), (by first | assumption | exact vp_in_nI (by omega) (by omega)), (by first | exact rowsF_at (by omega) | exact shF_at (by omega)), ?_⟩ | refine hZ _ _ _ _ ?_)
  show Z _ 668 _ _
  rw [lit_1, nI_add]
  refine hZ _ _ _ _ ⟨rfl, vp_in_nI (by omega) (by omega), ?_⟩
  rw [nI_clamp (by omega)]
  show Z _ 669 _ _
  refine hZ _ _ _ _ ⟨⟨_, (by repeat (first | exact up_s | assumption | refine up_n (by omega) ?_))⟩, adl (by omega), rfl, ?_⟩
  refine C_heapings C O (Nat.le_trans hb (by decide)) (fun h1 F1 C1 => ?_)
  show Z h1 672 _ _
  have M1 := M.fr F1 (by omega)
  obtain ⟨f1, m1⟩ := M1.obj
  iterate 5 (first | refine hZ _ _ _ _ ⟨rfl, ?_⟩ | refine hZ _ _ _ _ ⟨_, _, (by repeat (first | exact up_s | assumption | refine up_n (by omega) ?_)), adl (by omega), (by rfl), ?_⟩ | refine hZ _ _ _ _ ⟨_, _, (by repeat (first | exact up_s | assumption | refine up_n (by omega) ?_)), adl (by omega), (by first | assumption | exact vp_in_nI (by omega) (by omega)), ?_⟩ | refine hZ _ _ _ _ ⟨_, (by repeat (first | exact up_s | assumption | refine up_n (by omega) ?_)), adl (by omega), (by rfl), trivial, ?_⟩ | refine hZ _ _ _ _ ⟨trivial, ?_⟩ | refine hZ _ _ _ _ ⟨_, _, _, _, (by repeat (first | exact up_s | assumption | refine up_n (by omega) ?_)), (by first | exact Or.inr (Or.inr rfl) | exact Or.inr (Or.inl rfl) | exact Or.inl rfl), adl (by omega), (by first | assumption | exact vp_in_nI (by omega) (by omega)), (by first | exact rowsF_at (by omega) | exact shF_at (by omega)), ?_⟩ | refine hZ _ _ _ _ ?_)
  show Z _ 677 _ _
  rw [lit_1, nI_add]
  refine hZ _ _ _ _ ⟨rfl, vp_in_nI (by omega) (by omega), ?_⟩
  rw [nI_clamp (by omega)]
  show Z _ 678 _ _
  refine hZ _ _ _ _ ⟨⟨_, (by repeat (first | exact up_s | assumption | refine up_n (by omega) ?_))⟩, adl (by omega), rfl, ?_⟩
  refine M_heapings M1 O (Nat.le_trans hb (by decide)) (fun h2 F2 M2 => ?_)
  show Z h2 681 _ _
  have C2 := C1.fr F2
  refine hZ _ _ _ _ ⟨fun _ => ?_, fun c9 => absurd rfl c9⟩
  exact kk h2 s C2 M2 (Kp.rf O)
set_option maxHeartbeats 2000000 in
theorem bL17 {l : Launch} {L i : Nat} {xs : Nat → Int32} {Z : AH → Nat → List (Option Value) → List Value → Prop} (hZ : ∀ h pc ls st, FsL l rL17 L xs Z h pc ls st → Z h pc ls st) {h : AH} {s : St} (C : CY h s) (M : MY h s) (O : Ok s) (hb : gr s ≤ 58000) (hi : i + 6 ≤ L) (hL : L ≤ 3072) (kk : ∀ h' s', CY h' s' → MY h' s' → Kp s s' → Z h' 1054 [some (.ref 82), some (.ref 0), some (.ref 61), some (.int (nI i))] []) : Z h 686 [some (.ref 82), some (.ref 0), some (.ref 61), some (.int (nI i))] [] := by
  obtain ⟨f0, m0⟩ := C.obj
  have hx30 : ∀ q, q < s.1.1 → s.2.1.1 q < 2 ^ 30 := fun q hq => Nat.lt_of_le_of_lt (Nat.le_trans (sm_ge (f := s.2.1.1) hq) hb) (by decide)
  iterate 5 (first | refine hZ _ _ _ _ ⟨rfl, ?_⟩ | refine hZ _ _ _ _ ⟨_, _, (by repeat (first | exact up_s | assumption | refine up_n (by omega) ?_)), adl (by omega), (by rfl), ?_⟩ | refine hZ _ _ _ _ ⟨_, _, (by repeat (first | exact up_s | assumption | refine up_n (by omega) ?_)), adl (by omega), (by first | assumption | exact vp_in_nI (by omega) (by omega)), ?_⟩ | refine hZ _ _ _ _ ⟨_, (by repeat (first | exact up_s | assumption | refine up_n (by omega) ?_)), adl (by omega), (by rfl), trivial, ?_⟩ | refine hZ _ _ _ _ ⟨trivial, ?_⟩ | refine hZ _ _ _ _ ⟨_, _, _, _, (by repeat (first | exact up_s | assumption | refine up_n (by omega) ?_)), (by first | exact Or.inr (Or.inr rfl) | exact Or.inr (Or.inl rfl) | exact Or.inl rfl), adl (by omega), (by first | assumption | exact vp_in_nI (by omega) (by omega)), (by first | exact rowsF_at (by omega) | exact shF_at (by omega)), ?_⟩ | refine hZ _ _ _ _ ?_)
  show Z _ 691 _ _
  rw [lit_1, nI_add]
  refine hZ _ _ _ _ ⟨rfl, vp_in_nI (by omega) (by omega), ?_⟩
  rw [nI_clamp (by omega)]
  show Z _ 692 _ _
  refine hZ _ _ _ _ ⟨⟨_, (by repeat (first | exact up_s | assumption | refine up_n (by omega) ?_))⟩, adl (by omega), rfl, ?_⟩
  refine C_odds C O hx30 (fun h1 F1 C1 => ?_)
  show Z h1 695 _ _
  have M1 := M.fr F1 (by omega)
  obtain ⟨f1, m1⟩ := M1.obj
  iterate 5 (first | refine hZ _ _ _ _ ⟨rfl, ?_⟩ | refine hZ _ _ _ _ ⟨_, _, (by repeat (first | exact up_s | assumption | refine up_n (by omega) ?_)), adl (by omega), (by rfl), ?_⟩ | refine hZ _ _ _ _ ⟨_, _, (by repeat (first | exact up_s | assumption | refine up_n (by omega) ?_)), adl (by omega), (by first | assumption | exact vp_in_nI (by omega) (by omega)), ?_⟩ | refine hZ _ _ _ _ ⟨_, (by repeat (first | exact up_s | assumption | refine up_n (by omega) ?_)), adl (by omega), (by rfl), trivial, ?_⟩ | refine hZ _ _ _ _ ⟨trivial, ?_⟩ | refine hZ _ _ _ _ ⟨_, _, _, _, (by repeat (first | exact up_s | assumption | refine up_n (by omega) ?_)), (by first | exact Or.inr (Or.inr rfl) | exact Or.inr (Or.inl rfl) | exact Or.inl rfl), adl (by omega), (by first | assumption | exact vp_in_nI (by omega) (by omega)), (by first | exact rowsF_at (by omega) | exact shF_at (by omega)), ?_⟩ | refine hZ _ _ _ _ ?_)
  show Z _ 700 _ _
  rw [lit_1, nI_add]
  refine hZ _ _ _ _ ⟨rfl, vp_in_nI (by omega) (by omega), ?_⟩
  rw [nI_clamp (by omega)]
  show Z _ 701 _ _
  refine hZ _ _ _ _ ⟨⟨_, (by repeat (first | exact up_s | assumption | refine up_n (by omega) ?_))⟩, adl (by omega), rfl, ?_⟩
  refine M_odds M1 O (Nat.lt_of_le_of_lt hb (by decide)) (fun h2 F2 M2 => ?_)
  show Z h2 704 _ _
  have C2 := C1.fr F2
  iterate 1 (first | refine hZ _ _ _ _ ⟨rfl, ?_⟩ | refine hZ _ _ _ _ ⟨_, _, (by repeat (first | exact up_s | assumption | refine up_n (by omega) ?_)), adl (by omega), (by rfl), ?_⟩ | refine hZ _ _ _ _ ⟨_, _, (by repeat (first | exact up_s | assumption | refine up_n (by omega) ?_)), adl (by omega), (by first | assumption | exact vp_in_nI (by omega) (by omega)), ?_⟩ | refine hZ _ _ _ _ ⟨_, (by repeat (first | exact up_s | assumption | refine up_n (by omega) ?_)), adl (by omega), (by rfl), trivial, ?_⟩ | refine hZ _ _ _ _ ⟨trivial, ?_⟩ | refine hZ _ _ _ _ ⟨_, _, _, _, (by repeat (first | exact up_s | assumption | refine up_n (by omega) ?_)), (by first | exact Or.inr (Or.inr rfl) | exact Or.inr (Or.inl rfl) | exact Or.inl rfl), adl (by omega), (by first | assumption | exact vp_in_nI (by omega) (by omega)), (by first | exact rowsF_at (by omega) | exact shF_at (by omega)), ?_⟩ | refine hZ _ _ _ _ ?_)
  show Z _ 705 _ _
  rw [lcmp_rf]
  refine hZ _ _ _ _ ⟨fun _ => ?_, fun c9 => absurd rfl c9⟩
  exact kk h2 s C2 M2 (Kp.rf O)
set_option maxHeartbeats 2000000 in
theorem bL18 {l : Launch} {L i : Nat} {xs : Nat → Int32} {Z : AH → Nat → List (Option Value) → List Value → Prop} (hZ : ∀ h pc ls st, FsL l rL18 L xs Z h pc ls st → Z h pc ls st) {h : AH} {s : St} (C : CY h s) (M : MY h s) (O : Ok s) (hb : gr s ≤ 58000) (hi : i + 6 ≤ L) (hL : L ≤ 3072) (kk : ∀ h' s', CY h' s' → MY h' s' → Kp s s' → Z h' 1054 [some (.ref 82), some (.ref 0), some (.ref 61), some (.int (nI i))] []) : Z h 710 [some (.ref 82), some (.ref 0), some (.ref 61), some (.int (nI i))] [] := by
  obtain ⟨f0, m0⟩ := C.obj
  iterate 5 (first | refine hZ _ _ _ _ ⟨rfl, ?_⟩ | refine hZ _ _ _ _ ⟨_, _, (by repeat (first | exact up_s | assumption | refine up_n (by omega) ?_)), adl (by omega), (by rfl), ?_⟩ | refine hZ _ _ _ _ ⟨_, _, (by repeat (first | exact up_s | assumption | refine up_n (by omega) ?_)), adl (by omega), (by first | assumption | exact vp_in_nI (by omega) (by omega)), ?_⟩ | refine hZ _ _ _ _ ⟨_, (by repeat (first | exact up_s | assumption | refine up_n (by omega) ?_)), adl (by omega), (by rfl), trivial, ?_⟩ | refine hZ _ _ _ _ ⟨trivial, ?_⟩ | refine hZ _ _ _ _ ⟨_, _, _, _, (by repeat (first | exact up_s | assumption | refine up_n (by omega) ?_)), (by first | exact Or.inr (Or.inr rfl) | exact Or.inr (Or.inl rfl) | exact Or.inl rfl), adl (by omega), (by first | assumption | exact vp_in_nI (by omega) (by omega)), (by first | exact rowsF_at (by omega) | exact shF_at (by omega)), ?_⟩ | refine hZ _ _ _ _ ?_)
  show Z _ 715 _ _
  rw [lit_1, nI_add]
  refine hZ _ _ _ _ ⟨rfl, vp_in_nI (by omega) (by omega), ?_⟩
  rw [nI_clamp (by omega)]
  show Z _ 716 _ _
  iterate 4 (first | refine hZ _ _ _ _ ⟨rfl, ?_⟩ | refine hZ _ _ _ _ ⟨_, _, (by repeat (first | exact up_s | assumption | refine up_n (by omega) ?_)), adl (by omega), (by rfl), ?_⟩ | refine hZ _ _ _ _ ⟨_, _, (by repeat (first | exact up_s | assumption | refine up_n (by omega) ?_)), adl (by omega), (by first | assumption | exact vp_in_nI (by omega) (by omega)), ?_⟩ | refine hZ _ _ _ _ ⟨_, (by repeat (first | exact up_s | assumption | refine up_n (by omega) ?_)), adl (by omega), (by rfl), trivial, ?_⟩ | refine hZ _ _ _ _ ⟨trivial, ?_⟩ | refine hZ _ _ _ _ ⟨_, _, _, _, (by repeat (first | exact up_s | assumption | refine up_n (by omega) ?_)), (by first | exact Or.inr (Or.inr rfl) | exact Or.inr (Or.inl rfl) | exact Or.inl rfl), adl (by omega), (by first | assumption | exact vp_in_nI (by omega) (by omega)), (by first | exact rowsF_at (by omega) | exact shF_at (by omega)), ?_⟩ | refine hZ _ _ _ _ ?_)
  show Z _ 720 _ _
  rw [lit_2, nI_add]
  refine hZ _ _ _ _ ⟨rfl, vp_in_nI (by omega) (by omega), ?_⟩
  rw [nI_clamp (by omega)]
  show Z _ 721 _ _
  iterate 4 (first | refine hZ _ _ _ _ ⟨rfl, ?_⟩ | refine hZ _ _ _ _ ⟨_, _, (by repeat (first | exact up_s | assumption | refine up_n (by omega) ?_)), adl (by omega), (by rfl), ?_⟩ | refine hZ _ _ _ _ ⟨_, _, (by repeat (first | exact up_s | assumption | refine up_n (by omega) ?_)), adl (by omega), (by first | assumption | exact vp_in_nI (by omega) (by omega)), ?_⟩ | refine hZ _ _ _ _ ⟨_, (by repeat (first | exact up_s | assumption | refine up_n (by omega) ?_)), adl (by omega), (by rfl), trivial, ?_⟩ | refine hZ _ _ _ _ ⟨trivial, ?_⟩ | refine hZ _ _ _ _ ⟨_, _, _, _, (by repeat (first | exact up_s | assumption | refine up_n (by omega) ?_)), (by first | exact Or.inr (Or.inr rfl) | exact Or.inr (Or.inl rfl) | exact Or.inl rfl), adl (by omega), (by first | assumption | exact vp_in_nI (by omega) (by omega)), (by first | exact rowsF_at (by omega) | exact shF_at (by omega)), ?_⟩ | refine hZ _ _ _ _ ?_)
  show Z _ 725 _ _
  rw [lit_3, nI_add]
  refine hZ _ _ _ _ ⟨rfl, vp_in_nI (by omega) (by omega), ?_⟩
  rw [nI_clamp (by omega)]
  show Z _ 726 _ _
  refine hZ _ _ _ _ ⟨⟨_, (by repeat (first | exact up_s | assumption | refine up_n (by omega) ?_))⟩, adl (by omega), rfl, ?_⟩
  refine C_sheet C O (fun h1 F1 C1 => ?_)
  show Z h1 729 _ _
  have M1 := M.fr F1 (by omega)
  obtain ⟨f1, m1⟩ := M1.obj
  iterate 5 (first | refine hZ _ _ _ _ ⟨rfl, ?_⟩ | refine hZ _ _ _ _ ⟨_, _, (by repeat (first | exact up_s | assumption | refine up_n (by omega) ?_)), adl (by omega), (by rfl), ?_⟩ | refine hZ _ _ _ _ ⟨_, _, (by repeat (first | exact up_s | assumption | refine up_n (by omega) ?_)), adl (by omega), (by first | assumption | exact vp_in_nI (by omega) (by omega)), ?_⟩ | refine hZ _ _ _ _ ⟨_, (by repeat (first | exact up_s | assumption | refine up_n (by omega) ?_)), adl (by omega), (by rfl), trivial, ?_⟩ | refine hZ _ _ _ _ ⟨trivial, ?_⟩ | refine hZ _ _ _ _ ⟨_, _, _, _, (by repeat (first | exact up_s | assumption | refine up_n (by omega) ?_)), (by first | exact Or.inr (Or.inr rfl) | exact Or.inr (Or.inl rfl) | exact Or.inl rfl), adl (by omega), (by first | assumption | exact vp_in_nI (by omega) (by omega)), (by first | exact rowsF_at (by omega) | exact shF_at (by omega)), ?_⟩ | refine hZ _ _ _ _ ?_)
  show Z _ 734 _ _
  rw [lit_1, nI_add]
  refine hZ _ _ _ _ ⟨rfl, vp_in_nI (by omega) (by omega), ?_⟩
  rw [nI_clamp (by omega)]
  show Z _ 735 _ _
  iterate 4 (first | refine hZ _ _ _ _ ⟨rfl, ?_⟩ | refine hZ _ _ _ _ ⟨_, _, (by repeat (first | exact up_s | assumption | refine up_n (by omega) ?_)), adl (by omega), (by rfl), ?_⟩ | refine hZ _ _ _ _ ⟨_, _, (by repeat (first | exact up_s | assumption | refine up_n (by omega) ?_)), adl (by omega), (by first | assumption | exact vp_in_nI (by omega) (by omega)), ?_⟩ | refine hZ _ _ _ _ ⟨_, (by repeat (first | exact up_s | assumption | refine up_n (by omega) ?_)), adl (by omega), (by rfl), trivial, ?_⟩ | refine hZ _ _ _ _ ⟨trivial, ?_⟩ | refine hZ _ _ _ _ ⟨_, _, _, _, (by repeat (first | exact up_s | assumption | refine up_n (by omega) ?_)), (by first | exact Or.inr (Or.inr rfl) | exact Or.inr (Or.inl rfl) | exact Or.inl rfl), adl (by omega), (by first | assumption | exact vp_in_nI (by omega) (by omega)), (by first | exact rowsF_at (by omega) | exact shF_at (by omega)), ?_⟩ | refine hZ _ _ _ _ ?_)
  show Z _ 739 _ _
  rw [lit_2, nI_add]
  refine hZ _ _ _ _ ⟨rfl, vp_in_nI (by omega) (by omega), ?_⟩
  rw [nI_clamp (by omega)]
  show Z _ 740 _ _
  iterate 4 (first | refine hZ _ _ _ _ ⟨rfl, ?_⟩ | refine hZ _ _ _ _ ⟨_, _, (by repeat (first | exact up_s | assumption | refine up_n (by omega) ?_)), adl (by omega), (by rfl), ?_⟩ | refine hZ _ _ _ _ ⟨_, _, (by repeat (first | exact up_s | assumption | refine up_n (by omega) ?_)), adl (by omega), (by first | assumption | exact vp_in_nI (by omega) (by omega)), ?_⟩ | refine hZ _ _ _ _ ⟨_, (by repeat (first | exact up_s | assumption | refine up_n (by omega) ?_)), adl (by omega), (by rfl), trivial, ?_⟩ | refine hZ _ _ _ _ ⟨trivial, ?_⟩ | refine hZ _ _ _ _ ⟨_, _, _, _, (by repeat (first | exact up_s | assumption | refine up_n (by omega) ?_)), (by first | exact Or.inr (Or.inr rfl) | exact Or.inr (Or.inl rfl) | exact Or.inl rfl), adl (by omega), (by first | assumption | exact vp_in_nI (by omega) (by omega)), (by first | exact rowsF_at (by omega) | exact shF_at (by omega)), ?_⟩ | refine hZ _ _ _ _ ?_)
  show Z _ 744 _ _
  rw [lit_3, nI_add]
  refine hZ _ _ _ _ ⟨rfl, vp_in_nI (by omega) (by omega), ?_⟩
  rw [nI_clamp (by omega)]
  show Z _ 745 _ _
  refine hZ _ _ _ _ ⟨⟨_, (by repeat (first | exact up_s | assumption | refine up_n (by omega) ?_))⟩, adl (by omega), rfl, ?_⟩
  refine M_sheet M1 O (fun h2 F2 M2 => ?_)
  show Z h2 748 _ _
  have C2 := C1.fr F2
  refine hZ _ _ _ _ ⟨fun _ => ?_, fun c9 => absurd rfl c9⟩
  exact kk h2 _ C2 M2 (K_sheet O _ _ _)
set_option maxHeartbeats 2000000 in
theorem bL19 {l : Launch} {L i : Nat} {xs : Nat → Int32} {Z : AH → Nat → List (Option Value) → List Value → Prop} (hZ : ∀ h pc ls st, FsL l rL19 L xs Z h pc ls st → Z h pc ls st) {h : AH} {s : St} (C : CY h s) (M : MY h s) (O : Ok s) (hb : gr s ≤ 58000) (hi : i + 6 ≤ L) (hL : L ≤ 3072) (kk : ∀ h' s', CY h' s' → MY h' s' → Kp s s' → Z h' 1054 [some (.ref 82), some (.ref 0), some (.ref 61), some (.int (nI i))] []) : Z h 753 [some (.ref 82), some (.ref 0), some (.ref 61), some (.int (nI i))] [] := by
  obtain ⟨f0, m0⟩ := C.obj
  iterate 5 (first | refine hZ _ _ _ _ ⟨rfl, ?_⟩ | refine hZ _ _ _ _ ⟨_, _, (by repeat (first | exact up_s | assumption | refine up_n (by omega) ?_)), adl (by omega), (by rfl), ?_⟩ | refine hZ _ _ _ _ ⟨_, _, (by repeat (first | exact up_s | assumption | refine up_n (by omega) ?_)), adl (by omega), (by first | assumption | exact vp_in_nI (by omega) (by omega)), ?_⟩ | refine hZ _ _ _ _ ⟨_, (by repeat (first | exact up_s | assumption | refine up_n (by omega) ?_)), adl (by omega), (by rfl), trivial, ?_⟩ | refine hZ _ _ _ _ ⟨trivial, ?_⟩ | refine hZ _ _ _ _ ⟨_, _, _, _, (by repeat (first | exact up_s | assumption | refine up_n (by omega) ?_)), (by first | exact Or.inr (Or.inr rfl) | exact Or.inr (Or.inl rfl) | exact Or.inl rfl), adl (by omega), (by first | assumption | exact vp_in_nI (by omega) (by omega)), (by first | exact rowsF_at (by omega) | exact shF_at (by omega)), ?_⟩ | refine hZ _ _ _ _ ?_)
  show Z _ 758 _ _
  rw [lit_1, nI_add]
  refine hZ _ _ _ _ ⟨rfl, vp_in_nI (by omega) (by omega), ?_⟩
  rw [nI_clamp (by omega)]
  show Z _ 759 _ _
  refine hZ _ _ _ _ ⟨⟨_, (by repeat (first | exact up_s | assumption | refine up_n (by omega) ?_))⟩, adl (by omega), rfl, ?_⟩
  refine C_lose C O (fun h1 F1 C1 => ?_)
  show Z h1 762 _ _
  have M1 := M.fr F1 (by omega)
  obtain ⟨f1, m1⟩ := M1.obj
  iterate 5 (first | refine hZ _ _ _ _ ⟨rfl, ?_⟩ | refine hZ _ _ _ _ ⟨_, _, (by repeat (first | exact up_s | assumption | refine up_n (by omega) ?_)), adl (by omega), (by rfl), ?_⟩ | refine hZ _ _ _ _ ⟨_, _, (by repeat (first | exact up_s | assumption | refine up_n (by omega) ?_)), adl (by omega), (by first | assumption | exact vp_in_nI (by omega) (by omega)), ?_⟩ | refine hZ _ _ _ _ ⟨_, (by repeat (first | exact up_s | assumption | refine up_n (by omega) ?_)), adl (by omega), (by rfl), trivial, ?_⟩ | refine hZ _ _ _ _ ⟨trivial, ?_⟩ | refine hZ _ _ _ _ ⟨_, _, _, _, (by repeat (first | exact up_s | assumption | refine up_n (by omega) ?_)), (by first | exact Or.inr (Or.inr rfl) | exact Or.inr (Or.inl rfl) | exact Or.inl rfl), adl (by omega), (by first | assumption | exact vp_in_nI (by omega) (by omega)), (by first | exact rowsF_at (by omega) | exact shF_at (by omega)), ?_⟩ | refine hZ _ _ _ _ ?_)
  show Z _ 767 _ _
  rw [lit_1, nI_add]
  refine hZ _ _ _ _ ⟨rfl, vp_in_nI (by omega) (by omega), ?_⟩
  rw [nI_clamp (by omega)]
  show Z _ 768 _ _
  refine hZ _ _ _ _ ⟨⟨_, (by repeat (first | exact up_s | assumption | refine up_n (by omega) ?_))⟩, adl (by omega), rfl, ?_⟩
  refine M_lose M1 O (fun h2 F2 M2 => ?_)
  show Z h2 771 _ _
  have C2 := C1.fr F2
  refine hZ _ _ _ _ ⟨fun _ => ?_, fun c9 => absurd rfl c9⟩
  exact kk h2 _ C2 M2 (K_lose O _)
set_option maxHeartbeats 2000000 in
theorem bL20 {l : Launch} {L i : Nat} {xs : Nat → Int32} {Z : AH → Nat → List (Option Value) → List Value → Prop} (hZ : ∀ h pc ls st, FsL l rL20 L xs Z h pc ls st → Z h pc ls st) {h : AH} {s : St} (C : CY h s) (M : MY h s) (O : Ok s) (hb : gr s ≤ 58000) (hi : i + 6 ≤ L) (hL : L ≤ 3072) (kk : ∀ h' s', CY h' s' → MY h' s' → Kp s s' → Z h' 1054 [some (.ref 82), some (.ref 0), some (.ref 61), some (.int (nI i))] []) : Z h 776 [some (.ref 82), some (.ref 0), some (.ref 61), some (.int (nI i))] [] := by
  obtain ⟨f0, m0⟩ := C.obj
  iterate 5 (first | refine hZ _ _ _ _ ⟨rfl, ?_⟩ | refine hZ _ _ _ _ ⟨_, _, (by repeat (first | exact up_s | assumption | refine up_n (by omega) ?_)), adl (by omega), (by rfl), ?_⟩ | refine hZ _ _ _ _ ⟨_, _, (by repeat (first | exact up_s | assumption | refine up_n (by omega) ?_)), adl (by omega), (by first | assumption | exact vp_in_nI (by omega) (by omega)), ?_⟩ | refine hZ _ _ _ _ ⟨_, (by repeat (first | exact up_s | assumption | refine up_n (by omega) ?_)), adl (by omega), (by rfl), trivial, ?_⟩ | refine hZ _ _ _ _ ⟨trivial, ?_⟩ | refine hZ _ _ _ _ ⟨_, _, _, _, (by repeat (first | exact up_s | assumption | refine up_n (by omega) ?_)), (by first | exact Or.inr (Or.inr rfl) | exact Or.inr (Or.inl rfl) | exact Or.inl rfl), adl (by omega), (by first | assumption | exact vp_in_nI (by omega) (by omega)), (by first | exact rowsF_at (by omega) | exact shF_at (by omega)), ?_⟩ | refine hZ _ _ _ _ ?_)
  show Z _ 781 _ _
  rw [lit_1, nI_add]
  refine hZ _ _ _ _ ⟨rfl, vp_in_nI (by omega) (by omega), ?_⟩
  rw [nI_clamp (by omega)]
  show Z _ 782 _ _
  iterate 4 (first | refine hZ _ _ _ _ ⟨rfl, ?_⟩ | refine hZ _ _ _ _ ⟨_, _, (by repeat (first | exact up_s | assumption | refine up_n (by omega) ?_)), adl (by omega), (by rfl), ?_⟩ | refine hZ _ _ _ _ ⟨_, _, (by repeat (first | exact up_s | assumption | refine up_n (by omega) ?_)), adl (by omega), (by first | assumption | exact vp_in_nI (by omega) (by omega)), ?_⟩ | refine hZ _ _ _ _ ⟨_, (by repeat (first | exact up_s | assumption | refine up_n (by omega) ?_)), adl (by omega), (by rfl), trivial, ?_⟩ | refine hZ _ _ _ _ ⟨trivial, ?_⟩ | refine hZ _ _ _ _ ⟨_, _, _, _, (by repeat (first | exact up_s | assumption | refine up_n (by omega) ?_)), (by first | exact Or.inr (Or.inr rfl) | exact Or.inr (Or.inl rfl) | exact Or.inl rfl), adl (by omega), (by first | assumption | exact vp_in_nI (by omega) (by omega)), (by first | exact rowsF_at (by omega) | exact shF_at (by omega)), ?_⟩ | refine hZ _ _ _ _ ?_)
  show Z _ 786 _ _
  rw [lit_2, nI_add]
  refine hZ _ _ _ _ ⟨rfl, vp_in_nI (by omega) (by omega), ?_⟩
  rw [nI_clamp (by omega)]
  show Z _ 787 _ _
  iterate 4 (first | refine hZ _ _ _ _ ⟨rfl, ?_⟩ | refine hZ _ _ _ _ ⟨_, _, (by repeat (first | exact up_s | assumption | refine up_n (by omega) ?_)), adl (by omega), (by rfl), ?_⟩ | refine hZ _ _ _ _ ⟨_, _, (by repeat (first | exact up_s | assumption | refine up_n (by omega) ?_)), adl (by omega), (by first | assumption | exact vp_in_nI (by omega) (by omega)), ?_⟩ | refine hZ _ _ _ _ ⟨_, (by repeat (first | exact up_s | assumption | refine up_n (by omega) ?_)), adl (by omega), (by rfl), trivial, ?_⟩ | refine hZ _ _ _ _ ⟨trivial, ?_⟩ | refine hZ _ _ _ _ ⟨_, _, _, _, (by repeat (first | exact up_s | assumption | refine up_n (by omega) ?_)), (by first | exact Or.inr (Or.inr rfl) | exact Or.inr (Or.inl rfl) | exact Or.inl rfl), adl (by omega), (by first | assumption | exact vp_in_nI (by omega) (by omega)), (by first | exact rowsF_at (by omega) | exact shF_at (by omega)), ?_⟩ | refine hZ _ _ _ _ ?_)
  show Z _ 791 _ _
  rw [lit_3, nI_add]
  refine hZ _ _ _ _ ⟨rfl, vp_in_nI (by omega) (by omega), ?_⟩
  rw [nI_clamp (by omega)]
  show Z _ 792 _ _
  refine hZ _ _ _ _ ⟨⟨_, (by repeat (first | exact up_s | assumption | refine up_n (by omega) ?_))⟩, adl (by omega), rfl, ?_⟩
  refine C_put C O (fun h1 F1 C1 => ?_)
  show Z h1 795 _ _
  have M1 := M.fr F1 (by omega)
  obtain ⟨f1, m1⟩ := M1.obj
  iterate 5 (first | refine hZ _ _ _ _ ⟨rfl, ?_⟩ | refine hZ _ _ _ _ ⟨_, _, (by repeat (first | exact up_s | assumption | refine up_n (by omega) ?_)), adl (by omega), (by rfl), ?_⟩ | refine hZ _ _ _ _ ⟨_, _, (by repeat (first | exact up_s | assumption | refine up_n (by omega) ?_)), adl (by omega), (by first | assumption | exact vp_in_nI (by omega) (by omega)), ?_⟩ | refine hZ _ _ _ _ ⟨_, (by repeat (first | exact up_s | assumption | refine up_n (by omega) ?_)), adl (by omega), (by rfl), trivial, ?_⟩ | refine hZ _ _ _ _ ⟨trivial, ?_⟩ | refine hZ _ _ _ _ ⟨_, _, _, _, (by repeat (first | exact up_s | assumption | refine up_n (by omega) ?_)), (by first | exact Or.inr (Or.inr rfl) | exact Or.inr (Or.inl rfl) | exact Or.inl rfl), adl (by omega), (by first | assumption | exact vp_in_nI (by omega) (by omega)), (by first | exact rowsF_at (by omega) | exact shF_at (by omega)), ?_⟩ | refine hZ _ _ _ _ ?_)
  show Z _ 800 _ _
  rw [lit_1, nI_add]
  refine hZ _ _ _ _ ⟨rfl, vp_in_nI (by omega) (by omega), ?_⟩
  rw [nI_clamp (by omega)]
  show Z _ 801 _ _
  iterate 4 (first | refine hZ _ _ _ _ ⟨rfl, ?_⟩ | refine hZ _ _ _ _ ⟨_, _, (by repeat (first | exact up_s | assumption | refine up_n (by omega) ?_)), adl (by omega), (by rfl), ?_⟩ | refine hZ _ _ _ _ ⟨_, _, (by repeat (first | exact up_s | assumption | refine up_n (by omega) ?_)), adl (by omega), (by first | assumption | exact vp_in_nI (by omega) (by omega)), ?_⟩ | refine hZ _ _ _ _ ⟨_, (by repeat (first | exact up_s | assumption | refine up_n (by omega) ?_)), adl (by omega), (by rfl), trivial, ?_⟩ | refine hZ _ _ _ _ ⟨trivial, ?_⟩ | refine hZ _ _ _ _ ⟨_, _, _, _, (by repeat (first | exact up_s | assumption | refine up_n (by omega) ?_)), (by first | exact Or.inr (Or.inr rfl) | exact Or.inr (Or.inl rfl) | exact Or.inl rfl), adl (by omega), (by first | assumption | exact vp_in_nI (by omega) (by omega)), (by first | exact rowsF_at (by omega) | exact shF_at (by omega)), ?_⟩ | refine hZ _ _ _ _ ?_)
  show Z _ 805 _ _
  rw [lit_2, nI_add]
  refine hZ _ _ _ _ ⟨rfl, vp_in_nI (by omega) (by omega), ?_⟩
  rw [nI_clamp (by omega)]
  show Z _ 806 _ _
  iterate 4 (first | refine hZ _ _ _ _ ⟨rfl, ?_⟩ | refine hZ _ _ _ _ ⟨_, _, (by repeat (first | exact up_s | assumption | refine up_n (by omega) ?_)), adl (by omega), (by rfl), ?_⟩ | refine hZ _ _ _ _ ⟨_, _, (by repeat (first | exact up_s | assumption | refine up_n (by omega) ?_)), adl (by omega), (by first | assumption | exact vp_in_nI (by omega) (by omega)), ?_⟩ | refine hZ _ _ _ _ ⟨_, (by repeat (first | exact up_s | assumption | refine up_n (by omega) ?_)), adl (by omega), (by rfl), trivial, ?_⟩ | refine hZ _ _ _ _ ⟨trivial, ?_⟩ | refine hZ _ _ _ _ ⟨_, _, _, _, (by repeat (first | exact up_s | assumption | refine up_n (by omega) ?_)), (by first | exact Or.inr (Or.inr rfl) | exact Or.inr (Or.inl rfl) | exact Or.inl rfl), adl (by omega), (by first | assumption | exact vp_in_nI (by omega) (by omega)), (by first | exact rowsF_at (by omega) | exact shF_at (by omega)), ?_⟩ | refine hZ _ _ _ _ ?_)
  show Z _ 810 _ _
  rw [lit_3, nI_add]
  refine hZ _ _ _ _ ⟨rfl, vp_in_nI (by omega) (by omega), ?_⟩
  rw [nI_clamp (by omega)]
  show Z _ 811 _ _
  refine hZ _ _ _ _ ⟨⟨_, (by repeat (first | exact up_s | assumption | refine up_n (by omega) ?_))⟩, adl (by omega), rfl, ?_⟩
  refine M_put M1 O (fun h2 F2 M2 => ?_)
  show Z h2 814 _ _
  have C2 := C1.fr F2
  refine hZ _ _ _ _ ⟨fun _ => ?_, fun c9 => absurd rfl c9⟩
  exact kk h2 _ C2 M2 (K_put O _ _ _)
set_option maxHeartbeats 2000000 in
theorem bL21 {l : Launch} {L i : Nat} {xs : Nat → Int32} {Z : AH → Nat → List (Option Value) → List Value → Prop} (hZ : ∀ h pc ls st, FsL l rL21 L xs Z h pc ls st → Z h pc ls st) {h : AH} {s : St} (C : CY h s) (M : MY h s) (O : Ok s) (hb : gr s ≤ 58000) (hi : i + 6 ≤ L) (hL : L ≤ 3072) (kk : ∀ h' s', CY h' s' → MY h' s' → Kp s s' → Z h' 1054 [some (.ref 82), some (.ref 0), some (.ref 61), some (.int (nI i))] []) : Z h 819 [some (.ref 82), some (.ref 0), some (.ref 61), some (.int (nI i))] [] := by
  obtain ⟨f0, m0⟩ := C.obj
  iterate 5 (first | refine hZ _ _ _ _ ⟨rfl, ?_⟩ | refine hZ _ _ _ _ ⟨_, _, (by repeat (first | exact up_s | assumption | refine up_n (by omega) ?_)), adl (by omega), (by rfl), ?_⟩ | refine hZ _ _ _ _ ⟨_, _, (by repeat (first | exact up_s | assumption | refine up_n (by omega) ?_)), adl (by omega), (by first | assumption | exact vp_in_nI (by omega) (by omega)), ?_⟩ | refine hZ _ _ _ _ ⟨_, (by repeat (first | exact up_s | assumption | refine up_n (by omega) ?_)), adl (by omega), (by rfl), trivial, ?_⟩ | refine hZ _ _ _ _ ⟨trivial, ?_⟩ | refine hZ _ _ _ _ ⟨_, _, _, _, (by repeat (first | exact up_s | assumption | refine up_n (by omega) ?_)), (by first | exact Or.inr (Or.inr rfl) | exact Or.inr (Or.inl rfl) | exact Or.inl rfl), adl (by omega), (by first | assumption | exact vp_in_nI (by omega) (by omega)), (by first | exact rowsF_at (by omega) | exact shF_at (by omega)), ?_⟩ | refine hZ _ _ _ _ ?_)
  show Z _ 824 _ _
  rw [lit_1, nI_add]
  refine hZ _ _ _ _ ⟨rfl, vp_in_nI (by omega) (by omega), ?_⟩
  rw [nI_clamp (by omega)]
  show Z _ 825 _ _
  iterate 4 (first | refine hZ _ _ _ _ ⟨rfl, ?_⟩ | refine hZ _ _ _ _ ⟨_, _, (by repeat (first | exact up_s | assumption | refine up_n (by omega) ?_)), adl (by omega), (by rfl), ?_⟩ | refine hZ _ _ _ _ ⟨_, _, (by repeat (first | exact up_s | assumption | refine up_n (by omega) ?_)), adl (by omega), (by first | assumption | exact vp_in_nI (by omega) (by omega)), ?_⟩ | refine hZ _ _ _ _ ⟨_, (by repeat (first | exact up_s | assumption | refine up_n (by omega) ?_)), adl (by omega), (by rfl), trivial, ?_⟩ | refine hZ _ _ _ _ ⟨trivial, ?_⟩ | refine hZ _ _ _ _ ⟨_, _, _, _, (by repeat (first | exact up_s | assumption | refine up_n (by omega) ?_)), (by first | exact Or.inr (Or.inr rfl) | exact Or.inr (Or.inl rfl) | exact Or.inl rfl), adl (by omega), (by first | assumption | exact vp_in_nI (by omega) (by omega)), (by first | exact rowsF_at (by omega) | exact shF_at (by omega)), ?_⟩ | refine hZ _ _ _ _ ?_)
  show Z _ 829 _ _
  rw [lit_2, nI_add]
  refine hZ _ _ _ _ ⟨rfl, vp_in_nI (by omega) (by omega), ?_⟩
  rw [nI_clamp (by omega)]
  show Z _ 830 _ _
  iterate 4 (first | refine hZ _ _ _ _ ⟨rfl, ?_⟩ | refine hZ _ _ _ _ ⟨_, _, (by repeat (first | exact up_s | assumption | refine up_n (by omega) ?_)), adl (by omega), (by rfl), ?_⟩ | refine hZ _ _ _ _ ⟨_, _, (by repeat (first | exact up_s | assumption | refine up_n (by omega) ?_)), adl (by omega), (by first | assumption | exact vp_in_nI (by omega) (by omega)), ?_⟩ | refine hZ _ _ _ _ ⟨_, (by repeat (first | exact up_s | assumption | refine up_n (by omega) ?_)), adl (by omega), (by rfl), trivial, ?_⟩ | refine hZ _ _ _ _ ⟨trivial, ?_⟩ | refine hZ _ _ _ _ ⟨_, _, _, _, (by repeat (first | exact up_s | assumption | refine up_n (by omega) ?_)), (by first | exact Or.inr (Or.inr rfl) | exact Or.inr (Or.inl rfl) | exact Or.inl rfl), adl (by omega), (by first | assumption | exact vp_in_nI (by omega) (by omega)), (by first | exact rowsF_at (by omega) | exact shF_at (by omega)), ?_⟩ | refine hZ _ _ _ _ ?_)
  show Z _ 834 _ _
  rw [lit_3, nI_add]
  refine hZ _ _ _ _ ⟨rfl, vp_in_nI (by omega) (by omega), ?_⟩
  rw [nI_clamp (by omega)]
  show Z _ 835 _ _
  refine hZ _ _ _ _ ⟨⟨_, (by repeat (first | exact up_s | assumption | refine up_n (by omega) ?_))⟩, adl (by omega), rfl, ?_⟩
  refine C_cell C O (fun h1 F1 C1 => ?_)
  show Z h1 838 _ _
  have M1 := M.fr F1 (by omega)
  obtain ⟨f1, m1⟩ := M1.obj
  iterate 5 (first | refine hZ _ _ _ _ ⟨rfl, ?_⟩ | refine hZ _ _ _ _ ⟨_, _, (by repeat (first | exact up_s | assumption | refine up_n (by omega) ?_)), adl (by omega), (by rfl), ?_⟩ | refine hZ _ _ _ _ ⟨_, _, (by repeat (first | exact up_s | assumption | refine up_n (by omega) ?_)), adl (by omega), (by first | assumption | exact vp_in_nI (by omega) (by omega)), ?_⟩ | refine hZ _ _ _ _ ⟨_, (by repeat (first | exact up_s | assumption | refine up_n (by omega) ?_)), adl (by omega), (by rfl), trivial, ?_⟩ | refine hZ _ _ _ _ ⟨trivial, ?_⟩ | refine hZ _ _ _ _ ⟨_, _, _, _, (by repeat (first | exact up_s | assumption | refine up_n (by omega) ?_)), (by first | exact Or.inr (Or.inr rfl) | exact Or.inr (Or.inl rfl) | exact Or.inl rfl), adl (by omega), (by first | assumption | exact vp_in_nI (by omega) (by omega)), (by first | exact rowsF_at (by omega) | exact shF_at (by omega)), ?_⟩ | refine hZ _ _ _ _ ?_)
  show Z _ 843 _ _
  rw [lit_1, nI_add]
  refine hZ _ _ _ _ ⟨rfl, vp_in_nI (by omega) (by omega), ?_⟩
  rw [nI_clamp (by omega)]
  show Z _ 844 _ _
  iterate 4 (first | refine hZ _ _ _ _ ⟨rfl, ?_⟩ | refine hZ _ _ _ _ ⟨_, _, (by repeat (first | exact up_s | assumption | refine up_n (by omega) ?_)), adl (by omega), (by rfl), ?_⟩ | refine hZ _ _ _ _ ⟨_, _, (by repeat (first | exact up_s | assumption | refine up_n (by omega) ?_)), adl (by omega), (by first | assumption | exact vp_in_nI (by omega) (by omega)), ?_⟩ | refine hZ _ _ _ _ ⟨_, (by repeat (first | exact up_s | assumption | refine up_n (by omega) ?_)), adl (by omega), (by rfl), trivial, ?_⟩ | refine hZ _ _ _ _ ⟨trivial, ?_⟩ | refine hZ _ _ _ _ ⟨_, _, _, _, (by repeat (first | exact up_s | assumption | refine up_n (by omega) ?_)), (by first | exact Or.inr (Or.inr rfl) | exact Or.inr (Or.inl rfl) | exact Or.inl rfl), adl (by omega), (by first | assumption | exact vp_in_nI (by omega) (by omega)), (by first | exact rowsF_at (by omega) | exact shF_at (by omega)), ?_⟩ | refine hZ _ _ _ _ ?_)
  show Z _ 848 _ _
  rw [lit_2, nI_add]
  refine hZ _ _ _ _ ⟨rfl, vp_in_nI (by omega) (by omega), ?_⟩
  rw [nI_clamp (by omega)]
  show Z _ 849 _ _
  iterate 4 (first | refine hZ _ _ _ _ ⟨rfl, ?_⟩ | refine hZ _ _ _ _ ⟨_, _, (by repeat (first | exact up_s | assumption | refine up_n (by omega) ?_)), adl (by omega), (by rfl), ?_⟩ | refine hZ _ _ _ _ ⟨_, _, (by repeat (first | exact up_s | assumption | refine up_n (by omega) ?_)), adl (by omega), (by first | assumption | exact vp_in_nI (by omega) (by omega)), ?_⟩ | refine hZ _ _ _ _ ⟨_, (by repeat (first | exact up_s | assumption | refine up_n (by omega) ?_)), adl (by omega), (by rfl), trivial, ?_⟩ | refine hZ _ _ _ _ ⟨trivial, ?_⟩ | refine hZ _ _ _ _ ⟨_, _, _, _, (by repeat (first | exact up_s | assumption | refine up_n (by omega) ?_)), (by first | exact Or.inr (Or.inr rfl) | exact Or.inr (Or.inl rfl) | exact Or.inl rfl), adl (by omega), (by first | assumption | exact vp_in_nI (by omega) (by omega)), (by first | exact rowsF_at (by omega) | exact shF_at (by omega)), ?_⟩ | refine hZ _ _ _ _ ?_)
  show Z _ 853 _ _
  rw [lit_3, nI_add]
  refine hZ _ _ _ _ ⟨rfl, vp_in_nI (by omega) (by omega), ?_⟩
  rw [nI_clamp (by omega)]
  show Z _ 854 _ _
  refine hZ _ _ _ _ ⟨⟨_, (by repeat (first | exact up_s | assumption | refine up_n (by omega) ?_))⟩, adl (by omega), rfl, ?_⟩
  refine M_cell M1 O (fun h2 F2 M2 => ?_)
  show Z h2 857 _ _
  have C2 := C1.fr F2
  iterate 1 (first | refine hZ _ _ _ _ ⟨rfl, ?_⟩ | refine hZ _ _ _ _ ⟨_, _, (by repeat (first | exact up_s | assumption | refine up_n (by omega) ?_)), adl (by omega), (by rfl), ?_⟩ | refine hZ _ _ _ _ ⟨_, _, (by repeat (first | exact up_s | assumption | refine up_n (by omega) ?_)), adl (by omega), (by first | assumption | exact vp_in_nI (by omega) (by omega)), ?_⟩ | refine hZ _ _ _ _ ⟨_, (by repeat (first | exact up_s | assumption | refine up_n (by omega) ?_)), adl (by omega), (by rfl), trivial, ?_⟩ | refine hZ _ _ _ _ ⟨trivial, ?_⟩ | refine hZ _ _ _ _ ⟨_, _, _, _, (by repeat (first | exact up_s | assumption | refine up_n (by omega) ?_)), (by first | exact Or.inr (Or.inr rfl) | exact Or.inr (Or.inl rfl) | exact Or.inl rfl), adl (by omega), (by first | assumption | exact vp_in_nI (by omega) (by omega)), (by first | exact rowsF_at (by omega) | exact shF_at (by omega)), ?_⟩ | refine hZ _ _ _ _ ?_)
  show Z _ 858 _ _
  rw [lcmp_rf]
  refine hZ _ _ _ _ ⟨fun _ => ?_, fun c9 => absurd rfl c9⟩
  exact kk h2 _ C2 M2 (K_cell O _ _ _)
set_option maxHeartbeats 2000000 in
theorem bL22 {l : Launch} {L i : Nat} {xs : Nat → Int32} {Z : AH → Nat → List (Option Value) → List Value → Prop} (hZ : ∀ h pc ls st, FsL l rL22 L xs Z h pc ls st → Z h pc ls st) {h : AH} {s : St} (C : CY h s) (M : MY h s) (O : Ok s) (hb : gr s ≤ 58000) (hi : i + 6 ≤ L) (hL : L ≤ 3072) (kk : ∀ h' s', CY h' s' → MY h' s' → Kp s s' → Z h' 1054 [some (.ref 82), some (.ref 0), some (.ref 61), some (.int (nI i))] []) : Z h 863 [some (.ref 82), some (.ref 0), some (.ref 61), some (.int (nI i))] [] := by
  obtain ⟨f0, m0⟩ := C.obj
  iterate 5 (first | refine hZ _ _ _ _ ⟨rfl, ?_⟩ | refine hZ _ _ _ _ ⟨_, _, (by repeat (first | exact up_s | assumption | refine up_n (by omega) ?_)), adl (by omega), (by rfl), ?_⟩ | refine hZ _ _ _ _ ⟨_, _, (by repeat (first | exact up_s | assumption | refine up_n (by omega) ?_)), adl (by omega), (by first | assumption | exact vp_in_nI (by omega) (by omega)), ?_⟩ | refine hZ _ _ _ _ ⟨_, (by repeat (first | exact up_s | assumption | refine up_n (by omega) ?_)), adl (by omega), (by rfl), trivial, ?_⟩ | refine hZ _ _ _ _ ⟨trivial, ?_⟩ | refine hZ _ _ _ _ ⟨_, _, _, _, (by repeat (first | exact up_s | assumption | refine up_n (by omega) ?_)), (by first | exact Or.inr (Or.inr rfl) | exact Or.inr (Or.inl rfl) | exact Or.inl rfl), adl (by omega), (by first | assumption | exact vp_in_nI (by omega) (by omega)), (by first | exact rowsF_at (by omega) | exact shF_at (by omega)), ?_⟩ | refine hZ _ _ _ _ ?_)
  show Z _ 868 _ _
  rw [lit_1, nI_add]
  refine hZ _ _ _ _ ⟨rfl, vp_in_nI (by omega) (by omega), ?_⟩
  rw [nI_clamp (by omega)]
  show Z _ 869 _ _
  iterate 4 (first | refine hZ _ _ _ _ ⟨rfl, ?_⟩ | refine hZ _ _ _ _ ⟨_, _, (by repeat (first | exact up_s | assumption | refine up_n (by omega) ?_)), adl (by omega), (by rfl), ?_⟩ | refine hZ _ _ _ _ ⟨_, _, (by repeat (first | exact up_s | assumption | refine up_n (by omega) ?_)), adl (by omega), (by first | assumption | exact vp_in_nI (by omega) (by omega)), ?_⟩ | refine hZ _ _ _ _ ⟨_, (by repeat (first | exact up_s | assumption | refine up_n (by omega) ?_)), adl (by omega), (by rfl), trivial, ?_⟩ | refine hZ _ _ _ _ ⟨trivial, ?_⟩ | refine hZ _ _ _ _ ⟨_, _, _, _, (by repeat (first | exact up_s | assumption | refine up_n (by omega) ?_)), (by first | exact Or.inr (Or.inr rfl) | exact Or.inr (Or.inl rfl) | exact Or.inl rfl), adl (by omega), (by first | assumption | exact vp_in_nI (by omega) (by omega)), (by first | exact rowsF_at (by omega) | exact shF_at (by omega)), ?_⟩ | refine hZ _ _ _ _ ?_)
  show Z _ 873 _ _
  rw [lit_2, nI_add]
  refine hZ _ _ _ _ ⟨rfl, vp_in_nI (by omega) (by omega), ?_⟩
  rw [nI_clamp (by omega)]
  show Z _ 874 _ _
  iterate 4 (first | refine hZ _ _ _ _ ⟨rfl, ?_⟩ | refine hZ _ _ _ _ ⟨_, _, (by repeat (first | exact up_s | assumption | refine up_n (by omega) ?_)), adl (by omega), (by rfl), ?_⟩ | refine hZ _ _ _ _ ⟨_, _, (by repeat (first | exact up_s | assumption | refine up_n (by omega) ?_)), adl (by omega), (by first | assumption | exact vp_in_nI (by omega) (by omega)), ?_⟩ | refine hZ _ _ _ _ ⟨_, (by repeat (first | exact up_s | assumption | refine up_n (by omega) ?_)), adl (by omega), (by rfl), trivial, ?_⟩ | refine hZ _ _ _ _ ⟨trivial, ?_⟩ | refine hZ _ _ _ _ ⟨_, _, _, _, (by repeat (first | exact up_s | assumption | refine up_n (by omega) ?_)), (by first | exact Or.inr (Or.inr rfl) | exact Or.inr (Or.inl rfl) | exact Or.inl rfl), adl (by omega), (by first | assumption | exact vp_in_nI (by omega) (by omega)), (by first | exact rowsF_at (by omega) | exact shF_at (by omega)), ?_⟩ | refine hZ _ _ _ _ ?_)
  show Z _ 878 _ _
  rw [lit_3, nI_add]
  refine hZ _ _ _ _ ⟨rfl, vp_in_nI (by omega) (by omega), ?_⟩
  rw [nI_clamp (by omega)]
  show Z _ 879 _ _
  iterate 4 (first | refine hZ _ _ _ _ ⟨rfl, ?_⟩ | refine hZ _ _ _ _ ⟨_, _, (by repeat (first | exact up_s | assumption | refine up_n (by omega) ?_)), adl (by omega), (by rfl), ?_⟩ | refine hZ _ _ _ _ ⟨_, _, (by repeat (first | exact up_s | assumption | refine up_n (by omega) ?_)), adl (by omega), (by first | assumption | exact vp_in_nI (by omega) (by omega)), ?_⟩ | refine hZ _ _ _ _ ⟨_, (by repeat (first | exact up_s | assumption | refine up_n (by omega) ?_)), adl (by omega), (by rfl), trivial, ?_⟩ | refine hZ _ _ _ _ ⟨trivial, ?_⟩ | refine hZ _ _ _ _ ⟨_, _, _, _, (by repeat (first | exact up_s | assumption | refine up_n (by omega) ?_)), (by first | exact Or.inr (Or.inr rfl) | exact Or.inr (Or.inl rfl) | exact Or.inl rfl), adl (by omega), (by first | assumption | exact vp_in_nI (by omega) (by omega)), (by first | exact rowsF_at (by omega) | exact shF_at (by omega)), ?_⟩ | refine hZ _ _ _ _ ?_)
  show Z _ 883 _ _
  rw [lit_4, nI_add]
  refine hZ _ _ _ _ ⟨rfl, vp_in_nI (by omega) (by omega), ?_⟩
  rw [nI_clamp (by omega)]
  show Z _ 884 _ _
  iterate 4 (first | refine hZ _ _ _ _ ⟨rfl, ?_⟩ | refine hZ _ _ _ _ ⟨_, _, (by repeat (first | exact up_s | assumption | refine up_n (by omega) ?_)), adl (by omega), (by rfl), ?_⟩ | refine hZ _ _ _ _ ⟨_, _, (by repeat (first | exact up_s | assumption | refine up_n (by omega) ?_)), adl (by omega), (by first | assumption | exact vp_in_nI (by omega) (by omega)), ?_⟩ | refine hZ _ _ _ _ ⟨_, (by repeat (first | exact up_s | assumption | refine up_n (by omega) ?_)), adl (by omega), (by rfl), trivial, ?_⟩ | refine hZ _ _ _ _ ⟨trivial, ?_⟩ | refine hZ _ _ _ _ ⟨_, _, _, _, (by repeat (first | exact up_s | assumption | refine up_n (by omega) ?_)), (by first | exact Or.inr (Or.inr rfl) | exact Or.inr (Or.inl rfl) | exact Or.inl rfl), adl (by omega), (by first | assumption | exact vp_in_nI (by omega) (by omega)), (by first | exact rowsF_at (by omega) | exact shF_at (by omega)), ?_⟩ | refine hZ _ _ _ _ ?_)
  show Z _ 888 _ _
  rw [lit_5, nI_add]
  refine hZ _ _ _ _ ⟨rfl, vp_in_nI (by omega) (by omega), ?_⟩
  rw [nI_clamp (by omega)]
  show Z _ 889 _ _
  refine hZ _ _ _ _ ⟨⟨_, (by repeat (first | exact up_s | assumption | refine up_n (by omega) ?_))⟩, adl (by omega), rfl, ?_⟩
  refine C_copy C O (fun h1 F1 C1 => ?_)
  show Z h1 892 _ _
  have M1 := M.fr F1 (by omega)
  obtain ⟨f1, m1⟩ := M1.obj
  iterate 5 (first | refine hZ _ _ _ _ ⟨rfl, ?_⟩ | refine hZ _ _ _ _ ⟨_, _, (by repeat (first | exact up_s | assumption | refine up_n (by omega) ?_)), adl (by omega), (by rfl), ?_⟩ | refine hZ _ _ _ _ ⟨_, _, (by repeat (first | exact up_s | assumption | refine up_n (by omega) ?_)), adl (by omega), (by first | assumption | exact vp_in_nI (by omega) (by omega)), ?_⟩ | refine hZ _ _ _ _ ⟨_, (by repeat (first | exact up_s | assumption | refine up_n (by omega) ?_)), adl (by omega), (by rfl), trivial, ?_⟩ | refine hZ _ _ _ _ ⟨trivial, ?_⟩ | refine hZ _ _ _ _ ⟨_, _, _, _, (by repeat (first | exact up_s | assumption | refine up_n (by omega) ?_)), (by first | exact Or.inr (Or.inr rfl) | exact Or.inr (Or.inl rfl) | exact Or.inl rfl), adl (by omega), (by first | assumption | exact vp_in_nI (by omega) (by omega)), (by first | exact rowsF_at (by omega) | exact shF_at (by omega)), ?_⟩ | refine hZ _ _ _ _ ?_)
  show Z _ 897 _ _
  rw [lit_1, nI_add]
  refine hZ _ _ _ _ ⟨rfl, vp_in_nI (by omega) (by omega), ?_⟩
  rw [nI_clamp (by omega)]
  show Z _ 898 _ _
  iterate 4 (first | refine hZ _ _ _ _ ⟨rfl, ?_⟩ | refine hZ _ _ _ _ ⟨_, _, (by repeat (first | exact up_s | assumption | refine up_n (by omega) ?_)), adl (by omega), (by rfl), ?_⟩ | refine hZ _ _ _ _ ⟨_, _, (by repeat (first | exact up_s | assumption | refine up_n (by omega) ?_)), adl (by omega), (by first | assumption | exact vp_in_nI (by omega) (by omega)), ?_⟩ | refine hZ _ _ _ _ ⟨_, (by repeat (first | exact up_s | assumption | refine up_n (by omega) ?_)), adl (by omega), (by rfl), trivial, ?_⟩ | refine hZ _ _ _ _ ⟨trivial, ?_⟩ | refine hZ _ _ _ _ ⟨_, _, _, _, (by repeat (first | exact up_s | assumption | refine up_n (by omega) ?_)), (by first | exact Or.inr (Or.inr rfl) | exact Or.inr (Or.inl rfl) | exact Or.inl rfl), adl (by omega), (by first | assumption | exact vp_in_nI (by omega) (by omega)), (by first | exact rowsF_at (by omega) | exact shF_at (by omega)), ?_⟩ | refine hZ _ _ _ _ ?_)
  show Z _ 902 _ _
  rw [lit_2, nI_add]
  refine hZ _ _ _ _ ⟨rfl, vp_in_nI (by omega) (by omega), ?_⟩
  rw [nI_clamp (by omega)]
  show Z _ 903 _ _
  iterate 4 (first | refine hZ _ _ _ _ ⟨rfl, ?_⟩ | refine hZ _ _ _ _ ⟨_, _, (by repeat (first | exact up_s | assumption | refine up_n (by omega) ?_)), adl (by omega), (by rfl), ?_⟩ | refine hZ _ _ _ _ ⟨_, _, (by repeat (first | exact up_s | assumption | refine up_n (by omega) ?_)), adl (by omega), (by first | assumption | exact vp_in_nI (by omega) (by omega)), ?_⟩ | refine hZ _ _ _ _ ⟨_, (by repeat (first | exact up_s | assumption | refine up_n (by omega) ?_)), adl (by omega), (by rfl), trivial, ?_⟩ | refine hZ _ _ _ _ ⟨trivial, ?_⟩ | refine hZ _ _ _ _ ⟨_, _, _, _, (by repeat (first | exact up_s | assumption | refine up_n (by omega) ?_)), (by first | exact Or.inr (Or.inr rfl) | exact Or.inr (Or.inl rfl) | exact Or.inl rfl), adl (by omega), (by first | assumption | exact vp_in_nI (by omega) (by omega)), (by first | exact rowsF_at (by omega) | exact shF_at (by omega)), ?_⟩ | refine hZ _ _ _ _ ?_)
  show Z _ 907 _ _
  rw [lit_3, nI_add]
  refine hZ _ _ _ _ ⟨rfl, vp_in_nI (by omega) (by omega), ?_⟩
  rw [nI_clamp (by omega)]
  show Z _ 908 _ _
  iterate 4 (first | refine hZ _ _ _ _ ⟨rfl, ?_⟩ | refine hZ _ _ _ _ ⟨_, _, (by repeat (first | exact up_s | assumption | refine up_n (by omega) ?_)), adl (by omega), (by rfl), ?_⟩ | refine hZ _ _ _ _ ⟨_, _, (by repeat (first | exact up_s | assumption | refine up_n (by omega) ?_)), adl (by omega), (by first | assumption | exact vp_in_nI (by omega) (by omega)), ?_⟩ | refine hZ _ _ _ _ ⟨_, (by repeat (first | exact up_s | assumption | refine up_n (by omega) ?_)), adl (by omega), (by rfl), trivial, ?_⟩ | refine hZ _ _ _ _ ⟨trivial, ?_⟩ | refine hZ _ _ _ _ ⟨_, _, _, _, (by repeat (first | exact up_s | assumption | refine up_n (by omega) ?_)), (by first | exact Or.inr (Or.inr rfl) | exact Or.inr (Or.inl rfl) | exact Or.inl rfl), adl (by omega), (by first | assumption | exact vp_in_nI (by omega) (by omega)), (by first | exact rowsF_at (by omega) | exact shF_at (by omega)), ?_⟩ | refine hZ _ _ _ _ ?_)
  show Z _ 912 _ _
  rw [lit_4, nI_add]
  refine hZ _ _ _ _ ⟨rfl, vp_in_nI (by omega) (by omega), ?_⟩
  rw [nI_clamp (by omega)]
  show Z _ 913 _ _
  iterate 4 (first | refine hZ _ _ _ _ ⟨rfl, ?_⟩ | refine hZ _ _ _ _ ⟨_, _, (by repeat (first | exact up_s | assumption | refine up_n (by omega) ?_)), adl (by omega), (by rfl), ?_⟩ | refine hZ _ _ _ _ ⟨_, _, (by repeat (first | exact up_s | assumption | refine up_n (by omega) ?_)), adl (by omega), (by first | assumption | exact vp_in_nI (by omega) (by omega)), ?_⟩ | refine hZ _ _ _ _ ⟨_, (by repeat (first | exact up_s | assumption | refine up_n (by omega) ?_)), adl (by omega), (by rfl), trivial, ?_⟩ | refine hZ _ _ _ _ ⟨trivial, ?_⟩ | refine hZ _ _ _ _ ⟨_, _, _, _, (by repeat (first | exact up_s | assumption | refine up_n (by omega) ?_)), (by first | exact Or.inr (Or.inr rfl) | exact Or.inr (Or.inl rfl) | exact Or.inl rfl), adl (by omega), (by first | assumption | exact vp_in_nI (by omega) (by omega)), (by first | exact rowsF_at (by omega) | exact shF_at (by omega)), ?_⟩ | refine hZ _ _ _ _ ?_)
  show Z _ 917 _ _
  rw [lit_5, nI_add]
  refine hZ _ _ _ _ ⟨rfl, vp_in_nI (by omega) (by omega), ?_⟩
  rw [nI_clamp (by omega)]
  show Z _ 918 _ _
  refine hZ _ _ _ _ ⟨⟨_, (by repeat (first | exact up_s | assumption | refine up_n (by omega) ?_))⟩, adl (by omega), rfl, ?_⟩
  refine M_copy M1 O (fun h2 F2 M2 => ?_)
  show Z h2 921 _ _
  have C2 := C1.fr F2
  refine hZ _ _ _ _ ⟨fun _ => ?_, fun c9 => absurd rfl c9⟩
  exact kk h2 _ C2 M2 (K_copy O _ _ _ _ _)
set_option maxHeartbeats 2000000 in
theorem bL23 {l : Launch} {L i : Nat} {xs : Nat → Int32} {Z : AH → Nat → List (Option Value) → List Value → Prop} (hZ : ∀ h pc ls st, FsL l rL23 L xs Z h pc ls st → Z h pc ls st) {h : AH} {s : St} (C : CY h s) (M : MY h s) (O : Ok s) (hb : gr s ≤ 58000) (hi : i + 6 ≤ L) (hL : L ≤ 3072) (kk : ∀ h' s', CY h' s' → MY h' s' → Kp s s' → Z h' 1054 [some (.ref 82), some (.ref 0), some (.ref 61), some (.int (nI i))] []) : Z h 926 [some (.ref 82), some (.ref 0), some (.ref 61), some (.int (nI i))] [] := by
  obtain ⟨f0, m0⟩ := C.obj
  iterate 5 (first | refine hZ _ _ _ _ ⟨rfl, ?_⟩ | refine hZ _ _ _ _ ⟨_, _, (by repeat (first | exact up_s | assumption | refine up_n (by omega) ?_)), adl (by omega), (by rfl), ?_⟩ | refine hZ _ _ _ _ ⟨_, _, (by repeat (first | exact up_s | assumption | refine up_n (by omega) ?_)), adl (by omega), (by first | assumption | exact vp_in_nI (by omega) (by omega)), ?_⟩ | refine hZ _ _ _ _ ⟨_, (by repeat (first | exact up_s | assumption | refine up_n (by omega) ?_)), adl (by omega), (by rfl), trivial, ?_⟩ | refine hZ _ _ _ _ ⟨trivial, ?_⟩ | refine hZ _ _ _ _ ⟨_, _, _, _, (by repeat (first | exact up_s | assumption | refine up_n (by omega) ?_)), (by first | exact Or.inr (Or.inr rfl) | exact Or.inr (Or.inl rfl) | exact Or.inl rfl), adl (by omega), (by first | assumption | exact vp_in_nI (by omega) (by omega)), (by first | exact rowsF_at (by omega) | exact shF_at (by omega)), ?_⟩ | refine hZ _ _ _ _ ?_)
  show Z _ 931 _ _
  rw [lit_1, nI_add]
  refine hZ _ _ _ _ ⟨rfl, vp_in_nI (by omega) (by omega), ?_⟩
  rw [nI_clamp (by omega)]
  show Z _ 932 _ _
  refine hZ _ _ _ _ ⟨⟨_, (by repeat (first | exact up_s | assumption | refine up_n (by omega) ?_))⟩, adl (by omega), rfl, ?_⟩
  refine C_tell C O (fun h1 F1 C1 => ?_)
  show Z h1 935 _ _
  have M1 := M.fr F1 (by omega)
  obtain ⟨f1, m1⟩ := M1.obj
  iterate 5 (first | refine hZ _ _ _ _ ⟨rfl, ?_⟩ | refine hZ _ _ _ _ ⟨_, _, (by repeat (first | exact up_s | assumption | refine up_n (by omega) ?_)), adl (by omega), (by rfl), ?_⟩ | refine hZ _ _ _ _ ⟨_, _, (by repeat (first | exact up_s | assumption | refine up_n (by omega) ?_)), adl (by omega), (by first | assumption | exact vp_in_nI (by omega) (by omega)), ?_⟩ | refine hZ _ _ _ _ ⟨_, (by repeat (first | exact up_s | assumption | refine up_n (by omega) ?_)), adl (by omega), (by rfl), trivial, ?_⟩ | refine hZ _ _ _ _ ⟨trivial, ?_⟩ | refine hZ _ _ _ _ ⟨_, _, _, _, (by repeat (first | exact up_s | assumption | refine up_n (by omega) ?_)), (by first | exact Or.inr (Or.inr rfl) | exact Or.inr (Or.inl rfl) | exact Or.inl rfl), adl (by omega), (by first | assumption | exact vp_in_nI (by omega) (by omega)), (by first | exact rowsF_at (by omega) | exact shF_at (by omega)), ?_⟩ | refine hZ _ _ _ _ ?_)
  show Z _ 940 _ _
  rw [lit_1, nI_add]
  refine hZ _ _ _ _ ⟨rfl, vp_in_nI (by omega) (by omega), ?_⟩
  rw [nI_clamp (by omega)]
  show Z _ 941 _ _
  refine hZ _ _ _ _ ⟨⟨_, (by repeat (first | exact up_s | assumption | refine up_n (by omega) ?_))⟩, adl (by omega), rfl, ?_⟩
  refine M_tell M1 O (fun h2 F2 M2 => ?_)
  show Z h2 944 _ _
  have C2 := C1.fr F2
  refine hZ _ _ _ _ ⟨fun _ => ?_, fun c9 => absurd rfl c9⟩
  exact kk h2 _ C2 M2 (K_tell O _)
set_option maxHeartbeats 2000000 in
theorem bL24 {l : Launch} {L i : Nat} {xs : Nat → Int32} {Z : AH → Nat → List (Option Value) → List Value → Prop} (hZ : ∀ h pc ls st, FsL l rL24 L xs Z h pc ls st → Z h pc ls st) {h : AH} {s : St} (C : CY h s) (M : MY h s) (O : Ok s) (hb : gr s ≤ 58000) (hi : i + 6 ≤ L) (hL : L ≤ 3072) (kk : ∀ h' s', CY h' s' → MY h' s' → Kp s s' → Z h' 1054 [some (.ref 82), some (.ref 0), some (.ref 61), some (.int (nI i))] []) : Z h 949 [some (.ref 82), some (.ref 0), some (.ref 61), some (.int (nI i))] [] := by
  obtain ⟨f0, m0⟩ := C.obj
  iterate 5 (first | refine hZ _ _ _ _ ⟨rfl, ?_⟩ | refine hZ _ _ _ _ ⟨_, _, (by repeat (first | exact up_s | assumption | refine up_n (by omega) ?_)), adl (by omega), (by rfl), ?_⟩ | refine hZ _ _ _ _ ⟨_, _, (by repeat (first | exact up_s | assumption | refine up_n (by omega) ?_)), adl (by omega), (by first | assumption | exact vp_in_nI (by omega) (by omega)), ?_⟩ | refine hZ _ _ _ _ ⟨_, (by repeat (first | exact up_s | assumption | refine up_n (by omega) ?_)), adl (by omega), (by rfl), trivial, ?_⟩ | refine hZ _ _ _ _ ⟨trivial, ?_⟩ | refine hZ _ _ _ _ ⟨_, _, _, _, (by repeat (first | exact up_s | assumption | refine up_n (by omega) ?_)), (by first | exact Or.inr (Or.inr rfl) | exact Or.inr (Or.inl rfl) | exact Or.inl rfl), adl (by omega), (by first | assumption | exact vp_in_nI (by omega) (by omega)), (by first | exact rowsF_at (by omega) | exact shF_at (by omega)), ?_⟩ | refine hZ _ _ _ _ ?_)
  show Z _ 954 _ _
  rw [lit_1, nI_add]
  refine hZ _ _ _ _ ⟨rfl, vp_in_nI (by omega) (by omega), ?_⟩
  rw [nI_clamp (by omega)]
  show Z _ 955 _ _
  refine hZ _ _ _ _ ⟨⟨_, (by repeat (first | exact up_s | assumption | refine up_n (by omega) ?_))⟩, adl (by omega), rfl, ?_⟩
  refine C_strike C O (fun h1 F1 C1 => ?_)
  show Z h1 958 _ _
  have M1 := M.fr F1 (by omega)
  obtain ⟨f1, m1⟩ := M1.obj
  iterate 5 (first | refine hZ _ _ _ _ ⟨rfl, ?_⟩ | refine hZ _ _ _ _ ⟨_, _, (by repeat (first | exact up_s | assumption | refine up_n (by omega) ?_)), adl (by omega), (by rfl), ?_⟩ | refine hZ _ _ _ _ ⟨_, _, (by repeat (first | exact up_s | assumption | refine up_n (by omega) ?_)), adl (by omega), (by first | assumption | exact vp_in_nI (by omega) (by omega)), ?_⟩ | refine hZ _ _ _ _ ⟨_, (by repeat (first | exact up_s | assumption | refine up_n (by omega) ?_)), adl (by omega), (by rfl), trivial, ?_⟩ | refine hZ _ _ _ _ ⟨trivial, ?_⟩ | refine hZ _ _ _ _ ⟨_, _, _, _, (by repeat (first | exact up_s | assumption | refine up_n (by omega) ?_)), (by first | exact Or.inr (Or.inr rfl) | exact Or.inr (Or.inl rfl) | exact Or.inl rfl), adl (by omega), (by first | assumption | exact vp_in_nI (by omega) (by omega)), (by first | exact rowsF_at (by omega) | exact shF_at (by omega)), ?_⟩ | refine hZ _ _ _ _ ?_)
  show Z _ 963 _ _
  rw [lit_1, nI_add]
  refine hZ _ _ _ _ ⟨rfl, vp_in_nI (by omega) (by omega), ?_⟩
  rw [nI_clamp (by omega)]
  show Z _ 964 _ _
  refine hZ _ _ _ _ ⟨⟨_, (by repeat (first | exact up_s | assumption | refine up_n (by omega) ?_))⟩, adl (by omega), rfl, ?_⟩
  refine M_strike M1 O (fun h2 F2 M2 => ?_)
  show Z h2 967 _ _
  have C2 := C1.fr F2
  refine hZ _ _ _ _ ⟨fun _ => ?_, fun c9 => absurd rfl c9⟩
  exact kk h2 _ C2 M2 (K_strike O _)
set_option maxHeartbeats 2000000 in
theorem bL25 {l : Launch} {L i : Nat} {xs : Nat → Int32} {Z : AH → Nat → List (Option Value) → List Value → Prop} (hZ : ∀ h pc ls st, FsL l rL25 L xs Z h pc ls st → Z h pc ls st) {h : AH} {s : St} (C : CY h s) (M : MY h s) (O : Ok s) (hb : gr s ≤ 58000) (hi : i + 6 ≤ L) (hL : L ≤ 3072) (kk : ∀ h' s', CY h' s' → MY h' s' → Kp s s' → Z h' 1054 [some (.ref 82), some (.ref 0), some (.ref 61), some (.int (nI i))] []) : Z h 972 [some (.ref 82), some (.ref 0), some (.ref 61), some (.int (nI i))] [] := by
  obtain ⟨f0, m0⟩ := C.obj
  iterate 5 (first | refine hZ _ _ _ _ ⟨rfl, ?_⟩ | refine hZ _ _ _ _ ⟨_, _, (by repeat (first | exact up_s | assumption | refine up_n (by omega) ?_)), adl (by omega), (by rfl), ?_⟩ | refine hZ _ _ _ _ ⟨_, _, (by repeat (first | exact up_s | assumption | refine up_n (by omega) ?_)), adl (by omega), (by first | assumption | exact vp_in_nI (by omega) (by omega)), ?_⟩ | refine hZ _ _ _ _ ⟨_, (by repeat (first | exact up_s | assumption | refine up_n (by omega) ?_)), adl (by omega), (by rfl), trivial, ?_⟩ | refine hZ _ _ _ _ ⟨trivial, ?_⟩ | refine hZ _ _ _ _ ⟨_, _, _, _, (by repeat (first | exact up_s | assumption | refine up_n (by omega) ?_)), (by first | exact Or.inr (Or.inr rfl) | exact Or.inr (Or.inl rfl) | exact Or.inl rfl), adl (by omega), (by first | assumption | exact vp_in_nI (by omega) (by omega)), (by first | exact rowsF_at (by omega) | exact shF_at (by omega)), ?_⟩ | refine hZ _ _ _ _ ?_)
  show Z _ 977 _ _
  rw [lit_1, nI_add]
  refine hZ _ _ _ _ ⟨rfl, vp_in_nI (by omega) (by omega), ?_⟩
  rw [nI_clamp (by omega)]
  show Z _ 978 _ _
  iterate 4 (first | refine hZ _ _ _ _ ⟨rfl, ?_⟩ | refine hZ _ _ _ _ ⟨_, _, (by repeat (first | exact up_s | assumption | refine up_n (by omega) ?_)), adl (by omega), (by rfl), ?_⟩ | refine hZ _ _ _ _ ⟨_, _, (by repeat (first | exact up_s | assumption | refine up_n (by omega) ?_)), adl (by omega), (by first | assumption | exact vp_in_nI (by omega) (by omega)), ?_⟩ | refine hZ _ _ _ _ ⟨_, (by repeat (first | exact up_s | assumption | refine up_n (by omega) ?_)), adl (by omega), (by rfl), trivial, ?_⟩ | refine hZ _ _ _ _ ⟨trivial, ?_⟩ | refine hZ _ _ _ _ ⟨_, _, _, _, (by repeat (first | exact up_s | assumption | refine up_n (by omega) ?_)), (by first | exact Or.inr (Or.inr rfl) | exact Or.inr (Or.inl rfl) | exact Or.inl rfl), adl (by omega), (by first | assumption | exact vp_in_nI (by omega) (by omega)), (by first | exact rowsF_at (by omega) | exact shF_at (by omega)), ?_⟩ | refine hZ _ _ _ _ ?_)
  show Z _ 982 _ _
  rw [lit_2, nI_add]
  refine hZ _ _ _ _ ⟨rfl, vp_in_nI (by omega) (by omega), ?_⟩
  rw [nI_clamp (by omega)]
  show Z _ 983 _ _
  refine hZ _ _ _ _ ⟨⟨_, (by repeat (first | exact up_s | assumption | refine up_n (by omega) ?_))⟩, adl (by omega), rfl, ?_⟩
  refine C_as C O (fun h1 F1 C1 => ?_)
  show Z h1 986 _ _
  have M1 := M.fr F1 (by omega)
  obtain ⟨f1, m1⟩ := M1.obj
  iterate 5 (first | refine hZ _ _ _ _ ⟨rfl, ?_⟩ | refine hZ _ _ _ _ ⟨_, _, (by repeat (first | exact up_s | assumption | refine up_n (by omega) ?_)), adl (by omega), (by rfl), ?_⟩ | refine hZ _ _ _ _ ⟨_, _, (by repeat (first | exact up_s | assumption | refine up_n (by omega) ?_)), adl (by omega), (by first | assumption | exact vp_in_nI (by omega) (by omega)), ?_⟩ | refine hZ _ _ _ _ ⟨_, (by repeat (first | exact up_s | assumption | refine up_n (by omega) ?_)), adl (by omega), (by rfl), trivial, ?_⟩ | refine hZ _ _ _ _ ⟨trivial, ?_⟩ | refine hZ _ _ _ _ ⟨_, _, _, _, (by repeat (first | exact up_s | assumption | refine up_n (by omega) ?_)), (by first | exact Or.inr (Or.inr rfl) | exact Or.inr (Or.inl rfl) | exact Or.inl rfl), adl (by omega), (by first | assumption | exact vp_in_nI (by omega) (by omega)), (by first | exact rowsF_at (by omega) | exact shF_at (by omega)), ?_⟩ | refine hZ _ _ _ _ ?_)
  show Z _ 991 _ _
  rw [lit_1, nI_add]
  refine hZ _ _ _ _ ⟨rfl, vp_in_nI (by omega) (by omega), ?_⟩
  rw [nI_clamp (by omega)]
  show Z _ 992 _ _
  iterate 4 (first | refine hZ _ _ _ _ ⟨rfl, ?_⟩ | refine hZ _ _ _ _ ⟨_, _, (by repeat (first | exact up_s | assumption | refine up_n (by omega) ?_)), adl (by omega), (by rfl), ?_⟩ | refine hZ _ _ _ _ ⟨_, _, (by repeat (first | exact up_s | assumption | refine up_n (by omega) ?_)), adl (by omega), (by first | assumption | exact vp_in_nI (by omega) (by omega)), ?_⟩ | refine hZ _ _ _ _ ⟨_, (by repeat (first | exact up_s | assumption | refine up_n (by omega) ?_)), adl (by omega), (by rfl), trivial, ?_⟩ | refine hZ _ _ _ _ ⟨trivial, ?_⟩ | refine hZ _ _ _ _ ⟨_, _, _, _, (by repeat (first | exact up_s | assumption | refine up_n (by omega) ?_)), (by first | exact Or.inr (Or.inr rfl) | exact Or.inr (Or.inl rfl) | exact Or.inl rfl), adl (by omega), (by first | assumption | exact vp_in_nI (by omega) (by omega)), (by first | exact rowsF_at (by omega) | exact shF_at (by omega)), ?_⟩ | refine hZ _ _ _ _ ?_)
  show Z _ 996 _ _
  rw [lit_2, nI_add]
  refine hZ _ _ _ _ ⟨rfl, vp_in_nI (by omega) (by omega), ?_⟩
  rw [nI_clamp (by omega)]
  show Z _ 997 _ _
  refine hZ _ _ _ _ ⟨⟨_, (by repeat (first | exact up_s | assumption | refine up_n (by omega) ?_))⟩, adl (by omega), rfl, ?_⟩
  refine M_as M1 O (fun h2 F2 M2 => ?_)
  show Z h2 1000 _ _
  have C2 := C1.fr F2
  refine hZ _ _ _ _ ⟨fun _ => ?_, fun c9 => absurd rfl c9⟩
  exact kk h2 _ C2 M2 (K_as O _ _)
set_option maxHeartbeats 2000000 in
theorem bL26 {l : Launch} {L i : Nat} {xs : Nat → Int32} {Z : AH → Nat → List (Option Value) → List Value → Prop} (hZ : ∀ h pc ls st, FsL l rL26 L xs Z h pc ls st → Z h pc ls st) {h : AH} {s : St} (C : CY h s) (M : MY h s) (O : Ok s) (hb : gr s ≤ 58000) (hi : i + 6 ≤ L) (hL : L ≤ 3072) (kk : ∀ h' s', CY h' s' → MY h' s' → Kp s s' → Z h' 1054 [some (.ref 82), some (.ref 0), some (.ref 61), some (.int (nI i))] []) : Z h 1005 [some (.ref 82), some (.ref 0), some (.ref 61), some (.int (nI i))] [] := by
  obtain ⟨f0, m0⟩ := C.obj
  iterate 1 (first | refine hZ _ _ _ _ ⟨rfl, ?_⟩ | refine hZ _ _ _ _ ⟨_, _, (by repeat (first | exact up_s | assumption | refine up_n (by omega) ?_)), adl (by omega), (by rfl), ?_⟩ | refine hZ _ _ _ _ ⟨_, _, (by repeat (first | exact up_s | assumption | refine up_n (by omega) ?_)), adl (by omega), (by first | assumption | exact vp_in_nI (by omega) (by omega)), ?_⟩ | refine hZ _ _ _ _ ⟨_, (by repeat (first | exact up_s | assumption | refine up_n (by omega) ?_)), adl (by omega), (by rfl), trivial, ?_⟩ | refine hZ _ _ _ _ ⟨trivial, ?_⟩ | refine hZ _ _ _ _ ⟨_, _, _, _, (by repeat (first | exact up_s | assumption | refine up_n (by omega) ?_)), (by first | exact Or.inr (Or.inr rfl) | exact Or.inr (Or.inl rfl) | exact Or.inl rfl), adl (by omega), (by first | assumption | exact vp_in_nI (by omega) (by omega)), (by first | exact rowsF_at (by omega) | exact shF_at (by omega)), ?_⟩ | refine hZ _ _ _ _ ?_)
  show Z _ 1006 _ _
  refine hZ _ _ _ _ ⟨⟨_, (by repeat (first | exact up_s | assumption | refine up_n (by omega) ?_))⟩, adl (by omega), rfl, ?_⟩
  refine C_trace C (fun h1 F1 C1 => ?_)
  show Z h1 1009 _ _
  have M1 := M.fr F1 (by omega)
  obtain ⟨f1, m1⟩ := M1.obj
  iterate 1 (first | refine hZ _ _ _ _ ⟨rfl, ?_⟩ | refine hZ _ _ _ _ ⟨_, _, (by repeat (first | exact up_s | assumption | refine up_n (by omega) ?_)), adl (by omega), (by rfl), ?_⟩ | refine hZ _ _ _ _ ⟨_, _, (by repeat (first | exact up_s | assumption | refine up_n (by omega) ?_)), adl (by omega), (by first | assumption | exact vp_in_nI (by omega) (by omega)), ?_⟩ | refine hZ _ _ _ _ ⟨_, (by repeat (first | exact up_s | assumption | refine up_n (by omega) ?_)), adl (by omega), (by rfl), trivial, ?_⟩ | refine hZ _ _ _ _ ⟨trivial, ?_⟩ | refine hZ _ _ _ _ ⟨_, _, _, _, (by repeat (first | exact up_s | assumption | refine up_n (by omega) ?_)), (by first | exact Or.inr (Or.inr rfl) | exact Or.inr (Or.inl rfl) | exact Or.inl rfl), adl (by omega), (by first | assumption | exact vp_in_nI (by omega) (by omega)), (by first | exact rowsF_at (by omega) | exact shF_at (by omega)), ?_⟩ | refine hZ _ _ _ _ ?_)
  show Z _ 1010 _ _
  refine hZ _ _ _ _ ⟨⟨_, (by repeat (first | exact up_s | assumption | refine up_n (by omega) ?_))⟩, adl (by omega), rfl, ?_⟩
  refine M_trace M1 (fun h2 F2 M2 => ?_)
  show Z h2 1013 _ _
  have C2 := C1.fr F2
  refine hZ _ _ _ _ ⟨fun _ => ?_, fun c9 => absurd rfl c9⟩
  exact kk h2 s C2 M2 (Kp.rf O)
set_option maxHeartbeats 2000000 in
theorem bL27 {l : Launch} {L i : Nat} {xs : Nat → Int32} {Z : AH → Nat → List (Option Value) → List Value → Prop} (hZ : ∀ h pc ls st, FsL l rL27 L xs Z h pc ls st → Z h pc ls st) {h : AH} {s : St} (C : CY h s) (M : MY h s) (O : Ok s) (hb : gr s ≤ 58000) (hi : i + 6 ≤ L) (hL : L ≤ 3072) (kk : ∀ h' s', CY h' s' → MY h' s' → Kp s s' → Z h' 1054 [some (.ref 82), some (.ref 0), some (.ref 61), some (.int (nI i))] []) : Z h 1018 [some (.ref 82), some (.ref 0), some (.ref 61), some (.int (nI i))] [] := by
  obtain ⟨f0, m0⟩ := C.obj
  iterate 1 (first | refine hZ _ _ _ _ ⟨rfl, ?_⟩ | refine hZ _ _ _ _ ⟨_, _, (by repeat (first | exact up_s | assumption | refine up_n (by omega) ?_)), adl (by omega), (by rfl), ?_⟩ | refine hZ _ _ _ _ ⟨_, _, (by repeat (first | exact up_s | assumption | refine up_n (by omega) ?_)), adl (by omega), (by first | assumption | exact vp_in_nI (by omega) (by omega)), ?_⟩ | refine hZ _ _ _ _ ⟨_, (by repeat (first | exact up_s | assumption | refine up_n (by omega) ?_)), adl (by omega), (by rfl), trivial, ?_⟩ | refine hZ _ _ _ _ ⟨trivial, ?_⟩ | refine hZ _ _ _ _ ⟨_, _, _, _, (by repeat (first | exact up_s | assumption | refine up_n (by omega) ?_)), (by first | exact Or.inr (Or.inr rfl) | exact Or.inr (Or.inl rfl) | exact Or.inl rfl), adl (by omega), (by first | assumption | exact vp_in_nI (by omega) (by omega)), (by first | exact rowsF_at (by omega) | exact shF_at (by omega)), ?_⟩ | refine hZ _ _ _ _ ?_)
  show Z _ 1019 _ _
  refine hZ _ _ _ _ ⟨⟨_, (by repeat (first | exact up_s | assumption | refine up_n (by omega) ?_))⟩, adl (by omega), rfl, ?_⟩
  refine C_fault C (fun h1 F1 C1 => ?_)
  show Z h1 1022 _ _
  have M1 := M.fr F1 (by omega)
  obtain ⟨f1, m1⟩ := M1.obj
  iterate 1 (first | refine hZ _ _ _ _ ⟨rfl, ?_⟩ | refine hZ _ _ _ _ ⟨_, _, (by repeat (first | exact up_s | assumption | refine up_n (by omega) ?_)), adl (by omega), (by rfl), ?_⟩ | refine hZ _ _ _ _ ⟨_, _, (by repeat (first | exact up_s | assumption | refine up_n (by omega) ?_)), adl (by omega), (by first | assumption | exact vp_in_nI (by omega) (by omega)), ?_⟩ | refine hZ _ _ _ _ ⟨_, (by repeat (first | exact up_s | assumption | refine up_n (by omega) ?_)), adl (by omega), (by rfl), trivial, ?_⟩ | refine hZ _ _ _ _ ⟨trivial, ?_⟩ | refine hZ _ _ _ _ ⟨_, _, _, _, (by repeat (first | exact up_s | assumption | refine up_n (by omega) ?_)), (by first | exact Or.inr (Or.inr rfl) | exact Or.inr (Or.inl rfl) | exact Or.inl rfl), adl (by omega), (by first | assumption | exact vp_in_nI (by omega) (by omega)), (by first | exact rowsF_at (by omega) | exact shF_at (by omega)), ?_⟩ | refine hZ _ _ _ _ ?_)
  show Z _ 1023 _ _
  refine hZ _ _ _ _ ⟨⟨_, (by repeat (first | exact up_s | assumption | refine up_n (by omega) ?_))⟩, adl (by omega), rfl, ?_⟩
  refine M_fault M1 (fun h2 F2 M2 => ?_)
  show Z h2 1026 _ _
  have C2 := C1.fr F2
  refine hZ _ _ _ _ ⟨fun _ => ?_, fun c9 => absurd rfl c9⟩
  exact kk h2 s C2 M2 (Kp.rf O)
set_option maxHeartbeats 2000000 in
theorem bL28 {l : Launch} {L i : Nat} {xs : Nat → Int32} {Z : AH → Nat → List (Option Value) → List Value → Prop} (hZ : ∀ h pc ls st, FsL l rL28 L xs Z h pc ls st → Z h pc ls st) {h : AH} {s : St} (C : CY h s) (M : MY h s) (O : Ok s) (hb : gr s ≤ 58000) (hi : i + 6 ≤ L) (hL : L ≤ 3072) (kk : ∀ h' s', CY h' s' → MY h' s' → Kp s s' → Z h' 1054 [some (.ref 82), some (.ref 0), some (.ref 61), some (.int (nI i))] []) : Z h 1031 [some (.ref 82), some (.ref 0), some (.ref 61), some (.int (nI i))] [] := by
  obtain ⟨f0, m0⟩ := C.obj
  iterate 5 (first | refine hZ _ _ _ _ ⟨rfl, ?_⟩ | refine hZ _ _ _ _ ⟨_, _, (by repeat (first | exact up_s | assumption | refine up_n (by omega) ?_)), adl (by omega), (by rfl), ?_⟩ | refine hZ _ _ _ _ ⟨_, _, (by repeat (first | exact up_s | assumption | refine up_n (by omega) ?_)), adl (by omega), (by first | assumption | exact vp_in_nI (by omega) (by omega)), ?_⟩ | refine hZ _ _ _ _ ⟨_, (by repeat (first | exact up_s | assumption | refine up_n (by omega) ?_)), adl (by omega), (by rfl), trivial, ?_⟩ | refine hZ _ _ _ _ ⟨trivial, ?_⟩ | refine hZ _ _ _ _ ⟨_, _, _, _, (by repeat (first | exact up_s | assumption | refine up_n (by omega) ?_)), (by first | exact Or.inr (Or.inr rfl) | exact Or.inr (Or.inl rfl) | exact Or.inl rfl), adl (by omega), (by first | assumption | exact vp_in_nI (by omega) (by omega)), (by first | exact rowsF_at (by omega) | exact shF_at (by omega)), ?_⟩ | refine hZ _ _ _ _ ?_)
  show Z _ 1036 _ _
  rw [lit_1, nI_add]
  refine hZ _ _ _ _ ⟨rfl, vp_in_nI (by omega) (by omega), ?_⟩
  rw [nI_clamp (by omega)]
  show Z _ 1037 _ _
  refine hZ _ _ _ _ ⟨⟨_, (by repeat (first | exact up_s | assumption | refine up_n (by omega) ?_))⟩, adl (by omega), rfl, ?_⟩
  refine C_many C O (fun h1 F1 C1 => ?_)
  show Z h1 1040 _ _
  have M1 := M.fr F1 (by omega)
  obtain ⟨f1, m1⟩ := M1.obj
  iterate 5 (first | refine hZ _ _ _ _ ⟨rfl, ?_⟩ | refine hZ _ _ _ _ ⟨_, _, (by repeat (first | exact up_s | assumption | refine up_n (by omega) ?_)), adl (by omega), (by rfl), ?_⟩ | refine hZ _ _ _ _ ⟨_, _, (by repeat (first | exact up_s | assumption | refine up_n (by omega) ?_)), adl (by omega), (by first | assumption | exact vp_in_nI (by omega) (by omega)), ?_⟩ | refine hZ _ _ _ _ ⟨_, (by repeat (first | exact up_s | assumption | refine up_n (by omega) ?_)), adl (by omega), (by rfl), trivial, ?_⟩ | refine hZ _ _ _ _ ⟨trivial, ?_⟩ | refine hZ _ _ _ _ ⟨_, _, _, _, (by repeat (first | exact up_s | assumption | refine up_n (by omega) ?_)), (by first | exact Or.inr (Or.inr rfl) | exact Or.inr (Or.inl rfl) | exact Or.inl rfl), adl (by omega), (by first | assumption | exact vp_in_nI (by omega) (by omega)), (by first | exact rowsF_at (by omega) | exact shF_at (by omega)), ?_⟩ | refine hZ _ _ _ _ ?_)
  show Z _ 1045 _ _
  rw [lit_1, nI_add]
  refine hZ _ _ _ _ ⟨rfl, vp_in_nI (by omega) (by omega), ?_⟩
  rw [nI_clamp (by omega)]
  show Z _ 1046 _ _
  refine hZ _ _ _ _ ⟨⟨_, (by repeat (first | exact up_s | assumption | refine up_n (by omega) ?_))⟩, adl (by omega), rfl, ?_⟩
  refine M_many M1 O (fun h2 F2 M2 => ?_)
  show Z h2 1049 _ _
  have C2 := C1.fr F2
  refine hZ _ _ _ _ ⟨fun _ => ?_, fun c9 => absurd rfl c9⟩
  exact kk h2 s C2 M2 (Kp.rf O)
theorem tsw_of {K : Nat → Prop} {x : Int} {d : Nat} : ∀ {ts : List Nat} {lo : Int}, (∀ t ∈ ts, K t) → K d → tsw K x lo ts d
  | [], _, _, hd => hd
  | t :: ts, lo, h, hd => ⟨fun _ => h t List.mem_cons_self, fun _ => tsw_of (fun t ht => h t (List.mem_cons_of_mem _ ht)) hd⟩
set_option maxHeartbeats 4000000 in
theorem lawloop {l : Launch} {L : Nat} {xs : Nat → Int32} {Z : AH → Nat → List (Option Value) → List Value → Prop} (hL : L ≤ 3072) (hR : ∀ R ∈ rLs, ∀ h pc ls st, FsL l R L xs Z h pc ls st → Z h pc ls st) : ∀ e i h s, L + 6 ≤ i + e → i ≤ L + 6 → CY h s → MY h s → Ok s → 6 * gr s ≤ 99 * i → Z h 18 [some (.ref 82), some (.ref 0), some (.ref 61), some (.int (nI i))] [] := by
  intro e
  induction e with
  | zero =>
    intro i h s he hi C M O hg
    have hZ := hR _ (List.mem_cons_self)
    iterate 2 (first | refine hZ _ _ _ _ ⟨rfl, ?_⟩ | refine hZ _ _ _ _ ⟨_, _, (by repeat (first | exact up_s | assumption | refine up_n (by omega) ?_)), adl (by omega), (by rfl), ?_⟩ | refine hZ _ _ _ _ ⟨_, _, (by repeat (first | exact up_s | assumption | refine up_n (by omega) ?_)), adl (by omega), (by first | assumption | exact vp_in_nI (by omega) (by omega)), ?_⟩ | refine hZ _ _ _ _ ⟨_, (by repeat (first | exact up_s | assumption | refine up_n (by omega) ?_)), adl (by omega), (by rfl), trivial, ?_⟩ | refine hZ _ _ _ _ ⟨trivial, ?_⟩ | refine hZ _ _ _ _ ⟨_, _, _, _, (by repeat (first | exact up_s | assumption | refine up_n (by omega) ?_)), (by first | exact Or.inr (Or.inr rfl) | exact Or.inr (Or.inl rfl) | exact Or.inl rfl), adl (by omega), (by first | assumption | exact vp_in_nI (by omega) (by omega)), (by first | exact rowsF_at (by omega) | exact shF_at (by omega)), ?_⟩ | refine hZ _ _ _ _ ?_)
    show Z _ 20 _ _
    refine hZ _ _ _ _ ⟨rfl, ?_⟩
    show Z _ 21 _ [.int (nI L), .int (nI i)]
    repeat (first | refine hZ _ _ _ _ ⟨rfl, ?_⟩ | refine hZ _ _ _ _ ⟨_, _, (by repeat (first | exact up_s | assumption | refine up_n (by omega) ?_)), adl (by omega), (by rfl), ?_⟩ | refine hZ _ _ _ _ ⟨_, _, (by repeat (first | exact up_s | assumption | refine up_n (by omega) ?_)), adl (by omega), (by first | assumption | exact vp_in_nI (by omega) (by omega)), ?_⟩ | refine hZ _ _ _ _ ⟨_, (by repeat (first | exact up_s | assumption | refine up_n (by omega) ?_)), adl (by omega), (by rfl), trivial, ?_⟩ | refine hZ _ _ _ _ ⟨trivial, ?_⟩ | refine hZ _ _ _ _ ⟨_, _, _, _, (by repeat (first | exact up_s | assumption | refine up_n (by omega) ?_)), (by first | exact Or.inr (Or.inr rfl) | exact Or.inr (Or.inl rfl) | exact Or.inl rfl), adl (by omega), (by first | assumption | exact vp_in_nI (by omega) (by omega)), (by first | exact rowsF_at (by omega) | exact shF_at (by omega)), ?_⟩ | refine hZ _ _ _ _ ?_)
    rw [show (Int8.ofInt 6).toInt32 = nI 6 by decide]
    refine ⟨fun c9 => ?_, fun c9 => absurd (Int32.lt_iff_toInt_lt.mpr (by rw [nI_dif (by omega) (by omega), nI_toInt (by omega)]; omega)) c9⟩
    have hZ := hR _ (List.mem_cons_of_mem _ (List.mem_cons_self))
    iterate 1 (first | refine hZ _ _ _ _ ⟨rfl, ?_⟩ | refine hZ _ _ _ _ ⟨_, _, (by repeat (first | exact up_s | assumption | refine up_n (by omega) ?_)), adl (by omega), (by rfl), ?_⟩ | refine hZ _ _ _ _ ⟨_, _, (by repeat (first | exact up_s | assumption | refine up_n (by omega) ?_)), adl (by omega), (by first | assumption | exact vp_in_nI (by omega) (by omega)), ?_⟩ | refine hZ _ _ _ _ ⟨_, (by repeat (first | exact up_s | assumption | refine up_n (by omega) ?_)), adl (by omega), (by rfl), trivial, ?_⟩ | refine hZ _ _ _ _ ⟨trivial, ?_⟩ | refine hZ _ _ _ _ ⟨_, _, _, _, (by repeat (first | exact up_s | assumption | refine up_n (by omega) ?_)), (by first | exact Or.inr (Or.inr rfl) | exact Or.inr (Or.inl rfl) | exact Or.inl rfl), adl (by omega), (by first | assumption | exact vp_in_nI (by omega) (by omega)), (by first | exact rowsF_at (by omega) | exact shF_at (by omega)), ?_⟩ | refine hZ _ _ _ _ ?_)
    show Z _ 1061 _ _
    exact hZ _ _ _ _ rfl
  | succ e ih =>
    intro i h s he hi C M O hg
    have hZ := hR _ (List.mem_cons_self)
    iterate 2 (first | refine hZ _ _ _ _ ⟨rfl, ?_⟩ | refine hZ _ _ _ _ ⟨_, _, (by repeat (first | exact up_s | assumption | refine up_n (by omega) ?_)), adl (by omega), (by rfl), ?_⟩ | refine hZ _ _ _ _ ⟨_, _, (by repeat (first | exact up_s | assumption | refine up_n (by omega) ?_)), adl (by omega), (by first | assumption | exact vp_in_nI (by omega) (by omega)), ?_⟩ | refine hZ _ _ _ _ ⟨_, (by repeat (first | exact up_s | assumption | refine up_n (by omega) ?_)), adl (by omega), (by rfl), trivial, ?_⟩ | refine hZ _ _ _ _ ⟨trivial, ?_⟩ | refine hZ _ _ _ _ ⟨_, _, _, _, (by repeat (first | exact up_s | assumption | refine up_n (by omega) ?_)), (by first | exact Or.inr (Or.inr rfl) | exact Or.inr (Or.inl rfl) | exact Or.inl rfl), adl (by omega), (by first | assumption | exact vp_in_nI (by omega) (by omega)), (by first | exact rowsF_at (by omega) | exact shF_at (by omega)), ?_⟩ | refine hZ _ _ _ _ ?_)
    show Z _ 20 _ _
    refine hZ _ _ _ _ ⟨rfl, ?_⟩
    show Z _ 21 _ [.int (nI L), .int (nI i)]
    repeat (first | refine hZ _ _ _ _ ⟨rfl, ?_⟩ | refine hZ _ _ _ _ ⟨_, _, (by repeat (first | exact up_s | assumption | refine up_n (by omega) ?_)), adl (by omega), (by rfl), ?_⟩ | refine hZ _ _ _ _ ⟨_, _, (by repeat (first | exact up_s | assumption | refine up_n (by omega) ?_)), adl (by omega), (by first | assumption | exact vp_in_nI (by omega) (by omega)), ?_⟩ | refine hZ _ _ _ _ ⟨_, (by repeat (first | exact up_s | assumption | refine up_n (by omega) ?_)), adl (by omega), (by rfl), trivial, ?_⟩ | refine hZ _ _ _ _ ⟨trivial, ?_⟩ | refine hZ _ _ _ _ ⟨_, _, _, _, (by repeat (first | exact up_s | assumption | refine up_n (by omega) ?_)), (by first | exact Or.inr (Or.inr rfl) | exact Or.inr (Or.inl rfl) | exact Or.inl rfl), adl (by omega), (by first | assumption | exact vp_in_nI (by omega) (by omega)), (by first | exact rowsF_at (by omega) | exact shF_at (by omega)), ?_⟩ | refine hZ _ _ _ _ ?_)
    rw [show (Int8.ofInt 6).toInt32 = nI 6 by decide]
    refine ⟨fun c9 => ?_, fun c9 => ?_⟩
    · have hZ := hR _ (List.mem_cons_of_mem _ (List.mem_cons_self))
      iterate 1 (first | refine hZ _ _ _ _ ⟨rfl, ?_⟩ | refine hZ _ _ _ _ ⟨_, _, (by repeat (first | exact up_s | assumption | refine up_n (by omega) ?_)), adl (by omega), (by rfl), ?_⟩ | refine hZ _ _ _ _ ⟨_, _, (by repeat (first | exact up_s | assumption | refine up_n (by omega) ?_)), adl (by omega), (by first | assumption | exact vp_in_nI (by omega) (by omega)), ?_⟩ | refine hZ _ _ _ _ ⟨_, (by repeat (first | exact up_s | assumption | refine up_n (by omega) ?_)), adl (by omega), (by rfl), trivial, ?_⟩ | refine hZ _ _ _ _ ⟨trivial, ?_⟩ | refine hZ _ _ _ _ ⟨_, _, _, _, (by repeat (first | exact up_s | assumption | refine up_n (by omega) ?_)), (by first | exact Or.inr (Or.inr rfl) | exact Or.inr (Or.inl rfl) | exact Or.inl rfl), adl (by omega), (by first | assumption | exact vp_in_nI (by omega) (by omega)), (by first | exact rowsF_at (by omega) | exact shF_at (by omega)), ?_⟩ | refine hZ _ _ _ _ ?_)
      show Z _ 1061 _ _
      exact hZ _ _ _ _ rfl
    · have hi6 : i + 6 ≤ L := by
        have : ¬ (L : Int) - ((6 : Nat) : Int) < (i : Int) := fun q => c9 (Int32.lt_iff_toInt_lt.mpr (by rw [nI_dif (by omega) (by omega), nI_toInt (by omega)]; exact q))
        omega
      have hb : gr s ≤ 58000 := by omega
      have kk : ∀ h' s', CY h' s' → MY h' s' → Kp s s' → Z h' 1054 [some (.ref 82), some (.ref 0), some (.ref 61), some (.int (nI i))] [] := by
        intro h' s' C' M' K'
        have hZ := hR _ (List.mem_cons_of_mem _ (List.mem_cons_self))
        refine hZ _ _ _ _ ?_
        show Z _ 1057 _ _
        refine hZ _ _ _ _ ?_
        show Z h' 18 [some (.ref 82), some (.ref 0), some (.ref 61), some (.int (nI i + Int32.ofInt 6))] []
        rw [show nI i + Int32.ofInt 6 = nI (i + 6) by rw [show Int32.ofInt 6 = nI 6 by decide, nI_add]]
        have := K'.2
        exact ih (i + 6) h' s' (by omega) (by omega) C' M' K'.1 (by omega)
      iterate 2 (first | refine hZ _ _ _ _ ⟨rfl, ?_⟩ | refine hZ _ _ _ _ ⟨_, _, (by repeat (first | exact up_s | assumption | refine up_n (by omega) ?_)), adl (by omega), (by rfl), ?_⟩ | refine hZ _ _ _ _ ⟨_, _, (by repeat (first | exact up_s | assumption | refine up_n (by omega) ?_)), adl (by omega), (by first | assumption | exact vp_in_nI (by omega) (by omega)), ?_⟩ | refine hZ _ _ _ _ ⟨_, (by repeat (first | exact up_s | assumption | refine up_n (by omega) ?_)), adl (by omega), (by rfl), trivial, ?_⟩ | refine hZ _ _ _ _ ⟨trivial, ?_⟩ | refine hZ _ _ _ _ ⟨_, _, _, _, (by repeat (first | exact up_s | assumption | refine up_n (by omega) ?_)), (by first | exact Or.inr (Or.inr rfl) | exact Or.inr (Or.inl rfl) | exact Or.inl rfl), adl (by omega), (by first | assumption | exact vp_in_nI (by omega) (by omega)), (by first | exact rowsF_at (by omega) | exact shF_at (by omega)), ?_⟩ | refine hZ _ _ _ _ ?_)
      show Z _ 29 _ _
      refine hZ _ _ _ _ ⟨rfl, vp_in_nI (by omega) (by omega), ?_⟩
      show Z _ 30 _ _
      iterate 2 (first | refine hZ _ _ _ _ ⟨rfl, ?_⟩ | refine hZ _ _ _ _ ⟨_, _, (by repeat (first | exact up_s | assumption | refine up_n (by omega) ?_)), adl (by omega), (by rfl), ?_⟩ | refine hZ _ _ _ _ ⟨_, _, (by repeat (first | exact up_s | assumption | refine up_n (by omega) ?_)), adl (by omega), (by first | assumption | exact vp_in_nI (by omega) (by omega)), ?_⟩ | refine hZ _ _ _ _ ⟨_, (by repeat (first | exact up_s | assumption | refine up_n (by omega) ?_)), adl (by omega), (by rfl), trivial, ?_⟩ | refine hZ _ _ _ _ ⟨trivial, ?_⟩ | refine hZ _ _ _ _ ⟨_, _, _, _, (by repeat (first | exact up_s | assumption | refine up_n (by omega) ?_)), (by first | exact Or.inr (Or.inr rfl) | exact Or.inr (Or.inl rfl) | exact Or.inl rfl), adl (by omega), (by first | assumption | exact vp_in_nI (by omega) (by omega)), (by first | exact rowsF_at (by omega) | exact shF_at (by omega)), ?_⟩ | refine hZ _ _ _ _ ?_)
      show Z _ 33 _ _
      refine hZ _ _ _ _ (tsw_of ?_ (kk h s C M (Kp.rf O)))
      exact List.forall_mem_cons.mpr ⟨bL0 (hR _ (List.mem_cons_of_mem _ (List.mem_cons_of_mem _ (List.mem_cons_self)))) C M O hb hi6 hL kk, List.forall_mem_cons.mpr ⟨bL1 (hR _ (List.mem_cons_of_mem _ (List.mem_cons_of_mem _ (List.mem_cons_of_mem _ (List.mem_cons_self))))) C M O hb hi6 hL kk, List.forall_mem_cons.mpr ⟨bL2 (hR _ (List.mem_cons_of_mem _ (List.mem_cons_of_mem _ (List.mem_cons_of_mem _ (List.mem_cons_of_mem _ (List.mem_cons_self)))))) C M O hb hi6 hL kk, List.forall_mem_cons.mpr ⟨bL3 (hR _ (List.mem_cons_of_mem _ (List.mem_cons_of_mem _ (List.mem_cons_of_mem _ (List.mem_cons_of_mem _ (List.mem_cons_of_mem _ (List.mem_cons_self))))))) C M O hb hi6 hL kk, List.forall_mem_cons.mpr ⟨bL4 (hR _ (List.mem_cons_of_mem _ (List.mem_cons_of_mem _ (List.mem_cons_of_mem _ (List.mem_cons_of_mem _ (List.mem_cons_of_mem _ (List.mem_cons_of_mem _ (List.mem_cons_self)))))))) C M O hb hi6 hL kk, List.forall_mem_cons.mpr ⟨bL5 (hR _ (List.mem_cons_of_mem _ (List.mem_cons_of_mem _ (List.mem_cons_of_mem _ (List.mem_cons_of_mem _ (List.mem_cons_of_mem _ (List.mem_cons_of_mem _ (List.mem_cons_of_mem _ (List.mem_cons_self))))))))) C M O hb hi6 hL kk, List.forall_mem_cons.mpr ⟨bL6 (hR _ (List.mem_cons_of_mem _ (List.mem_cons_of_mem _ (List.mem_cons_of_mem _ (List.mem_cons_of_mem _ (List.mem_cons_of_mem _ (List.mem_cons_of_mem _ (List.mem_cons_of_mem _ (List.mem_cons_of_mem _ (List.mem_cons_self)))))))))) C M O hb hi6 hL kk, List.forall_mem_cons.mpr ⟨bL7 (hR _ (List.mem_cons_of_mem _ (List.mem_cons_of_mem _ (List.mem_cons_of_mem _ (List.mem_cons_of_mem _ (List.mem_cons_of_mem _ (List.mem_cons_of_mem _ (List.mem_cons_of_mem _ (List.mem_cons_of_mem _ (List.mem_cons_of_mem _ (List.mem_cons_self))))))))))) C M O hb hi6 hL kk, List.forall_mem_cons.mpr ⟨bL8 (hR _ (List.mem_cons_of_mem _ (List.mem_cons_of_mem _ (List.mem_cons_of_mem _ (List.mem_cons_of_mem _ (List.mem_cons_of_mem _ (List.mem_cons_of_mem _ (List.mem_cons_of_mem _ (List.mem_cons_of_mem _ (List.mem_cons_of_mem _ (List.mem_cons_of_mem _ (List.mem_cons_self)))))))))))) C M O hb hi6 hL kk, List.forall_mem_cons.mpr ⟨bL9 (hR _ (List.mem_cons_of_mem _ (List.mem_cons_of_mem _ (List.mem_cons_of_mem _ (List.mem_cons_of_mem _ (List.mem_cons_of_mem _ (List.mem_cons_of_mem _ (List.mem_cons_of_mem _ (List.mem_cons_of_mem _ (List.mem_cons_of_mem _ (List.mem_cons_of_mem _ (List.mem_cons_of_mem _ (List.mem_cons_self))))))))))))) C M O hb hi6 hL kk, List.forall_mem_cons.mpr ⟨bL10 (hR _ (List.mem_cons_of_mem _ (List.mem_cons_of_mem _ (List.mem_cons_of_mem _ (List.mem_cons_of_mem _ (List.mem_cons_of_mem _ (List.mem_cons_of_mem _ (List.mem_cons_of_mem _ (List.mem_cons_of_mem _ (List.mem_cons_of_mem _ (List.mem_cons_of_mem _ (List.mem_cons_of_mem _ (List.mem_cons_of_mem _ (List.mem_cons_self)))))))))))))) C M O hb hi6 hL kk, List.forall_mem_cons.mpr ⟨bL11 (hR _ (List.mem_cons_of_mem _ (List.mem_cons_of_mem _ (List.mem_cons_of_mem _ (List.mem_cons_of_mem _ (List.mem_cons_of_mem _ (List.mem_cons_of_mem _ (List.mem_cons_of_mem _ (List.mem_cons_of_mem _ (List.mem_cons_of_mem _ (List.mem_cons_of_mem _ (List.mem_cons_of_mem _ (List.mem_cons_of_mem _ (List.mem_cons_of_mem _ (List.mem_cons_self))))))))))))))) C M O hb hi6 hL kk, List.forall_mem_cons.mpr ⟨bL12 (hR _ (List.mem_cons_of_mem _ (List.mem_cons_of_mem _ (List.mem_cons_of_mem _ (List.mem_cons_of_mem _ (List.mem_cons_of_mem _ (List.mem_cons_of_mem _ (List.mem_cons_of_mem _ (List.mem_cons_of_mem _ (List.mem_cons_of_mem _ (List.mem_cons_of_mem _ (List.mem_cons_of_mem _ (List.mem_cons_of_mem _ (List.mem_cons_of_mem _ (List.mem_cons_of_mem _ (List.mem_cons_self)))))))))))))))) C M O hb hi6 hL kk, List.forall_mem_cons.mpr ⟨bL13 (hR _ (List.mem_cons_of_mem _ (List.mem_cons_of_mem _ (List.mem_cons_of_mem _ (List.mem_cons_of_mem _ (List.mem_cons_of_mem _ (List.mem_cons_of_mem _ (List.mem_cons_of_mem _ (List.mem_cons_of_mem _ (List.mem_cons_of_mem _ (List.mem_cons_of_mem _ (List.mem_cons_of_mem _ (List.mem_cons_of_mem _ (List.mem_cons_of_mem _ (List.mem_cons_of_mem _ (List.mem_cons_of_mem _ (List.mem_cons_self))))))))))))))))) C M O hb hi6 hL kk, List.forall_mem_cons.mpr ⟨bL14 (hR _ (List.mem_cons_of_mem _ (List.mem_cons_of_mem _ (List.mem_cons_of_mem _ (List.mem_cons_of_mem _ (List.mem_cons_of_mem _ (List.mem_cons_of_mem _ (List.mem_cons_of_mem _ (List.mem_cons_of_mem _ (List.mem_cons_of_mem _ (List.mem_cons_of_mem _ (List.mem_cons_of_mem _ (List.mem_cons_of_mem _ (List.mem_cons_of_mem _ (List.mem_cons_of_mem _ (List.mem_cons_of_mem _ (List.mem_cons_of_mem _ (List.mem_cons_self)))))))))))))))))) C M O hb hi6 hL kk, List.forall_mem_cons.mpr ⟨bL15 (hR _ (List.mem_cons_of_mem _ (List.mem_cons_of_mem _ (List.mem_cons_of_mem _ (List.mem_cons_of_mem _ (List.mem_cons_of_mem _ (List.mem_cons_of_mem _ (List.mem_cons_of_mem _ (List.mem_cons_of_mem _ (List.mem_cons_of_mem _ (List.mem_cons_of_mem _ (List.mem_cons_of_mem _ (List.mem_cons_of_mem _ (List.mem_cons_of_mem _ (List.mem_cons_of_mem _ (List.mem_cons_of_mem _ (List.mem_cons_of_mem _ (List.mem_cons_of_mem _ (List.mem_cons_self))))))))))))))))))) C M O hb hi6 hL kk, List.forall_mem_cons.mpr ⟨bL16 (hR _ (List.mem_cons_of_mem _ (List.mem_cons_of_mem _ (List.mem_cons_of_mem _ (List.mem_cons_of_mem _ (List.mem_cons_of_mem _ (List.mem_cons_of_mem _ (List.mem_cons_of_mem _ (List.mem_cons_of_mem _ (List.mem_cons_of_mem _ (List.mem_cons_of_mem _ (List.mem_cons_of_mem _ (List.mem_cons_of_mem _ (List.mem_cons_of_mem _ (List.mem_cons_of_mem _ (List.mem_cons_of_mem _ (List.mem_cons_of_mem _ (List.mem_cons_of_mem _ (List.mem_cons_of_mem _ (List.mem_cons_self)))))))))))))))))))) C M O hb hi6 hL kk, List.forall_mem_cons.mpr ⟨bL17 (hR _ (List.mem_cons_of_mem _ (List.mem_cons_of_mem _ (List.mem_cons_of_mem _ (List.mem_cons_of_mem _ (List.mem_cons_of_mem _ (List.mem_cons_of_mem _ (List.mem_cons_of_mem _ (List.mem_cons_of_mem _ (List.mem_cons_of_mem _ (List.mem_cons_of_mem _ (List.mem_cons_of_mem _ (List.mem_cons_of_mem _ (List.mem_cons_of_mem _ (List.mem_cons_of_mem _ (List.mem_cons_of_mem _ (List.mem_cons_of_mem _ (List.mem_cons_of_mem _ (List.mem_cons_of_mem _ (List.mem_cons_of_mem _ (List.mem_cons_self))))))))))))))))))))) C M O hb hi6 hL kk, List.forall_mem_cons.mpr ⟨bL18 (hR _ (List.mem_cons_of_mem _ (List.mem_cons_of_mem _ (List.mem_cons_of_mem _ (List.mem_cons_of_mem _ (List.mem_cons_of_mem _ (List.mem_cons_of_mem _ (List.mem_cons_of_mem _ (List.mem_cons_of_mem _ (List.mem_cons_of_mem _ (List.mem_cons_of_mem _ (List.mem_cons_of_mem _ (List.mem_cons_of_mem _ (List.mem_cons_of_mem _ (List.mem_cons_of_mem _ (List.mem_cons_of_mem _ (List.mem_cons_of_mem _ (List.mem_cons_of_mem _ (List.mem_cons_of_mem _ (List.mem_cons_of_mem _ (List.mem_cons_of_mem _ (List.mem_cons_self)))))))))))))))))))))) C M O hb hi6 hL kk, List.forall_mem_cons.mpr ⟨bL19 (hR _ (List.mem_cons_of_mem _ (List.mem_cons_of_mem _ (List.mem_cons_of_mem _ (List.mem_cons_of_mem _ (List.mem_cons_of_mem _ (List.mem_cons_of_mem _ (List.mem_cons_of_mem _ (List.mem_cons_of_mem _ (List.mem_cons_of_mem _ (List.mem_cons_of_mem _ (List.mem_cons_of_mem _ (List.mem_cons_of_mem _ (List.mem_cons_of_mem _ (List.mem_cons_of_mem _ (List.mem_cons_of_mem _ (List.mem_cons_of_mem _ (List.mem_cons_of_mem _ (List.mem_cons_of_mem _ (List.mem_cons_of_mem _ (List.mem_cons_of_mem _ (List.mem_cons_of_mem _ (List.mem_cons_self))))))))))))))))))))))) C M O hb hi6 hL kk, List.forall_mem_cons.mpr ⟨bL20 (hR _ (List.mem_cons_of_mem _ (List.mem_cons_of_mem _ (List.mem_cons_of_mem _ (List.mem_cons_of_mem _ (List.mem_cons_of_mem _ (List.mem_cons_of_mem _ (List.mem_cons_of_mem _ (List.mem_cons_of_mem _ (List.mem_cons_of_mem _ (List.mem_cons_of_mem _ (List.mem_cons_of_mem _ (List.mem_cons_of_mem _ (List.mem_cons_of_mem _ (List.mem_cons_of_mem _ (List.mem_cons_of_mem _ (List.mem_cons_of_mem _ (List.mem_cons_of_mem _ (List.mem_cons_of_mem _ (List.mem_cons_of_mem _ (List.mem_cons_of_mem _ (List.mem_cons_of_mem _ (List.mem_cons_of_mem _ (List.mem_cons_self)))))))))))))))))))))))) C M O hb hi6 hL kk, List.forall_mem_cons.mpr ⟨bL21 (hR _ (List.mem_cons_of_mem _ (List.mem_cons_of_mem _ (List.mem_cons_of_mem _ (List.mem_cons_of_mem _ (List.mem_cons_of_mem _ (List.mem_cons_of_mem _ (List.mem_cons_of_mem _ (List.mem_cons_of_mem _ (List.mem_cons_of_mem _ (List.mem_cons_of_mem _ (List.mem_cons_of_mem _ (List.mem_cons_of_mem _ (List.mem_cons_of_mem _ (List.mem_cons_of_mem _ (List.mem_cons_of_mem _ (List.mem_cons_of_mem _ (List.mem_cons_of_mem _ (List.mem_cons_of_mem _ (List.mem_cons_of_mem _ (List.mem_cons_of_mem _ (List.mem_cons_of_mem _ (List.mem_cons_of_mem _ (List.mem_cons_of_mem _ (List.mem_cons_self))))))))))))))))))))))))) C M O hb hi6 hL kk, List.forall_mem_cons.mpr ⟨bL22 (hR _ (List.mem_cons_of_mem _ (List.mem_cons_of_mem _ (List.mem_cons_of_mem _ (List.mem_cons_of_mem _ (List.mem_cons_of_mem _ (List.mem_cons_of_mem _ (List.mem_cons_of_mem _ (List.mem_cons_of_mem _ (List.mem_cons_of_mem _ (List.mem_cons_of_mem _ (List.mem_cons_of_mem _ (List.mem_cons_of_mem _ (List.mem_cons_of_mem _ (List.mem_cons_of_mem _ (List.mem_cons_of_mem _ (List.mem_cons_of_mem _ (List.mem_cons_of_mem _ (List.mem_cons_of_mem _ (List.mem_cons_of_mem _ (List.mem_cons_of_mem _ (List.mem_cons_of_mem _ (List.mem_cons_of_mem _ (List.mem_cons_of_mem _ (List.mem_cons_of_mem _ (List.mem_cons_self)))))))))))))))))))))))))) C M O hb hi6 hL kk, List.forall_mem_cons.mpr ⟨bL23 (hR _ (List.mem_cons_of_mem _ (List.mem_cons_of_mem _ (List.mem_cons_of_mem _ (List.mem_cons_of_mem _ (List.mem_cons_of_mem _ (List.mem_cons_of_mem _ (List.mem_cons_of_mem _ (List.mem_cons_of_mem _ (List.mem_cons_of_mem _ (List.mem_cons_of_mem _ (List.mem_cons_of_mem _ (List.mem_cons_of_mem _ (List.mem_cons_of_mem _ (List.mem_cons_of_mem _ (List.mem_cons_of_mem _ (List.mem_cons_of_mem _ (List.mem_cons_of_mem _ (List.mem_cons_of_mem _ (List.mem_cons_of_mem _ (List.mem_cons_of_mem _ (List.mem_cons_of_mem _ (List.mem_cons_of_mem _ (List.mem_cons_of_mem _ (List.mem_cons_of_mem _ (List.mem_cons_of_mem _ (List.mem_cons_self))))))))))))))))))))))))))) C M O hb hi6 hL kk, List.forall_mem_cons.mpr ⟨bL24 (hR _ (List.mem_cons_of_mem _ (List.mem_cons_of_mem _ (List.mem_cons_of_mem _ (List.mem_cons_of_mem _ (List.mem_cons_of_mem _ (List.mem_cons_of_mem _ (List.mem_cons_of_mem _ (List.mem_cons_of_mem _ (List.mem_cons_of_mem _ (List.mem_cons_of_mem _ (List.mem_cons_of_mem _ (List.mem_cons_of_mem _ (List.mem_cons_of_mem _ (List.mem_cons_of_mem _ (List.mem_cons_of_mem _ (List.mem_cons_of_mem _ (List.mem_cons_of_mem _ (List.mem_cons_of_mem _ (List.mem_cons_of_mem _ (List.mem_cons_of_mem _ (List.mem_cons_of_mem _ (List.mem_cons_of_mem _ (List.mem_cons_of_mem _ (List.mem_cons_of_mem _ (List.mem_cons_of_mem _ (List.mem_cons_of_mem _ (List.mem_cons_self)))))))))))))))))))))))))))) C M O hb hi6 hL kk, List.forall_mem_cons.mpr ⟨bL25 (hR _ (List.mem_cons_of_mem _ (List.mem_cons_of_mem _ (List.mem_cons_of_mem _ (List.mem_cons_of_mem _ (List.mem_cons_of_mem _ (List.mem_cons_of_mem _ (List.mem_cons_of_mem _ (List.mem_cons_of_mem _ (List.mem_cons_of_mem _ (List.mem_cons_of_mem _ (List.mem_cons_of_mem _ (List.mem_cons_of_mem _ (List.mem_cons_of_mem _ (List.mem_cons_of_mem _ (List.mem_cons_of_mem _ (List.mem_cons_of_mem _ (List.mem_cons_of_mem _ (List.mem_cons_of_mem _ (List.mem_cons_of_mem _ (List.mem_cons_of_mem _ (List.mem_cons_of_mem _ (List.mem_cons_of_mem _ (List.mem_cons_of_mem _ (List.mem_cons_of_mem _ (List.mem_cons_of_mem _ (List.mem_cons_of_mem _ (List.mem_cons_of_mem _ (List.mem_cons_self))))))))))))))))))))))))))))) C M O hb hi6 hL kk, List.forall_mem_cons.mpr ⟨bL26 (hR _ (List.mem_cons_of_mem _ (List.mem_cons_of_mem _ (List.mem_cons_of_mem _ (List.mem_cons_of_mem _ (List.mem_cons_of_mem _ (List.mem_cons_of_mem _ (List.mem_cons_of_mem _ (List.mem_cons_of_mem _ (List.mem_cons_of_mem _ (List.mem_cons_of_mem _ (List.mem_cons_of_mem _ (List.mem_cons_of_mem _ (List.mem_cons_of_mem _ (List.mem_cons_of_mem _ (List.mem_cons_of_mem _ (List.mem_cons_of_mem _ (List.mem_cons_of_mem _ (List.mem_cons_of_mem _ (List.mem_cons_of_mem _ (List.mem_cons_of_mem _ (List.mem_cons_of_mem _ (List.mem_cons_of_mem _ (List.mem_cons_of_mem _ (List.mem_cons_of_mem _ (List.mem_cons_of_mem _ (List.mem_cons_of_mem _ (List.mem_cons_of_mem _ (List.mem_cons_of_mem _ (List.mem_cons_self)))))))))))))))))))))))))))))) C M O hb hi6 hL kk, List.forall_mem_cons.mpr ⟨bL27 (hR _ (List.mem_cons_of_mem _ (List.mem_cons_of_mem _ (List.mem_cons_of_mem _ (List.mem_cons_of_mem _ (List.mem_cons_of_mem _ (List.mem_cons_of_mem _ (List.mem_cons_of_mem _ (List.mem_cons_of_mem _ (List.mem_cons_of_mem _ (List.mem_cons_of_mem _ (List.mem_cons_of_mem _ (List.mem_cons_of_mem _ (List.mem_cons_of_mem _ (List.mem_cons_of_mem _ (List.mem_cons_of_mem _ (List.mem_cons_of_mem _ (List.mem_cons_of_mem _ (List.mem_cons_of_mem _ (List.mem_cons_of_mem _ (List.mem_cons_of_mem _ (List.mem_cons_of_mem _ (List.mem_cons_of_mem _ (List.mem_cons_of_mem _ (List.mem_cons_of_mem _ (List.mem_cons_of_mem _ (List.mem_cons_of_mem _ (List.mem_cons_of_mem _ (List.mem_cons_of_mem _ (List.mem_cons_of_mem _ (List.mem_cons_self))))))))))))))))))))))))))))))) C M O hb hi6 hL kk, List.forall_mem_cons.mpr ⟨bL28 (hR _ (List.mem_cons_of_mem _ (List.mem_cons_of_mem _ (List.mem_cons_of_mem _ (List.mem_cons_of_mem _ (List.mem_cons_of_mem _ (List.mem_cons_of_mem _ (List.mem_cons_of_mem _ (List.mem_cons_of_mem _ (List.mem_cons_of_mem _ (List.mem_cons_of_mem _ (List.mem_cons_of_mem _ (List.mem_cons_of_mem _ (List.mem_cons_of_mem _ (List.mem_cons_of_mem _ (List.mem_cons_of_mem _ (List.mem_cons_of_mem _ (List.mem_cons_of_mem _ (List.mem_cons_of_mem _ (List.mem_cons_of_mem _ (List.mem_cons_of_mem _ (List.mem_cons_of_mem _ (List.mem_cons_of_mem _ (List.mem_cons_of_mem _ (List.mem_cons_of_mem _ (List.mem_cons_of_mem _ (List.mem_cons_of_mem _ (List.mem_cons_of_mem _ (List.mem_cons_of_mem _ (List.mem_cons_of_mem _ (List.mem_cons_of_mem _ (List.mem_cons_self)))))))))))))))))))))))))))))))) C M O hb hi6 hL kk, fun _ h => absurd h List.not_mem_nil⟩⟩⟩⟩⟩⟩⟩⟩⟩⟩⟩⟩⟩⟩⟩⟩⟩⟩⟩⟩⟩⟩⟩⟩⟩⟩⟩⟩⟩
