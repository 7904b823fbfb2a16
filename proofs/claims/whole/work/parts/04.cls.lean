/-! ===== the classes' field words, by their places ===== -/
theorem in_tbG {ws : List Cond} (is : List Nat) (h : ws.map some = is.map (fun i => lw_tbl[i]?)) (hg : ws.all goodWord = true) : ∀ w ∈ ws, w ∈ tbG := by
  intro w hw
  have h1 : some w ∈ ws.map some := List.mem_map.mpr ⟨w, hw, rfl⟩
  rw [h] at h1
  obtain ⟨i, -, hi⟩ := List.mem_map.mp h1
  exact List.mem_filter.mpr ⟨List.mem_of_getElem? hi, List.all_eq_true.mp hg w hw⟩
theorem clw0 : ∀ w ∈ u_ws RX0 TX0 3, w ∈ tbG := in_tbG [154, 156, 158] (by decide +kernel) (by decide +kernel)
theorem clw1 : ∀ w ∈ u_ws RX1 TX1 6, w ∈ tbG := in_tbG [196, 198, 200, 202, 204, 206] (by decide +kernel) (by decide +kernel)
theorem clw2 : ∀ w ∈ u_ws RX2 TX2 4, w ∈ tbG := in_tbG [96, 98, 100, 102] (by decide +kernel) (by decide +kernel)
theorem clw3 : ∀ w ∈ u_ws RX3 TX3 5, w ∈ tbG := in_tbG [112, 114, 116, 118, 120] (by decide +kernel) (by decide +kernel)
theorem clw4 : ∀ w ∈ u_ws RX4 TX4 3, w ∈ tbG := in_tbG [219, 221, 223] (by decide +kernel) (by decide +kernel)
theorem clw5 : ∀ w ∈ u_ws RX5 TX5 4, w ∈ tbG := in_tbG [134, 136, 138, 140] (by decide +kernel) (by decide +kernel)
theorem clw6 : ∀ w ∈ u_ws RX6 TX6 12, w ∈ tbG := in_tbG [238, 240, 242, 244, 246, 248, 250, 252, 254, 256, 258, 260] (by decide +kernel) (by decide +kernel)
theorem clw7 : ∀ w ∈ u_ws RX7 TX7 31, w ∈ tbG := in_tbG [646, 648, 650, 652, 654, 656, 658, 660, 662, 664, 666, 668, 670, 672, 674, 676, 678, 680, 682, 684, 686, 688, 690, 692, 694, 696, 698, 700, 702, 704, 706] (by decide +kernel) (by decide +kernel)
theorem cl_facts : ∀ (ci : Nat) (C : String) (T : u_T) (n : Nat), vwCl[ci]? = some (C, T, n) → ∃ ty0 : Nat → FieldType, (∀ k, k < n → parseFieldDescriptor (T k).2.2.1 = some (ty0 k)) ∧ (∀ a, a < n → ∀ b, b < n → a ≠ b → (T a).2.1 ≠ (T b).2.1) ∧ ∀ w ∈ u_ws C T n, w ∈ tbG := by
  intro ci C T n h
  match ci, h with
  | 0, h => cases h; exact ⟨tyX0, tyX0_ok, nmX0, clw0⟩
  | 1, h => cases h; exact ⟨tyX1, tyX1_ok, nmX1, clw1⟩
  | 2, h => cases h; exact ⟨tyX2, tyX2_ok, nmX2, clw2⟩
  | 3, h => cases h; exact ⟨tyX3, tyX3_ok, nmX3, clw3⟩
  | 4, h => cases h; exact ⟨tyX4, tyX4_ok, nmX4, clw4⟩
  | 5, h => cases h; exact ⟨tyX5, tyX5_ok, nmX5, clw5⟩
  | 6, h => cases h; exact ⟨tyX6, tyX6_ok, nmX6, clw6⟩
  | 7, h => cases h; exact ⟨tyX7, tyX7_ok, nmX7, clw7⟩
  | _ + 8, h => cases h
