theorem eX2_init_0 : decode cX2_init 0 = .ok (.aload_n 0, 1) := by decide +kernel
theorem eX2_init_1 : decode cX2_init 1 = .ok (.invokespecial 3, 3) := by decide +kernel
theorem eX2_init_4 : decode cX2_init 4 = .ok (.aload_n 0, 1) := by decide +kernel
theorem eX2_init_5 : decode cX2_init 5 = .ok (.iconst 5, 1) := by decide +kernel
theorem eX2_init_6 : decode cX2_init 6 = .ok (.newarray .int, 2) := by decide +kernel
theorem eX2_init_8 : decode cX2_init 8 = .ok (.putfield 9, 3) := by decide +kernel
theorem eX2_init_11 : decode cX2_init 11 = .ok (.aload_n 0, 1) := by decide +kernel
theorem eX2_init_12 : decode cX2_init 12 = .ok (.iconst 5, 1) := by decide +kernel
theorem eX2_init_13 : decode cX2_init 13 = .ok (.newarray .int, 2) := by decide +kernel
theorem eX2_init_15 : decode cX2_init 15 = .ok (.putfield 15, 3) := by decide +kernel
theorem eX2_init_18 : decode cX2_init 18 = .ok (.return_, 1) := by decide +kernel
def wlX2 (q : Nat → Nat) (c : Nat → ClassId) : va_W := [(q 0, .inr (2, [.ref (q 1), .ref (q 2), .int 0, .int 0])), (q 1, .inl (c 1, 5, .inl (fun _ => 0))), (q 2, .inl (c 2, 5, .inl (fun _ => 0)))]
def tyl2 (c : Nat → ClassId) : List (ClassId × FieldType) := [(c 1, .int), (c 2, .int)]
def atX2 (dC : Nat → ClassId) (dI : Nat → Nat → Nat) (A : Nat → Prop) (u : (Nat → Nat) × (Nat → ClassId)) (t : State) : Prop := va_P (dC, dI) vwCl (wlX2 u.1 u.2) t.heap ∧ va_K (dC, dI) vwCl (tyl2 u.2) t ∧ va_D A (wlX2 u.1 u.2)
set_option maxHeartbeats 16000000 in
set_option maxRecDepth 100000 in
theorem kX2_init (l : Launch) (dC : Nat → ClassId) (dI : Nat → Nat → Nat) (q0 : Nat) (sz : Nat) : Met l yX2_init (.code yX2_init cX2_init 1 none :: tbG) { frames := 1, cells := 2, slots := 10, locals := 24 } (va_Pc [.ref q0] (fun U => U.heap.size = sz ∧ va_P (dC, dI) vwCl [(q0, .inr (2, [.null, .null, .int 0, .int 0]))] U.heap ∧ va_K (dC, dI) vwCl [] U ∧ va_D (fun _ => True) [(q0, .inr (2, [.null, .null, .int 0, .int 0]))] ∧ NZ U)) (va_Qv (fun u : (Nat → Nat) × (Nat → ClassId) => u.1 0 = q0) (atX2 dC dI (va_A [(q0, .inr (2, [.null, .null, .int 0, .int 0]))] sz)) (va_A [(q0, .inr (2, [.null, .null, .int 0, .int 0]))] sz)) 2 10 (va_A [(q0, .inr (2, [.null, .null, .int 0, .int 0]))] sz) := by
  refine Met.ofW (cc := cX2_init) (maxL := 1) (ret := none) (by decide) rfl ?_
  intro p e s m args below meth c s₁ B hml hv
  obtain ⟨rfl, hsz, hP, hK, hD0, hN⟩ := hv
  have hx := B.exec
  have hb := B.bytes
  have hr := B.returns
  have hts0 := atoms_spec (ws := .code yX2_init cX2_init 1 none :: tbG) B.pre
  have hts : ∀ w ∈ tbG, w.before ([Value.ref q0] : List Value).toArray s = true := fun w hw => hts0 w (List.mem_cons_of_mem _ hw)
  have hown : s.vm.findClass RX2 = some m.cls := findClass_of_methodNamed B.named
  have hlocks := B.notSynchronized
  have hin : meth.name = "<init>" := (name_of_methodNamed B.named B.method).1
  subst hsz
  have hD := hD0.self (sz := s.heap.size)
  generalize hAe : va_A [(q0, .inr (2, [.null, .null, .int 0, .int 0]))] s.heap.size = A at hD ⊢
  have hA : ∀ q : Nat, s.heap.size ≤ q → A q := fun q h => by rw [← hAe]; exact Or.inr h
  have hS : va_S A s.heap s.heap [] := va_S.rf
  have hl := lv_entry ([.ref q0]) (n := 1) (Nat.le_of_ble_eq_true rfl)
  rw [lg_entry_eq]
  generalize (lg_sl ([.ref q0]) ++ List.replicate (1 - (lg_sl ([.ref q0])).length) Slot.unset).toArray = ls at hl ⊢
  have hl : lv_has ls 1 [(0, .ref q0)] := hl
  refine lv_aload_n hx hb eX2_init_0 rfl (lv_at hl 0 rfl) ?_
  refine W.objInit hx hb hown (hts _ (okT_mem (t := 85) (by decide +kernel))) (hts _ (okT_mem (t := 70) (by decide +kernel))) (hts _ (okT_mem (t := 71) (by decide +kernel))) rfl (by rw [hml]; exact hl.1) rfl eX2_init_1 (Nat.le_of_ble_eq_true rfl) (Nat.le_of_ble_eq_true rfl) ?_
  refine W.eq (g2 := F0 m 4 ls []) rfl ?_
  refine lv_aload_n hx hb eX2_init_4 rfl (lv_at hl 0 rfl) ?_
  refine lv_iconst (v := 5) hx hb eX2_init_5 (by decide) ?_
  refine va_newa (atype := .int) (ty := .int) (N' := 5) (a0 := (5, .inl (fun _ => 0))) hx hb (hts _ (okT_mem (t := 105) (by decide +kernel))) rfl hK hP hD hS hA (fun _ => rfl) (by decide) (by decide) (Nat.le_of_ble_eq_true rfl) (Nat.le_of_ble_eq_true rfl) (Nat.le_of_ble_eq_true rfl) eX2_init_6 (fun q1 c2 H hK hP hD hS => ?_)
  have hP : va_P (dC, dI) vwCl [(q0, .inr (2, [.null, .null, .int 0, .int 0])), (q1, .inl (c2, 5, .inl (fun _ => 0)))] H := hP
  have hD : va_D A [(q0, .inr (2, [.null, .null, .int 0, .int 0])), (q1, .inl (c2, 5, .inl (fun _ => 0)))] := hD
  have hK : va_K (dC, dI) vwCl [(c2, .int)] s := hK
  refine W.widen (k := 1) (n := 5) (by omega) (by omega) ?_
  refine va_putF (D := (dC, dI)) (ci := 2) (v := .ref q1) (ty := tyX2 0) (C := RX2) (T := TX2) (N := 4) hx hb hts clw2 tyX2 tyX2_ok nmX2 hown hK hP hD hS 0 rfl rfl 0 (by decide) (hts _ (okT_mem (t := 86) (by decide +kernel))) (fun _ h9 => h9) rfl hin rfl (tyX2_ok 0 (by decide)) rfl rfl (Nat.le_of_ble_eq_true rfl) eX2_init_8 (fun H locs hP hD hS => ?_)
  have hP : va_P (dC, dI) vwCl [(q0, .inr (2, [.ref q1, .null, .int 0, .int 0])), (q1, .inl (c2, 5, .inl (fun _ => 0)))] H := hP
  have hD : va_D A [(q0, .inr (2, [.ref q1, .null, .int 0, .int 0])), (q1, .inl (c2, 5, .inl (fun _ => 0)))] := hD
  refine lv_aload_n hx hb eX2_init_11 rfl (lv_at hl 0 rfl) ?_
  refine lv_iconst (v := 5) hx hb eX2_init_12 (by decide) ?_
  refine va_newa (atype := .int) (ty := .int) (N' := 5) (a0 := (5, .inl (fun _ => 0))) hx hb (hts _ (okT_mem (t := 105) (by decide +kernel))) rfl hK hP hD hS hA (fun _ => rfl) (by decide) (by decide) (Nat.le_of_ble_eq_true rfl) (Nat.le_of_ble_eq_true rfl) (Nat.le_of_ble_eq_true rfl) eX2_init_13 (fun q3 c4 H hK hP hD hS => ?_)
  have hP : va_P (dC, dI) vwCl [(q0, .inr (2, [.ref q1, .null, .int 0, .int 0])), (q1, .inl (c2, 5, .inl (fun _ => 0))), (q3, .inl (c4, 5, .inl (fun _ => 0)))] H := hP
  have hD : va_D A [(q0, .inr (2, [.ref q1, .null, .int 0, .int 0])), (q1, .inl (c2, 5, .inl (fun _ => 0))), (q3, .inl (c4, 5, .inl (fun _ => 0)))] := hD
  have hK : va_K (dC, dI) vwCl [(c2, .int), (c4, .int)] s := hK
  refine W.widen (k := 2) (n := 10) (by omega) (by omega) ?_
  refine va_putF (D := (dC, dI)) (ci := 2) (v := .ref q3) (ty := tyX2 1) (C := RX2) (T := TX2) (N := 4) hx hb hts clw2 tyX2 tyX2_ok nmX2 hown hK hP hD hS 0 rfl rfl 1 (by decide) (hts _ (okT_mem (t := 90) (by decide +kernel))) (fun _ h9 => h9) rfl hin rfl (tyX2_ok 1 (by decide)) rfl rfl (Nat.le_of_ble_eq_true rfl) eX2_init_15 (fun H locs hP hD hS => ?_)
  have hP : va_P (dC, dI) vwCl [(q0, .inr (2, [.ref q1, .ref q3, .int 0, .int 0])), (q1, .inl (c2, 5, .inl (fun _ => 0))), (q3, .inl (c4, 5, .inl (fun _ => 0)))] H := hP
  have hD : va_D A [(q0, .inr (2, [.ref q1, .ref q3, .int 0, .int 0])), (q1, .inl (c2, 5, .inl (fun _ => 0))), (q3, .inl (c4, 5, .inl (fun _ => 0)))] := hD
  have hP : va_P (dC, dI) vwCl (wlX2 (gq [q0, q1, q3]) (gq [0, c2, c4])) H := hP
  have hD : va_D A (wlX2 (gq [q0, q1, q3]) (gq [0, c2, c4])) := hD
  have hK : va_K (dC, dI) vwCl (tyl2 (gq [0, c2, c4])) s := hK.sub (tys' := tyl2 (gq [0, c2, c4])) [0, 1] rfl
  refine W.widen (k := 2) (n := 10) (by omega) (by omega) ?_
  exact W.vret hx hb hr (fun t ht hW => ⟨⟨((gq [q0, q1, q3]), (gq [0, c2, c4])), rfl, rfl, by rw [ht]; exact hP, va_K.moved hW.alike hK, hD⟩, hS.F ht⟩) hS.2.2 eX2_init_18
theorem eX5_init_0 : decode cX5_init 0 = .ok (.aload_n 0, 1) := by decide +kernel
theorem eX5_init_1 : decode cX5_init 1 = .ok (.invokespecial 3, 3) := by decide +kernel
theorem eX5_init_4 : decode cX5_init 4 = .ok (.aload_n 0, 1) := by decide +kernel
theorem eX5_init_5 : decode cX5_init 5 = .ok (.bipush 60, 2) := by decide +kernel
theorem eX5_init_7 : decode cX5_init 7 = .ok (.newarray .int, 2) := by decide +kernel
theorem eX5_init_9 : decode cX5_init 9 = .ok (.putfield 9, 3) := by decide +kernel
theorem eX5_init_12 : decode cX5_init 12 = .ok (.return_, 1) := by decide +kernel
def wlX5 (q : Nat → Nat) (c : Nat → ClassId) : va_W := [(q 0, .inr (5, [.ref (q 1), .int 0, .int 0, .int 0])), (q 1, .inl (c 1, 60, .inl (fun _ => 0)))]
def tyl5 (c : Nat → ClassId) : List (ClassId × FieldType) := [(c 1, .int)]
def atX5 (dC : Nat → ClassId) (dI : Nat → Nat → Nat) (A : Nat → Prop) (u : (Nat → Nat) × (Nat → ClassId)) (t : State) : Prop := va_P (dC, dI) vwCl (wlX5 u.1 u.2) t.heap ∧ va_K (dC, dI) vwCl (tyl5 u.2) t ∧ va_D A (wlX5 u.1 u.2)
set_option maxHeartbeats 16000000 in
set_option maxRecDepth 100000 in
theorem kX5_init (l : Launch) (dC : Nat → ClassId) (dI : Nat → Nat → Nat) (q0 : Nat) (sz : Nat) : Met l yX5_init (.code yX5_init cX5_init 1 none :: tbG) { frames := 1, cells := 1, slots := 60, locals := 24 } (va_Pc [.ref q0] (fun U => U.heap.size = sz ∧ va_P (dC, dI) vwCl [(q0, .inr (5, [.null, .int 0, .int 0, .int 0]))] U.heap ∧ va_K (dC, dI) vwCl [] U ∧ va_D (fun _ => True) [(q0, .inr (5, [.null, .int 0, .int 0, .int 0]))] ∧ NZ U)) (va_Qv (fun u : (Nat → Nat) × (Nat → ClassId) => u.1 0 = q0) (atX5 dC dI (va_A [(q0, .inr (5, [.null, .int 0, .int 0, .int 0]))] sz)) (va_A [(q0, .inr (5, [.null, .int 0, .int 0, .int 0]))] sz)) 1 60 (va_A [(q0, .inr (5, [.null, .int 0, .int 0, .int 0]))] sz) := by
  refine Met.ofW (cc := cX5_init) (maxL := 1) (ret := none) (by decide) rfl ?_
  intro p e s m args below meth c s₁ B hml hv
  obtain ⟨rfl, hsz, hP, hK, hD0, hN⟩ := hv
  have hx := B.exec
  have hb := B.bytes
  have hr := B.returns
  have hts0 := atoms_spec (ws := .code yX5_init cX5_init 1 none :: tbG) B.pre
  have hts : ∀ w ∈ tbG, w.before ([Value.ref q0] : List Value).toArray s = true := fun w hw => hts0 w (List.mem_cons_of_mem _ hw)
  have hown : s.vm.findClass RX5 = some m.cls := findClass_of_methodNamed B.named
  have hlocks := B.notSynchronized
  have hin : meth.name = "<init>" := (name_of_methodNamed B.named B.method).1
  subst hsz
  have hD := hD0.self (sz := s.heap.size)
  generalize hAe : va_A [(q0, .inr (5, [.null, .int 0, .int 0, .int 0]))] s.heap.size = A at hD ⊢
  have hA : ∀ q : Nat, s.heap.size ≤ q → A q := fun q h => by rw [← hAe]; exact Or.inr h
  have hS : va_S A s.heap s.heap [] := va_S.rf
  have hl := lv_entry ([.ref q0]) (n := 1) (Nat.le_of_ble_eq_true rfl)
  rw [lg_entry_eq]
  generalize (lg_sl ([.ref q0]) ++ List.replicate (1 - (lg_sl ([.ref q0])).length) Slot.unset).toArray = ls at hl ⊢
  have hl : lv_has ls 1 [(0, .ref q0)] := hl
  refine lv_aload_n hx hb eX5_init_0 rfl (lv_at hl 0 rfl) ?_
  refine W.objInit hx hb hown (hts _ (okT_mem (t := 128) (by decide +kernel))) (hts _ (okT_mem (t := 70) (by decide +kernel))) (hts _ (okT_mem (t := 71) (by decide +kernel))) rfl (by rw [hml]; exact hl.1) rfl eX5_init_1 (Nat.le_of_ble_eq_true rfl) (Nat.le_of_ble_eq_true rfl) ?_
  refine W.eq (g2 := F0 m 4 ls []) rfl ?_
  refine lv_aload_n hx hb eX5_init_4 rfl (lv_at hl 0 rfl) ?_
  refine lv_bipush (v := 60) hx hb eX5_init_5 (by decide) ?_
  refine va_newa (atype := .int) (ty := .int) (N' := 60) (a0 := (60, .inl (fun _ => 0))) hx hb (hts _ (okT_mem (t := 105) (by decide +kernel))) rfl hK hP hD hS hA (fun _ => rfl) (by decide) (by decide) (Nat.le_of_ble_eq_true rfl) (Nat.le_of_ble_eq_true rfl) (Nat.le_of_ble_eq_true rfl) eX5_init_7 (fun q1 c2 H hK hP hD hS => ?_)
  have hP : va_P (dC, dI) vwCl [(q0, .inr (5, [.null, .int 0, .int 0, .int 0])), (q1, .inl (c2, 60, .inl (fun _ => 0)))] H := hP
  have hD : va_D A [(q0, .inr (5, [.null, .int 0, .int 0, .int 0])), (q1, .inl (c2, 60, .inl (fun _ => 0)))] := hD
  have hK : va_K (dC, dI) vwCl [(c2, .int)] s := hK
  refine W.widen (k := 1) (n := 60) (by omega) (by omega) ?_
  refine va_putF (D := (dC, dI)) (ci := 5) (v := .ref q1) (ty := tyX5 0) (C := RX5) (T := TX5) (N := 4) hx hb hts clw5 tyX5 tyX5_ok nmX5 hown hK hP hD hS 0 rfl rfl 0 (by decide) (hts _ (okT_mem (t := 129) (by decide +kernel))) (fun _ h9 => h9) rfl hin rfl (tyX5_ok 0 (by decide)) rfl rfl (Nat.le_of_ble_eq_true rfl) eX5_init_9 (fun H locs hP hD hS => ?_)
  have hP : va_P (dC, dI) vwCl [(q0, .inr (5, [.ref q1, .int 0, .int 0, .int 0])), (q1, .inl (c2, 60, .inl (fun _ => 0)))] H := hP
  have hD : va_D A [(q0, .inr (5, [.ref q1, .int 0, .int 0, .int 0])), (q1, .inl (c2, 60, .inl (fun _ => 0)))] := hD
  have hP : va_P (dC, dI) vwCl (wlX5 (gq [q0, q1]) (gq [0, c2])) H := hP
  have hD : va_D A (wlX5 (gq [q0, q1]) (gq [0, c2])) := hD
  have hK : va_K (dC, dI) vwCl (tyl5 (gq [0, c2])) s := hK.sub (tys' := tyl5 (gq [0, c2])) [0] rfl
  refine W.widen (k := 1) (n := 60) (by omega) (by omega) ?_
  exact W.vret hx hb hr (fun t ht hW => ⟨⟨((gq [q0, q1]), (gq [0, c2])), rfl, rfl, by rw [ht]; exact hP, va_K.moved hW.alike hK, hD⟩, hS.F ht⟩) hS.2.2 eX5_init_12
theorem eX4_init_0 : decode cX4_init 0 = .ok (.aload_n 0, 1) := by decide +kernel
theorem eX4_init_1 : decode cX4_init 1 = .ok (.invokespecial 3, 3) := by decide +kernel
theorem eX4_init_4 : decode cX4_init 4 = .ok (.aload_n 0, 1) := by decide +kernel
theorem eX4_init_5 : decode cX4_init 5 = .ok (.bipush 60, 2) := by decide +kernel
theorem eX4_init_7 : decode cX4_init 7 = .ok (.newarray .int, 2) := by decide +kernel
theorem eX4_init_9 : decode cX4_init 9 = .ok (.putfield 9, 3) := by decide +kernel
theorem eX4_init_12 : decode cX4_init 12 = .ok (.aload_n 0, 1) := by decide +kernel
theorem eX4_init_13 : decode cX4_init 13 = .ok (.iconst (-1), 1) := by decide +kernel
theorem eX4_init_14 : decode cX4_init 14 = .ok (.putfield 15, 3) := by decide +kernel
theorem eX4_init_17 : decode cX4_init 17 = .ok (.return_, 1) := by decide +kernel
def wlX4 (q : Nat → Nat) (c : Nat → ClassId) : va_W := [(q 0, .inr (4, [.ref (q 1), .int (-1), .int 0])), (q 1, .inl (c 1, 60, .inl (fun _ => 0)))]
def tyl4 (c : Nat → ClassId) : List (ClassId × FieldType) := [(c 1, .int)]
def atX4 (dC : Nat → ClassId) (dI : Nat → Nat → Nat) (A : Nat → Prop) (u : (Nat → Nat) × (Nat → ClassId)) (t : State) : Prop := va_P (dC, dI) vwCl (wlX4 u.1 u.2) t.heap ∧ va_K (dC, dI) vwCl (tyl4 u.2) t ∧ va_D A (wlX4 u.1 u.2)
set_option maxHeartbeats 16000000 in
set_option maxRecDepth 100000 in
theorem kX4_init (l : Launch) (dC : Nat → ClassId) (dI : Nat → Nat → Nat) (q0 : Nat) (sz : Nat) : Met l yX4_init (.code yX4_init cX4_init 1 none :: tbG) { frames := 1, cells := 1, slots := 60, locals := 24 } (va_Pc [.ref q0] (fun U => U.heap.size = sz ∧ va_P (dC, dI) vwCl [(q0, .inr (4, [.null, .int 0, .int 0]))] U.heap ∧ va_K (dC, dI) vwCl [] U ∧ va_D (fun _ => True) [(q0, .inr (4, [.null, .int 0, .int 0]))] ∧ NZ U)) (va_Qv (fun u : (Nat → Nat) × (Nat → ClassId) => u.1 0 = q0) (atX4 dC dI (va_A [(q0, .inr (4, [.null, .int 0, .int 0]))] sz)) (va_A [(q0, .inr (4, [.null, .int 0, .int 0]))] sz)) 1 60 (va_A [(q0, .inr (4, [.null, .int 0, .int 0]))] sz) := by
  refine Met.ofW (cc := cX4_init) (maxL := 1) (ret := none) (by decide) rfl ?_
  intro p e s m args below meth c s₁ B hml hv
  obtain ⟨rfl, hsz, hP, hK, hD0, hN⟩ := hv
  have hx := B.exec
  have hb := B.bytes
  have hr := B.returns
  have hts0 := atoms_spec (ws := .code yX4_init cX4_init 1 none :: tbG) B.pre
  have hts : ∀ w ∈ tbG, w.before ([Value.ref q0] : List Value).toArray s = true := fun w hw => hts0 w (List.mem_cons_of_mem _ hw)
  have hown : s.vm.findClass RX4 = some m.cls := findClass_of_methodNamed B.named
  have hlocks := B.notSynchronized
  have hin : meth.name = "<init>" := (name_of_methodNamed B.named B.method).1
  subst hsz
  have hD := hD0.self (sz := s.heap.size)
  generalize hAe : va_A [(q0, .inr (4, [.null, .int 0, .int 0]))] s.heap.size = A at hD ⊢
  have hA : ∀ q : Nat, s.heap.size ≤ q → A q := fun q h => by rw [← hAe]; exact Or.inr h
  have hS : va_S A s.heap s.heap [] := va_S.rf
  have hl := lv_entry ([.ref q0]) (n := 1) (Nat.le_of_ble_eq_true rfl)
  rw [lg_entry_eq]
  generalize (lg_sl ([.ref q0]) ++ List.replicate (1 - (lg_sl ([.ref q0])).length) Slot.unset).toArray = ls at hl ⊢
  have hl : lv_has ls 1 [(0, .ref q0)] := hl
  refine lv_aload_n hx hb eX4_init_0 rfl (lv_at hl 0 rfl) ?_
  refine W.objInit hx hb hown (hts _ (okT_mem (t := 213) (by decide +kernel))) (hts _ (okT_mem (t := 70) (by decide +kernel))) (hts _ (okT_mem (t := 71) (by decide +kernel))) rfl (by rw [hml]; exact hl.1) rfl eX4_init_1 (Nat.le_of_ble_eq_true rfl) (Nat.le_of_ble_eq_true rfl) ?_
  refine W.eq (g2 := F0 m 4 ls []) rfl ?_
  refine lv_aload_n hx hb eX4_init_4 rfl (lv_at hl 0 rfl) ?_
  refine lv_bipush (v := 60) hx hb eX4_init_5 (by decide) ?_
  refine va_newa (atype := .int) (ty := .int) (N' := 60) (a0 := (60, .inl (fun _ => 0))) hx hb (hts _ (okT_mem (t := 105) (by decide +kernel))) rfl hK hP hD hS hA (fun _ => rfl) (by decide) (by decide) (Nat.le_of_ble_eq_true rfl) (Nat.le_of_ble_eq_true rfl) (Nat.le_of_ble_eq_true rfl) eX4_init_7 (fun q1 c2 H hK hP hD hS => ?_)
  have hP : va_P (dC, dI) vwCl [(q0, .inr (4, [.null, .int 0, .int 0])), (q1, .inl (c2, 60, .inl (fun _ => 0)))] H := hP
  have hD : va_D A [(q0, .inr (4, [.null, .int 0, .int 0])), (q1, .inl (c2, 60, .inl (fun _ => 0)))] := hD
  have hK : va_K (dC, dI) vwCl [(c2, .int)] s := hK
  refine W.widen (k := 1) (n := 60) (by omega) (by omega) ?_
  refine va_putF (D := (dC, dI)) (ci := 4) (v := .ref q1) (ty := tyX4 0) (C := RX4) (T := TX4) (N := 3) hx hb hts clw4 tyX4 tyX4_ok nmX4 hown hK hP hD hS 0 rfl rfl 0 (by decide) (hts _ (okT_mem (t := 214) (by decide +kernel))) (fun _ h9 => h9) rfl hin rfl (tyX4_ok 0 (by decide)) rfl rfl (Nat.le_of_ble_eq_true rfl) eX4_init_9 (fun H locs hP hD hS => ?_)
  have hP : va_P (dC, dI) vwCl [(q0, .inr (4, [.ref q1, .int 0, .int 0])), (q1, .inl (c2, 60, .inl (fun _ => 0)))] H := hP
  have hD : va_D A [(q0, .inr (4, [.ref q1, .int 0, .int 0])), (q1, .inl (c2, 60, .inl (fun _ => 0)))] := hD
  refine lv_aload_n hx hb eX4_init_12 rfl (lv_at hl 0 rfl) ?_
  refine lv_iconst (v := (-1)) hx hb eX4_init_13 (by decide) ?_
  refine va_put (D := (dC, dI)) (ci := 4) (v := .int (-1)) (ty := tyX4 1) (C := RX4) (T := TX4) (N := 3) hx hb hts clw4 tyX4 tyX4_ok nmX4 hown hK hP hD hS 0 rfl rfl 1 (by decide) (hts _ (okT_mem (t := 216) (by decide +kernel))) (fun _ h9 => h9) rfl (tyX4_ok 1 (by decide)) rfl rfl (Nat.le_of_ble_eq_true rfl) eX4_init_14 (fun H locs hP hD hS => ?_)
  have hP : va_P (dC, dI) vwCl [(q0, .inr (4, [.ref q1, .int (-1), .int 0])), (q1, .inl (c2, 60, .inl (fun _ => 0)))] H := hP
  have hD : va_D A [(q0, .inr (4, [.ref q1, .int (-1), .int 0])), (q1, .inl (c2, 60, .inl (fun _ => 0)))] := hD
  have hP : va_P (dC, dI) vwCl (wlX4 (gq [q0, q1]) (gq [0, c2])) H := hP
  have hD : va_D A (wlX4 (gq [q0, q1]) (gq [0, c2])) := hD
  have hK : va_K (dC, dI) vwCl (tyl4 (gq [0, c2])) s := hK.sub (tys' := tyl4 (gq [0, c2])) [0] rfl
  refine W.widen (k := 1) (n := 60) (by omega) (by omega) ?_
  exact W.vret hx hb hr (fun t ht hW => ⟨⟨((gq [q0, q1]), (gq [0, c2])), rfl, rfl, by rw [ht]; exact hP, va_K.moved hW.alike hK, hD⟩, hS.F ht⟩) hS.2.2 eX4_init_17
theorem eX0_init_0 : decode cX0_init 0 = .ok (.aload_n 0, 1) := by decide +kernel
theorem eX0_init_1 : decode cX0_init 1 = .ok (.invokespecial 3, 3) := by decide +kernel
theorem eX0_init_4 : decode cX0_init 4 = .ok (.aload_n 0, 1) := by decide +kernel
theorem eX0_init_5 : decode cX0_init 5 = .ok (.iconst 5, 1) := by decide +kernel
theorem eX0_init_6 : decode cX0_init 6 = .ok (.bipush 6, 2) := by decide +kernel
theorem eX0_init_8 : decode cX0_init 8 = .ok (.multianewarray 9 2, 4) := by decide +kernel
theorem eX0_init_12 : decode cX0_init 12 = .ok (.putfield 11, 3) := by decide +kernel
theorem eX0_init_15 : decode cX0_init 15 = .ok (.aload_n 0, 1) := by decide +kernel
theorem eX0_init_16 : decode cX0_init 16 = .ok (.iconst 5, 1) := by decide +kernel
theorem eX0_init_17 : decode cX0_init 17 = .ok (.newarray .long, 2) := by decide +kernel
theorem eX0_init_19 : decode cX0_init 19 = .ok (.putfield 16, 3) := by decide +kernel
theorem eX0_init_22 : decode cX0_init 22 = .ok (.return_, 1) := by decide +kernel
def wlX0 (q : Nat → Nat) (c : Nat → ClassId) : va_W := [(q 0, .inr (0, [.ref (q 1), .ref (q 7), .int 0])), (q 1, .inl (c 1, 5, .inr (.inr (.inr (.inr (rowq q 2)))))), (q 2, .inl (c 2, 6, .inr (.inl (fun _ => 0)))), (q 3, .inl (c 3, 6, .inr (.inl (fun _ => 0)))), (q 4, .inl (c 4, 6, .inr (.inl (fun _ => 0)))), (q 5, .inl (c 5, 6, .inr (.inl (fun _ => 0)))), (q 6, .inl (c 6, 6, .inr (.inl (fun _ => 0)))), (q 7, .inl (c 7, 5, .inr (.inl (fun _ => 0))))]
def tyl0 (c : Nat → ClassId) : List (ClassId × FieldType) := [(c 1, .array .long), (c 2, .long), (c 3, .long), (c 4, .long), (c 5, .long), (c 6, .long), (c 7, .long)]
def atX0 (dC : Nat → ClassId) (dI : Nat → Nat → Nat) (A : Nat → Prop) (u : (Nat → Nat) × (Nat → ClassId)) (t : State) : Prop := va_P (dC, dI) vwCl (wlX0 u.1 u.2) t.heap ∧ va_K (dC, dI) vwCl (tyl0 u.2) t ∧ va_D A (wlX0 u.1 u.2)
set_option maxHeartbeats 16000000 in
set_option maxRecDepth 100000 in
theorem kX0_init (l : Launch) (dC : Nat → ClassId) (dI : Nat → Nat → Nat) (q0 : Nat) (sz : Nat) : Met l yX0_init (.code yX0_init cX0_init 1 none :: tbG) { frames := 1, cells := 7, slots := 40, locals := 24 } (va_Pc [.ref q0] (fun U => U.heap.size = sz ∧ va_P (dC, dI) vwCl [(q0, .inr (0, [.null, .null, .int 0]))] U.heap ∧ va_K (dC, dI) vwCl [] U ∧ va_D (fun _ => True) [(q0, .inr (0, [.null, .null, .int 0]))] ∧ NZ U)) (va_Qv (fun u : (Nat → Nat) × (Nat → ClassId) => u.1 0 = q0) (atX0 dC dI (va_A [(q0, .inr (0, [.null, .null, .int 0]))] sz)) (va_A [(q0, .inr (0, [.null, .null, .int 0]))] sz)) 7 40 (va_A [(q0, .inr (0, [.null, .null, .int 0]))] sz) := by
  refine Met.ofW (cc := cX0_init) (maxL := 1) (ret := none) (by decide) rfl ?_
  intro p e s m args below meth c s₁ B hml hv
  obtain ⟨rfl, hsz, hP, hK, hD0, hN⟩ := hv
  have hx := B.exec
  have hb := B.bytes
  have hr := B.returns
  have hts0 := atoms_spec (ws := .code yX0_init cX0_init 1 none :: tbG) B.pre
  have hts : ∀ w ∈ tbG, w.before ([Value.ref q0] : List Value).toArray s = true := fun w hw => hts0 w (List.mem_cons_of_mem _ hw)
  have hown : s.vm.findClass RX0 = some m.cls := findClass_of_methodNamed B.named
  have hlocks := B.notSynchronized
  have hin : meth.name = "<init>" := (name_of_methodNamed B.named B.method).1
  subst hsz
  have hD := hD0.self (sz := s.heap.size)
  generalize hAe : va_A [(q0, .inr (0, [.null, .null, .int 0]))] s.heap.size = A at hD ⊢
  have hA : ∀ q : Nat, s.heap.size ≤ q → A q := fun q h => by rw [← hAe]; exact Or.inr h
  have hS : va_S A s.heap s.heap [] := va_S.rf
  have hl := lv_entry ([.ref q0]) (n := 1) (Nat.le_of_ble_eq_true rfl)
  rw [lg_entry_eq]
  generalize (lg_sl ([.ref q0]) ++ List.replicate (1 - (lg_sl ([.ref q0])).length) Slot.unset).toArray = ls at hl ⊢
  have hl : lv_has ls 1 [(0, .ref q0)] := hl
  refine lv_aload_n hx hb eX0_init_0 rfl (lv_at hl 0 rfl) ?_
  refine W.objInit hx hb hown (hts _ (okT_mem (t := 148) (by decide +kernel))) (hts _ (okT_mem (t := 70) (by decide +kernel))) (hts _ (okT_mem (t := 71) (by decide +kernel))) rfl (by rw [hml]; exact hl.1) rfl eX0_init_1 (Nat.le_of_ble_eq_true rfl) (Nat.le_of_ble_eq_true rfl) ?_
  refine W.eq (g2 := F0 m 4 ls []) rfl ?_
  refine lv_aload_n hx hb eX0_init_4 rfl (lv_at hl 0 rfl) ?_
  refine lv_iconst (v := 5) hx hb eX0_init_5 (by decide) ?_
  refine lv_bipush (v := 6) hx hb eX0_init_6 (by decide) ?_
  obtain ⟨c4, hcy, hA1, hA2⟩ := arrc_long (hts _ (okT_mem (t := 161) (by decide +kernel)))
  have hK := hK.add hA1 hA2
  refine va_mna (X := [(q0, .inr (0, [.null, .null, .int 0]))]) (L := []) (f := fun _ => .inr (0, [])) (ty := .long) (cy := c4) (N' := 5) (K' := 6) (z := (6, .inr (.inl (fun _ => 0)))) hx hb hown (hts _ (okT_mem (t := 149) (by decide +kernel))) (hN.2.2.2.2.2.2.2.2.2) (hts _ (okT_mem (t := 161) (by decide +kernel))) hcy hK hP hD hS hA (by decide) (by decide) (by decide) (by decide) (Nat.le_of_ble_eq_true rfl) (Nat.le_of_ble_eq_true rfl) (Nat.le_of_ble_eq_true rfl) rfl rfl (Nat.le_of_ble_eq_true rfl) (Nat.le_of_ble_eq_true rfl) (inr_long 6) eX0_init_8 (fun q1 r2 c3 H hi1 hi2 hK hP hD hS => ?_)
  rw [mna5] at hP hD
  have hP : va_P (dC, dI) vwCl [(q0, .inr (0, [.null, .null, .int 0])), (q1, .inl (c3, 5, .inr (.inr (.inr (.inr (fun i => if i < 5 then some (r2 i) else none)))))), ((r2 0), .inl (c4, 6, .inr (.inl (fun _ => 0)))), ((r2 1), .inl (c4, 6, .inr (.inl (fun _ => 0)))), ((r2 2), .inl (c4, 6, .inr (.inl (fun _ => 0)))), ((r2 3), .inl (c4, 6, .inr (.inl (fun _ => 0)))), ((r2 4), .inl (c4, 6, .inr (.inl (fun _ => 0))))] H := hP
  have hD : va_D A [(q0, .inr (0, [.null, .null, .int 0])), (q1, .inl (c3, 5, .inr (.inr (.inr (.inr (fun i => if i < 5 then some (r2 i) else none)))))), ((r2 0), .inl (c4, 6, .inr (.inl (fun _ => 0)))), ((r2 1), .inl (c4, 6, .inr (.inl (fun _ => 0)))), ((r2 2), .inl (c4, 6, .inr (.inl (fun _ => 0)))), ((r2 3), .inl (c4, 6, .inr (.inl (fun _ => 0)))), ((r2 4), .inl (c4, 6, .inr (.inl (fun _ => 0))))] := hD
  have hK : va_K (dC, dI) vwCl [(c4, .long), (c3, .array .long)] s := hK
  refine W.widen (k := 6) (n := 35) (by omega) (by omega) ?_
  refine va_putF (D := (dC, dI)) (ci := 0) (v := .ref q1) (ty := tyX0 0) (C := RX0) (T := TX0) (N := 3) hx hb hts clw0 tyX0 tyX0_ok nmX0 hown hK hP hD hS 0 rfl rfl 0 (by decide) (hts _ (okT_mem (t := 151) (by decide +kernel))) (fun _ h9 => h9) rfl hin rfl (tyX0_ok 0 (by decide)) rfl rfl (Nat.le_of_ble_eq_true rfl) eX0_init_12 (fun H locs hP hD hS => ?_)
  have hP : va_P (dC, dI) vwCl [(q0, .inr (0, [.ref q1, .null, .int 0])), (q1, .inl (c3, 5, .inr (.inr (.inr (.inr (fun i => if i < 5 then some (r2 i) else none)))))), ((r2 0), .inl (c4, 6, .inr (.inl (fun _ => 0)))), ((r2 1), .inl (c4, 6, .inr (.inl (fun _ => 0)))), ((r2 2), .inl (c4, 6, .inr (.inl (fun _ => 0)))), ((r2 3), .inl (c4, 6, .inr (.inl (fun _ => 0)))), ((r2 4), .inl (c4, 6, .inr (.inl (fun _ => 0))))] H := hP
  have hD : va_D A [(q0, .inr (0, [.ref q1, .null, .int 0])), (q1, .inl (c3, 5, .inr (.inr (.inr (.inr (fun i => if i < 5 then some (r2 i) else none)))))), ((r2 0), .inl (c4, 6, .inr (.inl (fun _ => 0)))), ((r2 1), .inl (c4, 6, .inr (.inl (fun _ => 0)))), ((r2 2), .inl (c4, 6, .inr (.inl (fun _ => 0)))), ((r2 3), .inl (c4, 6, .inr (.inl (fun _ => 0)))), ((r2 4), .inl (c4, 6, .inr (.inl (fun _ => 0))))] := hD
  refine lv_aload_n hx hb eX0_init_15 rfl (lv_at hl 0 rfl) ?_
  refine lv_iconst (v := 5) hx hb eX0_init_16 (by decide) ?_
  refine va_newa (atype := .long) (ty := .long) (N' := 5) (a0 := (5, .inr (.inl (fun _ => 0)))) hx hb (hts _ (okT_mem (t := 161) (by decide +kernel))) rfl hK hP hD hS hA (fun _ => rfl) (by decide) (by decide) (Nat.le_of_ble_eq_true rfl) (Nat.le_of_ble_eq_true rfl) (Nat.le_of_ble_eq_true rfl) eX0_init_17 (fun q5 c6 H hK hP hD hS => ?_)
  have hP : va_P (dC, dI) vwCl [(q0, .inr (0, [.ref q1, .null, .int 0])), (q1, .inl (c3, 5, .inr (.inr (.inr (.inr (fun i => if i < 5 then some (r2 i) else none)))))), ((r2 0), .inl (c4, 6, .inr (.inl (fun _ => 0)))), ((r2 1), .inl (c4, 6, .inr (.inl (fun _ => 0)))), ((r2 2), .inl (c4, 6, .inr (.inl (fun _ => 0)))), ((r2 3), .inl (c4, 6, .inr (.inl (fun _ => 0)))), ((r2 4), .inl (c4, 6, .inr (.inl (fun _ => 0)))), (q5, .inl (c6, 5, .inr (.inl (fun _ => 0))))] H := hP
  have hD : va_D A [(q0, .inr (0, [.ref q1, .null, .int 0])), (q1, .inl (c3, 5, .inr (.inr (.inr (.inr (fun i => if i < 5 then some (r2 i) else none)))))), ((r2 0), .inl (c4, 6, .inr (.inl (fun _ => 0)))), ((r2 1), .inl (c4, 6, .inr (.inl (fun _ => 0)))), ((r2 2), .inl (c4, 6, .inr (.inl (fun _ => 0)))), ((r2 3), .inl (c4, 6, .inr (.inl (fun _ => 0)))), ((r2 4), .inl (c4, 6, .inr (.inl (fun _ => 0)))), (q5, .inl (c6, 5, .inr (.inl (fun _ => 0))))] := hD
  have hK : va_K (dC, dI) vwCl [(c4, .long), (c3, .array .long), (c6, .long)] s := hK
  refine W.widen (k := 7) (n := 40) (by omega) (by omega) ?_
  refine va_putF (D := (dC, dI)) (ci := 0) (v := .ref q5) (ty := tyX0 1) (C := RX0) (T := TX0) (N := 3) hx hb hts clw0 tyX0 tyX0_ok nmX0 hown hK hP hD hS 0 rfl rfl 1 (by decide) (hts _ (okT_mem (t := 152) (by decide +kernel))) (fun _ h9 => h9) rfl hin rfl (tyX0_ok 1 (by decide)) rfl rfl (Nat.le_of_ble_eq_true rfl) eX0_init_19 (fun H locs hP hD hS => ?_)
  have hP : va_P (dC, dI) vwCl [(q0, .inr (0, [.ref q1, .ref q5, .int 0])), (q1, .inl (c3, 5, .inr (.inr (.inr (.inr (fun i => if i < 5 then some (r2 i) else none)))))), ((r2 0), .inl (c4, 6, .inr (.inl (fun _ => 0)))), ((r2 1), .inl (c4, 6, .inr (.inl (fun _ => 0)))), ((r2 2), .inl (c4, 6, .inr (.inl (fun _ => 0)))), ((r2 3), .inl (c4, 6, .inr (.inl (fun _ => 0)))), ((r2 4), .inl (c4, 6, .inr (.inl (fun _ => 0)))), (q5, .inl (c6, 5, .inr (.inl (fun _ => 0))))] H := hP
  have hD : va_D A [(q0, .inr (0, [.ref q1, .ref q5, .int 0])), (q1, .inl (c3, 5, .inr (.inr (.inr (.inr (fun i => if i < 5 then some (r2 i) else none)))))), ((r2 0), .inl (c4, 6, .inr (.inl (fun _ => 0)))), ((r2 1), .inl (c4, 6, .inr (.inl (fun _ => 0)))), ((r2 2), .inl (c4, 6, .inr (.inl (fun _ => 0)))), ((r2 3), .inl (c4, 6, .inr (.inl (fun _ => 0)))), ((r2 4), .inl (c4, 6, .inr (.inl (fun _ => 0)))), (q5, .inl (c6, 5, .inr (.inl (fun _ => 0))))] := hD
  have er1 : (fun i => if i < 5 then some (r2 i) else none) = rowq (gq [q0, q1, (r2 0), (r2 1), (r2 2), (r2 3), (r2 4), q5]) 2 := rowq_of (fun i hi => by rcases lt5 hi with h9 | h9 | h9 | h9 | h9 <;> subst h9 <;> rfl)
  rw [er1] at hP hD
  have hP : va_P (dC, dI) vwCl (wlX0 (gq [q0, q1, (r2 0), (r2 1), (r2 2), (r2 3), (r2 4), q5]) (gq [0, c3, c4, c4, c4, c4, c4, c6])) H := hP
  have hD : va_D A (wlX0 (gq [q0, q1, (r2 0), (r2 1), (r2 2), (r2 3), (r2 4), q5]) (gq [0, c3, c4, c4, c4, c4, c4, c6])) := hD
  have hK : va_K (dC, dI) vwCl (tyl0 (gq [0, c3, c4, c4, c4, c4, c4, c6])) s := hK.sub (tys' := tyl0 (gq [0, c3, c4, c4, c4, c4, c4, c6])) [1, 0, 0, 0, 0, 0, 2] rfl
  refine W.widen (k := 7) (n := 40) (by omega) (by omega) ?_
  exact W.vret hx hb hr (fun t ht hW => ⟨⟨((gq [q0, q1, (r2 0), (r2 1), (r2 2), (r2 3), (r2 4), q5]), (gq [0, c3, c4, c4, c4, c4, c4, c6])), rfl, rfl, by rw [ht]; exact hP, va_K.moved hW.alike hK, hD⟩, hS.F ht⟩) hS.2.2 eX0_init_22
theorem eX1_init_0 : decode cX1_init 0 = .ok (.aload_n 0, 1) := by decide +kernel
theorem eX1_init_1 : decode cX1_init 1 = .ok (.invokespecial 3, 3) := by decide +kernel
theorem eX1_init_4 : decode cX1_init 4 = .ok (.aload_n 0, 1) := by decide +kernel
theorem eX1_init_5 : decode cX1_init 5 = .ok (.iconst 5, 1) := by decide +kernel
theorem eX1_init_6 : decode cX1_init 6 = .ok (.iconst 5, 1) := by decide +kernel
theorem eX1_init_7 : decode cX1_init 7 = .ok (.multianewarray 9 2, 4) := by decide +kernel
theorem eX1_init_11 : decode cX1_init 11 = .ok (.putfield 11, 3) := by decide +kernel
theorem eX1_init_14 : decode cX1_init 14 = .ok (.aload_n 0, 1) := by decide +kernel
theorem eX1_init_15 : decode cX1_init 15 = .ok (.iconst 5, 1) := by decide +kernel
theorem eX1_init_16 : decode cX1_init 16 = .ok (.newarray .int, 2) := by decide +kernel
theorem eX1_init_18 : decode cX1_init 18 = .ok (.putfield 16, 3) := by decide +kernel
theorem eX1_init_21 : decode cX1_init 21 = .ok (.aload_n 0, 1) := by decide +kernel
theorem eX1_init_22 : decode cX1_init 22 = .ok (.iconst 5, 1) := by decide +kernel
theorem eX1_init_23 : decode cX1_init 23 = .ok (.newarray .int, 2) := by decide +kernel
theorem eX1_init_25 : decode cX1_init 25 = .ok (.putfield 20, 3) := by decide +kernel
theorem eX1_init_28 : decode cX1_init 28 = .ok (.aload_n 0, 1) := by decide +kernel
theorem eX1_init_29 : decode cX1_init 29 = .ok (.iconst 5, 1) := by decide +kernel
theorem eX1_init_30 : decode cX1_init 30 = .ok (.newarray .int, 2) := by decide +kernel
theorem eX1_init_32 : decode cX1_init 32 = .ok (.putfield 23, 3) := by decide +kernel
theorem eX1_init_35 : decode cX1_init 35 = .ok (.aload_n 0, 1) := by decide +kernel
theorem eX1_init_36 : decode cX1_init 36 = .ok (.iconst 5, 1) := by decide +kernel
theorem eX1_init_37 : decode cX1_init 37 = .ok (.newarray .int, 2) := by decide +kernel
theorem eX1_init_39 : decode cX1_init 39 = .ok (.putfield 26, 3) := by decide +kernel
theorem eX1_init_42 : decode cX1_init 42 = .ok (.return_, 1) := by decide +kernel
def wlX1 (q : Nat → Nat) (c : Nat → ClassId) : va_W := [(q 0, .inr (1, [.ref (q 1), .ref (q 7), .ref (q 8), .ref (q 9), .ref (q 10), .int 0])), (q 1, .inl (c 1, 5, .inr (.inr (.inr (.inr (rowq q 2)))))), (q 2, .inl (c 2, 5, .inl (fun _ => 0))), (q 3, .inl (c 3, 5, .inl (fun _ => 0))), (q 4, .inl (c 4, 5, .inl (fun _ => 0))), (q 5, .inl (c 5, 5, .inl (fun _ => 0))), (q 6, .inl (c 6, 5, .inl (fun _ => 0))), (q 7, .inl (c 7, 5, .inl (fun _ => 0))), (q 8, .inl (c 8, 5, .inl (fun _ => 0))), (q 9, .inl (c 9, 5, .inl (fun _ => 0))), (q 10, .inl (c 10, 5, .inl (fun _ => 0)))]
def tyl1 (c : Nat → ClassId) : List (ClassId × FieldType) := [(c 1, .array .int), (c 2, .int), (c 3, .int), (c 4, .int), (c 5, .int), (c 6, .int), (c 7, .int), (c 8, .int), (c 9, .int), (c 10, .int)]
def atX1 (dC : Nat → ClassId) (dI : Nat → Nat → Nat) (A : Nat → Prop) (u : (Nat → Nat) × (Nat → ClassId)) (t : State) : Prop := va_P (dC, dI) vwCl (wlX1 u.1 u.2) t.heap ∧ va_K (dC, dI) vwCl (tyl1 u.2) t ∧ va_D A (wlX1 u.1 u.2)
set_option maxHeartbeats 16000000 in
set_option maxRecDepth 100000 in
theorem kX1_init (l : Launch) (dC : Nat → ClassId) (dI : Nat → Nat → Nat) (q0 : Nat) (sz : Nat) : Met l yX1_init (.code yX1_init cX1_init 1 none :: tbG) { frames := 1, cells := 10, slots := 50, locals := 24 } (va_Pc [.ref q0] (fun U => U.heap.size = sz ∧ va_P (dC, dI) vwCl [(q0, .inr (1, [.null, .null, .null, .null, .null, .int 0]))] U.heap ∧ va_K (dC, dI) vwCl [] U ∧ va_D (fun _ => True) [(q0, .inr (1, [.null, .null, .null, .null, .null, .int 0]))] ∧ NZ U)) (va_Qv (fun u : (Nat → Nat) × (Nat → ClassId) => u.1 0 = q0) (atX1 dC dI (va_A [(q0, .inr (1, [.null, .null, .null, .null, .null, .int 0]))] sz)) (va_A [(q0, .inr (1, [.null, .null, .null, .null, .null, .int 0]))] sz)) 10 50 (va_A [(q0, .inr (1, [.null, .null, .null, .null, .null, .int 0]))] sz) := by
  refine Met.ofW (cc := cX1_init) (maxL := 1) (ret := none) (by decide) rfl ?_
  intro p e s m args below meth c s₁ B hml hv
  obtain ⟨rfl, hsz, hP, hK, hD0, hN⟩ := hv
  have hx := B.exec
  have hb := B.bytes
  have hr := B.returns
  have hts0 := atoms_spec (ws := .code yX1_init cX1_init 1 none :: tbG) B.pre
  have hts : ∀ w ∈ tbG, w.before ([Value.ref q0] : List Value).toArray s = true := fun w hw => hts0 w (List.mem_cons_of_mem _ hw)
  have hown : s.vm.findClass RX1 = some m.cls := findClass_of_methodNamed B.named
  have hlocks := B.notSynchronized
  have hin : meth.name = "<init>" := (name_of_methodNamed B.named B.method).1
  subst hsz
  have hD := hD0.self (sz := s.heap.size)
  generalize hAe : va_A [(q0, .inr (1, [.null, .null, .null, .null, .null, .int 0]))] s.heap.size = A at hD ⊢
  have hA : ∀ q : Nat, s.heap.size ≤ q → A q := fun q h => by rw [← hAe]; exact Or.inr h
  have hS : va_S A s.heap s.heap [] := va_S.rf
  have hl := lv_entry ([.ref q0]) (n := 1) (Nat.le_of_ble_eq_true rfl)
  rw [lg_entry_eq]
  generalize (lg_sl ([.ref q0]) ++ List.replicate (1 - (lg_sl ([.ref q0])).length) Slot.unset).toArray = ls at hl ⊢
  have hl : lv_has ls 1 [(0, .ref q0)] := hl
  refine lv_aload_n hx hb eX1_init_0 rfl (lv_at hl 0 rfl) ?_
  refine W.objInit hx hb hown (hts _ (okT_mem (t := 169) (by decide +kernel))) (hts _ (okT_mem (t := 70) (by decide +kernel))) (hts _ (okT_mem (t := 71) (by decide +kernel))) rfl (by rw [hml]; exact hl.1) rfl eX1_init_1 (Nat.le_of_ble_eq_true rfl) (Nat.le_of_ble_eq_true rfl) ?_
  refine W.eq (g2 := F0 m 4 ls []) rfl ?_
  refine lv_aload_n hx hb eX1_init_4 rfl (lv_at hl 0 rfl) ?_
  refine lv_iconst (v := 5) hx hb eX1_init_5 (by decide) ?_
  refine lv_iconst (v := 5) hx hb eX1_init_6 (by decide) ?_
  obtain ⟨c4, hcy, hA1, hA2⟩ := arrc_int (hts _ (okT_mem (t := 105) (by decide +kernel)))
  have hK := hK.add hA1 hA2
  refine va_mna (X := [(q0, .inr (1, [.null, .null, .null, .null, .null, .int 0]))]) (L := []) (f := fun _ => .inr (0, [])) (ty := .int) (cy := c4) (N' := 5) (K' := 5) (z := (5, .inl (fun _ => 0))) hx hb hown (hts _ (okT_mem (t := 170) (by decide +kernel))) (hN.2.2.2.2.2.2.2.2.1) (hts _ (okT_mem (t := 105) (by decide +kernel))) hcy hK hP hD hS hA (by decide) (by decide) (by decide) (by decide) (Nat.le_of_ble_eq_true rfl) (Nat.le_of_ble_eq_true rfl) (Nat.le_of_ble_eq_true rfl) rfl rfl (Nat.le_of_ble_eq_true rfl) (Nat.le_of_ble_eq_true rfl) (inr_int 5) eX1_init_7 (fun q1 r2 c3 H hi1 hi2 hK hP hD hS => ?_)
  rw [mna5] at hP hD
  have hP : va_P (dC, dI) vwCl [(q0, .inr (1, [.null, .null, .null, .null, .null, .int 0])), (q1, .inl (c3, 5, .inr (.inr (.inr (.inr (fun i => if i < 5 then some (r2 i) else none)))))), ((r2 0), .inl (c4, 5, .inl (fun _ => 0))), ((r2 1), .inl (c4, 5, .inl (fun _ => 0))), ((r2 2), .inl (c4, 5, .inl (fun _ => 0))), ((r2 3), .inl (c4, 5, .inl (fun _ => 0))), ((r2 4), .inl (c4, 5, .inl (fun _ => 0)))] H := hP
  have hD : va_D A [(q0, .inr (1, [.null, .null, .null, .null, .null, .int 0])), (q1, .inl (c3, 5, .inr (.inr (.inr (.inr (fun i => if i < 5 then some (r2 i) else none)))))), ((r2 0), .inl (c4, 5, .inl (fun _ => 0))), ((r2 1), .inl (c4, 5, .inl (fun _ => 0))), ((r2 2), .inl (c4, 5, .inl (fun _ => 0))), ((r2 3), .inl (c4, 5, .inl (fun _ => 0))), ((r2 4), .inl (c4, 5, .inl (fun _ => 0)))] := hD
  have hK : va_K (dC, dI) vwCl [(c4, .int), (c3, .array .int)] s := hK
  refine W.widen (k := 6) (n := 30) (by omega) (by omega) ?_
  refine va_putF (D := (dC, dI)) (ci := 1) (v := .ref q1) (ty := tyX1 0) (C := RX1) (T := TX1) (N := 6) hx hb hts clw1 tyX1 tyX1_ok nmX1 hown hK hP hD hS 0 rfl rfl 0 (by decide) (hts _ (okT_mem (t := 172) (by decide +kernel))) (fun _ h9 => h9) rfl hin rfl (tyX1_ok 0 (by decide)) rfl rfl (Nat.le_of_ble_eq_true rfl) eX1_init_11 (fun H locs hP hD hS => ?_)
  have hP : va_P (dC, dI) vwCl [(q0, .inr (1, [.ref q1, .null, .null, .null, .null, .int 0])), (q1, .inl (c3, 5, .inr (.inr (.inr (.inr (fun i => if i < 5 then some (r2 i) else none)))))), ((r2 0), .inl (c4, 5, .inl (fun _ => 0))), ((r2 1), .inl (c4, 5, .inl (fun _ => 0))), ((r2 2), .inl (c4, 5, .inl (fun _ => 0))), ((r2 3), .inl (c4, 5, .inl (fun _ => 0))), ((r2 4), .inl (c4, 5, .inl (fun _ => 0)))] H := hP
  have hD : va_D A [(q0, .inr (1, [.ref q1, .null, .null, .null, .null, .int 0])), (q1, .inl (c3, 5, .inr (.inr (.inr (.inr (fun i => if i < 5 then some (r2 i) else none)))))), ((r2 0), .inl (c4, 5, .inl (fun _ => 0))), ((r2 1), .inl (c4, 5, .inl (fun _ => 0))), ((r2 2), .inl (c4, 5, .inl (fun _ => 0))), ((r2 3), .inl (c4, 5, .inl (fun _ => 0))), ((r2 4), .inl (c4, 5, .inl (fun _ => 0)))] := hD
  refine lv_aload_n hx hb eX1_init_14 rfl (lv_at hl 0 rfl) ?_
  refine lv_iconst (v := 5) hx hb eX1_init_15 (by decide) ?_
  refine va_newa (atype := .int) (ty := .int) (N' := 5) (a0 := (5, .inl (fun _ => 0))) hx hb (hts _ (okT_mem (t := 105) (by decide +kernel))) rfl hK hP hD hS hA (fun _ => rfl) (by decide) (by decide) (Nat.le_of_ble_eq_true rfl) (Nat.le_of_ble_eq_true rfl) (Nat.le_of_ble_eq_true rfl) eX1_init_16 (fun q5 c6 H hK hP hD hS => ?_)
  have hP : va_P (dC, dI) vwCl [(q0, .inr (1, [.ref q1, .null, .null, .null, .null, .int 0])), (q1, .inl (c3, 5, .inr (.inr (.inr (.inr (fun i => if i < 5 then some (r2 i) else none)))))), ((r2 0), .inl (c4, 5, .inl (fun _ => 0))), ((r2 1), .inl (c4, 5, .inl (fun _ => 0))), ((r2 2), .inl (c4, 5, .inl (fun _ => 0))), ((r2 3), .inl (c4, 5, .inl (fun _ => 0))), ((r2 4), .inl (c4, 5, .inl (fun _ => 0))), (q5, .inl (c6, 5, .inl (fun _ => 0)))] H := hP
  have hD : va_D A [(q0, .inr (1, [.ref q1, .null, .null, .null, .null, .int 0])), (q1, .inl (c3, 5, .inr (.inr (.inr (.inr (fun i => if i < 5 then some (r2 i) else none)))))), ((r2 0), .inl (c4, 5, .inl (fun _ => 0))), ((r2 1), .inl (c4, 5, .inl (fun _ => 0))), ((r2 2), .inl (c4, 5, .inl (fun _ => 0))), ((r2 3), .inl (c4, 5, .inl (fun _ => 0))), ((r2 4), .inl (c4, 5, .inl (fun _ => 0))), (q5, .inl (c6, 5, .inl (fun _ => 0)))] := hD
  have hK : va_K (dC, dI) vwCl [(c4, .int), (c3, .array .int), (c6, .int)] s := hK
  refine W.widen (k := 7) (n := 35) (by omega) (by omega) ?_
  refine va_putF (D := (dC, dI)) (ci := 1) (v := .ref q5) (ty := tyX1 1) (C := RX1) (T := TX1) (N := 6) hx hb hts clw1 tyX1 tyX1_ok nmX1 hown hK hP hD hS 0 rfl rfl 1 (by decide) (hts _ (okT_mem (t := 177) (by decide +kernel))) (fun _ h9 => h9) rfl hin rfl (tyX1_ok 1 (by decide)) rfl rfl (Nat.le_of_ble_eq_true rfl) eX1_init_18 (fun H locs hP hD hS => ?_)
  have hP : va_P (dC, dI) vwCl [(q0, .inr (1, [.ref q1, .ref q5, .null, .null, .null, .int 0])), (q1, .inl (c3, 5, .inr (.inr (.inr (.inr (fun i => if i < 5 then some (r2 i) else none)))))), ((r2 0), .inl (c4, 5, .inl (fun _ => 0))), ((r2 1), .inl (c4, 5, .inl (fun _ => 0))), ((r2 2), .inl (c4, 5, .inl (fun _ => 0))), ((r2 3), .inl (c4, 5, .inl (fun _ => 0))), ((r2 4), .inl (c4, 5, .inl (fun _ => 0))), (q5, .inl (c6, 5, .inl (fun _ => 0)))] H := hP
  have hD : va_D A [(q0, .inr (1, [.ref q1, .ref q5, .null, .null, .null, .int 0])), (q1, .inl (c3, 5, .inr (.inr (.inr (.inr (fun i => if i < 5 then some (r2 i) else none)))))), ((r2 0), .inl (c4, 5, .inl (fun _ => 0))), ((r2 1), .inl (c4, 5, .inl (fun _ => 0))), ((r2 2), .inl (c4, 5, .inl (fun _ => 0))), ((r2 3), .inl (c4, 5, .inl (fun _ => 0))), ((r2 4), .inl (c4, 5, .inl (fun _ => 0))), (q5, .inl (c6, 5, .inl (fun _ => 0)))] := hD
  refine lv_aload_n hx hb eX1_init_21 rfl (lv_at hl 0 rfl) ?_
  refine lv_iconst (v := 5) hx hb eX1_init_22 (by decide) ?_
  refine va_newa (atype := .int) (ty := .int) (N' := 5) (a0 := (5, .inl (fun _ => 0))) hx hb (hts _ (okT_mem (t := 105) (by decide +kernel))) rfl hK hP hD hS hA (fun _ => rfl) (by decide) (by decide) (Nat.le_of_ble_eq_true rfl) (Nat.le_of_ble_eq_true rfl) (Nat.le_of_ble_eq_true rfl) eX1_init_23 (fun q7 c8 H hK hP hD hS => ?_)
  have hP : va_P (dC, dI) vwCl [(q0, .inr (1, [.ref q1, .ref q5, .null, .null, .null, .int 0])), (q1, .inl (c3, 5, .inr (.inr (.inr (.inr (fun i => if i < 5 then some (r2 i) else none)))))), ((r2 0), .inl (c4, 5, .inl (fun _ => 0))), ((r2 1), .inl (c4, 5, .inl (fun _ => 0))), ((r2 2), .inl (c4, 5, .inl (fun _ => 0))), ((r2 3), .inl (c4, 5, .inl (fun _ => 0))), ((r2 4), .inl (c4, 5, .inl (fun _ => 0))), (q5, .inl (c6, 5, .inl (fun _ => 0))), (q7, .inl (c8, 5, .inl (fun _ => 0)))] H := hP
  have hD : va_D A [(q0, .inr (1, [.ref q1, .ref q5, .null, .null, .null, .int 0])), (q1, .inl (c3, 5, .inr (.inr (.inr (.inr (fun i => if i < 5 then some (r2 i) else none)))))), ((r2 0), .inl (c4, 5, .inl (fun _ => 0))), ((r2 1), .inl (c4, 5, .inl (fun _ => 0))), ((r2 2), .inl (c4, 5, .inl (fun _ => 0))), ((r2 3), .inl (c4, 5, .inl (fun _ => 0))), ((r2 4), .inl (c4, 5, .inl (fun _ => 0))), (q5, .inl (c6, 5, .inl (fun _ => 0))), (q7, .inl (c8, 5, .inl (fun _ => 0)))] := hD
  have hK : va_K (dC, dI) vwCl [(c4, .int), (c3, .array .int), (c6, .int), (c8, .int)] s := hK
  refine W.widen (k := 8) (n := 40) (by omega) (by omega) ?_
  refine va_putF (D := (dC, dI)) (ci := 1) (v := .ref q7) (ty := tyX1 2) (C := RX1) (T := TX1) (N := 6) hx hb hts clw1 tyX1 tyX1_ok nmX1 hown hK hP hD hS 0 rfl rfl 2 (by decide) (hts _ (okT_mem (t := 181) (by decide +kernel))) (fun _ h9 => h9) rfl hin rfl (tyX1_ok 2 (by decide)) rfl rfl (Nat.le_of_ble_eq_true rfl) eX1_init_25 (fun H locs hP hD hS => ?_)
  have hP : va_P (dC, dI) vwCl [(q0, .inr (1, [.ref q1, .ref q5, .ref q7, .null, .null, .int 0])), (q1, .inl (c3, 5, .inr (.inr (.inr (.inr (fun i => if i < 5 then some (r2 i) else none)))))), ((r2 0), .inl (c4, 5, .inl (fun _ => 0))), ((r2 1), .inl (c4, 5, .inl (fun _ => 0))), ((r2 2), .inl (c4, 5, .inl (fun _ => 0))), ((r2 3), .inl (c4, 5, .inl (fun _ => 0))), ((r2 4), .inl (c4, 5, .inl (fun _ => 0))), (q5, .inl (c6, 5, .inl (fun _ => 0))), (q7, .inl (c8, 5, .inl (fun _ => 0)))] H := hP
  have hD : va_D A [(q0, .inr (1, [.ref q1, .ref q5, .ref q7, .null, .null, .int 0])), (q1, .inl (c3, 5, .inr (.inr (.inr (.inr (fun i => if i < 5 then some (r2 i) else none)))))), ((r2 0), .inl (c4, 5, .inl (fun _ => 0))), ((r2 1), .inl (c4, 5, .inl (fun _ => 0))), ((r2 2), .inl (c4, 5, .inl (fun _ => 0))), ((r2 3), .inl (c4, 5, .inl (fun _ => 0))), ((r2 4), .inl (c4, 5, .inl (fun _ => 0))), (q5, .inl (c6, 5, .inl (fun _ => 0))), (q7, .inl (c8, 5, .inl (fun _ => 0)))] := hD
  refine lv_aload_n hx hb eX1_init_28 rfl (lv_at hl 0 rfl) ?_
  refine lv_iconst (v := 5) hx hb eX1_init_29 (by decide) ?_
  refine va_newa (atype := .int) (ty := .int) (N' := 5) (a0 := (5, .inl (fun _ => 0))) hx hb (hts _ (okT_mem (t := 105) (by decide +kernel))) rfl hK hP hD hS hA (fun _ => rfl) (by decide) (by decide) (Nat.le_of_ble_eq_true rfl) (Nat.le_of_ble_eq_true rfl) (Nat.le_of_ble_eq_true rfl) eX1_init_30 (fun q9 c10 H hK hP hD hS => ?_)
  have hP : va_P (dC, dI) vwCl [(q0, .inr (1, [.ref q1, .ref q5, .ref q7, .null, .null, .int 0])), (q1, .inl (c3, 5, .inr (.inr (.inr (.inr (fun i => if i < 5 then some (r2 i) else none)))))), ((r2 0), .inl (c4, 5, .inl (fun _ => 0))), ((r2 1), .inl (c4, 5, .inl (fun _ => 0))), ((r2 2), .inl (c4, 5, .inl (fun _ => 0))), ((r2 3), .inl (c4, 5, .inl (fun _ => 0))), ((r2 4), .inl (c4, 5, .inl (fun _ => 0))), (q5, .inl (c6, 5, .inl (fun _ => 0))), (q7, .inl (c8, 5, .inl (fun _ => 0))), (q9, .inl (c10, 5, .inl (fun _ => 0)))] H := hP
  have hD : va_D A [(q0, .inr (1, [.ref q1, .ref q5, .ref q7, .null, .null, .int 0])), (q1, .inl (c3, 5, .inr (.inr (.inr (.inr (fun i => if i < 5 then some (r2 i) else none)))))), ((r2 0), .inl (c4, 5, .inl (fun _ => 0))), ((r2 1), .inl (c4, 5, .inl (fun _ => 0))), ((r2 2), .inl (c4, 5, .inl (fun _ => 0))), ((r2 3), .inl (c4, 5, .inl (fun _ => 0))), ((r2 4), .inl (c4, 5, .inl (fun _ => 0))), (q5, .inl (c6, 5, .inl (fun _ => 0))), (q7, .inl (c8, 5, .inl (fun _ => 0))), (q9, .inl (c10, 5, .inl (fun _ => 0)))] := hD
  have hK : va_K (dC, dI) vwCl [(c4, .int), (c3, .array .int), (c6, .int), (c8, .int), (c10, .int)] s := hK
  refine W.widen (k := 9) (n := 45) (by omega) (by omega) ?_
  refine va_putF (D := (dC, dI)) (ci := 1) (v := .ref q9) (ty := tyX1 3) (C := RX1) (T := TX1) (N := 6) hx hb hts clw1 tyX1 tyX1_ok nmX1 hown hK hP hD hS 0 rfl rfl 3 (by decide) (hts _ (okT_mem (t := 184) (by decide +kernel))) (fun _ h9 => h9) rfl hin rfl (tyX1_ok 3 (by decide)) rfl rfl (Nat.le_of_ble_eq_true rfl) eX1_init_32 (fun H locs hP hD hS => ?_)
  have hP : va_P (dC, dI) vwCl [(q0, .inr (1, [.ref q1, .ref q5, .ref q7, .ref q9, .null, .int 0])), (q1, .inl (c3, 5, .inr (.inr (.inr (.inr (fun i => if i < 5 then some (r2 i) else none)))))), ((r2 0), .inl (c4, 5, .inl (fun _ => 0))), ((r2 1), .inl (c4, 5, .inl (fun _ => 0))), ((r2 2), .inl (c4, 5, .inl (fun _ => 0))), ((r2 3), .inl (c4, 5, .inl (fun _ => 0))), ((r2 4), .inl (c4, 5, .inl (fun _ => 0))), (q5, .inl (c6, 5, .inl (fun _ => 0))), (q7, .inl (c8, 5, .inl (fun _ => 0))), (q9, .inl (c10, 5, .inl (fun _ => 0)))] H := hP
  have hD : va_D A [(q0, .inr (1, [.ref q1, .ref q5, .ref q7, .ref q9, .null, .int 0])), (q1, .inl (c3, 5, .inr (.inr (.inr (.inr (fun i => if i < 5 then some (r2 i) else none)))))), ((r2 0), .inl (c4, 5, .inl (fun _ => 0))), ((r2 1), .inl (c4, 5, .inl (fun _ => 0))), ((r2 2), .inl (c4, 5, .inl (fun _ => 0))), ((r2 3), .inl (c4, 5, .inl (fun _ => 0))), ((r2 4), .inl (c4, 5, .inl (fun _ => 0))), (q5, .inl (c6, 5, .inl (fun _ => 0))), (q7, .inl (c8, 5, .inl (fun _ => 0))), (q9, .inl (c10, 5, .inl (fun _ => 0)))] := hD
  refine lv_aload_n hx hb eX1_init_35 rfl (lv_at hl 0 rfl) ?_
  refine lv_iconst (v := 5) hx hb eX1_init_36 (by decide) ?_
  refine va_newa (atype := .int) (ty := .int) (N' := 5) (a0 := (5, .inl (fun _ => 0))) hx hb (hts _ (okT_mem (t := 105) (by decide +kernel))) rfl hK hP hD hS hA (fun _ => rfl) (by decide) (by decide) (Nat.le_of_ble_eq_true rfl) (Nat.le_of_ble_eq_true rfl) (Nat.le_of_ble_eq_true rfl) eX1_init_37 (fun q11 c12 H hK hP hD hS => ?_)
  have hP : va_P (dC, dI) vwCl [(q0, .inr (1, [.ref q1, .ref q5, .ref q7, .ref q9, .null, .int 0])), (q1, .inl (c3, 5, .inr (.inr (.inr (.inr (fun i => if i < 5 then some (r2 i) else none)))))), ((r2 0), .inl (c4, 5, .inl (fun _ => 0))), ((r2 1), .inl (c4, 5, .inl (fun _ => 0))), ((r2 2), .inl (c4, 5, .inl (fun _ => 0))), ((r2 3), .inl (c4, 5, .inl (fun _ => 0))), ((r2 4), .inl (c4, 5, .inl (fun _ => 0))), (q5, .inl (c6, 5, .inl (fun _ => 0))), (q7, .inl (c8, 5, .inl (fun _ => 0))), (q9, .inl (c10, 5, .inl (fun _ => 0))), (q11, .inl (c12, 5, .inl (fun _ => 0)))] H := hP
  have hD : va_D A [(q0, .inr (1, [.ref q1, .ref q5, .ref q7, .ref q9, .null, .int 0])), (q1, .inl (c3, 5, .inr (.inr (.inr (.inr (fun i => if i < 5 then some (r2 i) else none)))))), ((r2 0), .inl (c4, 5, .inl (fun _ => 0))), ((r2 1), .inl (c4, 5, .inl (fun _ => 0))), ((r2 2), .inl (c4, 5, .inl (fun _ => 0))), ((r2 3), .inl (c4, 5, .inl (fun _ => 0))), ((r2 4), .inl (c4, 5, .inl (fun _ => 0))), (q5, .inl (c6, 5, .inl (fun _ => 0))), (q7, .inl (c8, 5, .inl (fun _ => 0))), (q9, .inl (c10, 5, .inl (fun _ => 0))), (q11, .inl (c12, 5, .inl (fun _ => 0)))] := hD
  have hK : va_K (dC, dI) vwCl [(c4, .int), (c3, .array .int), (c6, .int), (c8, .int), (c10, .int), (c12, .int)] s := hK
  refine W.widen (k := 10) (n := 50) (by omega) (by omega) ?_
  refine va_putF (D := (dC, dI)) (ci := 1) (v := .ref q11) (ty := tyX1 4) (C := RX1) (T := TX1) (N := 6) hx hb hts clw1 tyX1 tyX1_ok nmX1 hown hK hP hD hS 0 rfl rfl 4 (by decide) (hts _ (okT_mem (t := 188) (by decide +kernel))) (fun _ h9 => h9) rfl hin rfl (tyX1_ok 4 (by decide)) rfl rfl (Nat.le_of_ble_eq_true rfl) eX1_init_39 (fun H locs hP hD hS => ?_)
  have hP : va_P (dC, dI) vwCl [(q0, .inr (1, [.ref q1, .ref q5, .ref q7, .ref q9, .ref q11, .int 0])), (q1, .inl (c3, 5, .inr (.inr (.inr (.inr (fun i => if i < 5 then some (r2 i) else none)))))), ((r2 0), .inl (c4, 5, .inl (fun _ => 0))), ((r2 1), .inl (c4, 5, .inl (fun _ => 0))), ((r2 2), .inl (c4, 5, .inl (fun _ => 0))), ((r2 3), .inl (c4, 5, .inl (fun _ => 0))), ((r2 4), .inl (c4, 5, .inl (fun _ => 0))), (q5, .inl (c6, 5, .inl (fun _ => 0))), (q7, .inl (c8, 5, .inl (fun _ => 0))), (q9, .inl (c10, 5, .inl (fun _ => 0))), (q11, .inl (c12, 5, .inl (fun _ => 0)))] H := hP
  have hD : va_D A [(q0, .inr (1, [.ref q1, .ref q5, .ref q7, .ref q9, .ref q11, .int 0])), (q1, .inl (c3, 5, .inr (.inr (.inr (.inr (fun i => if i < 5 then some (r2 i) else none)))))), ((r2 0), .inl (c4, 5, .inl (fun _ => 0))), ((r2 1), .inl (c4, 5, .inl (fun _ => 0))), ((r2 2), .inl (c4, 5, .inl (fun _ => 0))), ((r2 3), .inl (c4, 5, .inl (fun _ => 0))), ((r2 4), .inl (c4, 5, .inl (fun _ => 0))), (q5, .inl (c6, 5, .inl (fun _ => 0))), (q7, .inl (c8, 5, .inl (fun _ => 0))), (q9, .inl (c10, 5, .inl (fun _ => 0))), (q11, .inl (c12, 5, .inl (fun _ => 0)))] := hD
  have er1 : (fun i => if i < 5 then some (r2 i) else none) = rowq (gq [q0, q1, (r2 0), (r2 1), (r2 2), (r2 3), (r2 4), q5, q7, q9, q11]) 2 := rowq_of (fun i hi => by rcases lt5 hi with h9 | h9 | h9 | h9 | h9 <;> subst h9 <;> rfl)
  rw [er1] at hP hD
  have hP : va_P (dC, dI) vwCl (wlX1 (gq [q0, q1, (r2 0), (r2 1), (r2 2), (r2 3), (r2 4), q5, q7, q9, q11]) (gq [0, c3, c4, c4, c4, c4, c4, c6, c8, c10, c12])) H := hP
  have hD : va_D A (wlX1 (gq [q0, q1, (r2 0), (r2 1), (r2 2), (r2 3), (r2 4), q5, q7, q9, q11]) (gq [0, c3, c4, c4, c4, c4, c4, c6, c8, c10, c12])) := hD
  have hK : va_K (dC, dI) vwCl (tyl1 (gq [0, c3, c4, c4, c4, c4, c4, c6, c8, c10, c12])) s := hK.sub (tys' := tyl1 (gq [0, c3, c4, c4, c4, c4, c4, c6, c8, c10, c12])) [1, 0, 0, 0, 0, 0, 2, 3, 4, 5] rfl
  refine W.widen (k := 10) (n := 50) (by omega) (by omega) ?_
  exact W.vret hx hb hr (fun t ht hW => ⟨⟨((gq [q0, q1, (r2 0), (r2 1), (r2 2), (r2 3), (r2 4), q5, q7, q9, q11]), (gq [0, c3, c4, c4, c4, c4, c4, c6, c8, c10, c12])), rfl, rfl, by rw [ht]; exact hP, va_K.moved hW.alike hK, hD⟩, hS.F ht⟩) hS.2.2 eX1_init_42
theorem eX3_init_0 : decode cX3_init 0 = .ok (.aload_n 0, 1) := by decide +kernel
theorem eX3_init_1 : decode cX3_init 1 = .ok (.invokespecial 3, 3) := by decide +kernel
theorem eX3_init_4 : decode cX3_init 4 = .ok (.aload_n 0, 1) := by decide +kernel
theorem eX3_init_5 : decode cX3_init 5 = .ok (.bipush 8, 2) := by decide +kernel
theorem eX3_init_7 : decode cX3_init 7 = .ok (.newarray .int, 2) := by decide +kernel
theorem eX3_init_9 : decode cX3_init 9 = .ok (.putfield 9, 3) := by decide +kernel
theorem eX3_init_12 : decode cX3_init 12 = .ok (.aload_n 0, 1) := by decide +kernel
theorem eX3_init_13 : decode cX3_init 13 = .ok (.bipush 8, 2) := by decide +kernel
theorem eX3_init_15 : decode cX3_init 15 = .ok (.newarray .int, 2) := by decide +kernel
theorem eX3_init_17 : decode cX3_init 17 = .ok (.putfield 15, 3) := by decide +kernel
theorem eX3_init_20 : decode cX3_init 20 = .ok (.aload_n 0, 1) := by decide +kernel
theorem eX3_init_21 : decode cX3_init 21 = .ok (.new 18, 3) := by decide +kernel
theorem eX3_init_24 : decode cX3_init 24 = .ok (.dup, 1) := by decide +kernel
theorem eX3_init_25 : decode cX3_init 25 = .ok (.invokespecial 20, 3) := by decide +kernel
theorem eX3_init_28 : decode cX3_init 28 = .ok (.putfield 21, 3) := by decide +kernel
theorem eX3_init_31 : decode cX3_init 31 = .ok (.aload_n 0, 1) := by decide +kernel
theorem eX3_init_32 : decode cX3_init 32 = .ok (.new 18, 3) := by decide +kernel
theorem eX3_init_35 : decode cX3_init 35 = .ok (.dup, 1) := by decide +kernel
theorem eX3_init_36 : decode cX3_init 36 = .ok (.invokespecial 20, 3) := by decide +kernel
theorem eX3_init_39 : decode cX3_init 39 = .ok (.putfield 25, 3) := by decide +kernel
theorem eX3_init_42 : decode cX3_init 42 = .ok (.return_, 1) := by decide +kernel
def wlX3 (q : Nat → Nat) (c : Nat → ClassId) : va_W := [(q 0, .inr (3, [.ref (q 1), .ref (q 2), .ref (q 3), .ref (q 6), .int 0])), (q 1, .inl (c 1, 8, .inl (fun _ => 0))), (q 2, .inl (c 2, 8, .inl (fun _ => 0))), (q 3, .inr (2, [.ref (q 4), .ref (q 5), .int 0, .int 0])), (q 4, .inl (c 4, 5, .inl (fun _ => 0))), (q 5, .inl (c 5, 5, .inl (fun _ => 0))), (q 6, .inr (2, [.ref (q 7), .ref (q 8), .int 0, .int 0])), (q 7, .inl (c 7, 5, .inl (fun _ => 0))), (q 8, .inl (c 8, 5, .inl (fun _ => 0)))]
def tyl3 (c : Nat → ClassId) : List (ClassId × FieldType) := [(c 1, .int), (c 2, .int), (c 4, .int), (c 5, .int), (c 7, .int), (c 8, .int)]
def atX3 (dC : Nat → ClassId) (dI : Nat → Nat → Nat) (A : Nat → Prop) (u : (Nat → Nat) × (Nat → ClassId)) (t : State) : Prop := va_P (dC, dI) vwCl (wlX3 u.1 u.2) t.heap ∧ va_K (dC, dI) vwCl (tyl3 u.2) t ∧ va_D A (wlX3 u.1 u.2)
set_option maxHeartbeats 16000000 in
set_option maxRecDepth 100000 in
theorem kX3_init (l : Launch) (dC : Nat → ClassId) (dI : Nat → Nat → Nat) (q0 : Nat) (sz : Nat) : Met l yX3_init (.code yX3_init cX3_init 1 none :: tbG) { frames := 2, cells := 8, slots := 44, locals := 48 } (va_Pc [.ref q0] (fun U => U.heap.size = sz ∧ va_P (dC, dI) vwCl [(q0, .inr (3, [.null, .null, .null, .null, .int 0]))] U.heap ∧ va_K (dC, dI) vwCl [] U ∧ va_D (fun _ => True) [(q0, .inr (3, [.null, .null, .null, .null, .int 0]))] ∧ NZ U)) (va_Qv (fun u : (Nat → Nat) × (Nat → ClassId) => u.1 0 = q0) (atX3 dC dI (va_A [(q0, .inr (3, [.null, .null, .null, .null, .int 0]))] sz)) (va_A [(q0, .inr (3, [.null, .null, .null, .null, .int 0]))] sz)) 8 44 (va_A [(q0, .inr (3, [.null, .null, .null, .null, .int 0]))] sz) := by
  refine Met.ofW (cc := cX3_init) (maxL := 1) (ret := none) (by decide) rfl ?_
  intro p e s m args below meth c s₁ B hml hv
  obtain ⟨rfl, hsz, hP, hK, hD0, hN⟩ := hv
  have hx := B.exec
  have hb := B.bytes
  have hr := B.returns
  have hts0 := atoms_spec (ws := .code yX3_init cX3_init 1 none :: tbG) B.pre
  have hts : ∀ w ∈ tbG, w.before ([Value.ref q0] : List Value).toArray s = true := fun w hw => hts0 w (List.mem_cons_of_mem _ hw)
  have hown : s.vm.findClass RX3 = some m.cls := findClass_of_methodNamed B.named
  have hlocks := B.notSynchronized
  have hin : meth.name = "<init>" := (name_of_methodNamed B.named B.method).1
  subst hsz
  have hD := hD0.self (sz := s.heap.size)
  generalize hAe : va_A [(q0, .inr (3, [.null, .null, .null, .null, .int 0]))] s.heap.size = A at hD ⊢
  have hA : ∀ q : Nat, s.heap.size ≤ q → A q := fun q h => by rw [← hAe]; exact Or.inr h
  have hS : va_S A s.heap s.heap [] := va_S.rf
  have hl := lv_entry ([.ref q0]) (n := 1) (Nat.le_of_ble_eq_true rfl)
  rw [lg_entry_eq]
  generalize (lg_sl ([.ref q0]) ++ List.replicate (1 - (lg_sl ([.ref q0])).length) Slot.unset).toArray = ls at hl ⊢
  have hl : lv_has ls 1 [(0, .ref q0)] := hl
  refine lv_aload_n hx hb eX3_init_0 rfl (lv_at hl 0 rfl) ?_
  refine W.objInit hx hb hown (hts _ (okT_mem (t := 79) (by decide +kernel))) (hts _ (okT_mem (t := 70) (by decide +kernel))) (hts _ (okT_mem (t := 71) (by decide +kernel))) rfl (by rw [hml]; exact hl.1) rfl eX3_init_1 (Nat.le_of_ble_eq_true rfl) (Nat.le_of_ble_eq_true rfl) ?_
  refine W.eq (g2 := F0 m 4 ls []) rfl ?_
  refine lv_aload_n hx hb eX3_init_4 rfl (lv_at hl 0 rfl) ?_
  refine lv_bipush (v := 8) hx hb eX3_init_5 (by decide) ?_
  refine va_newa (atype := .int) (ty := .int) (N' := 8) (a0 := (8, .inl (fun _ => 0))) hx hb (hts _ (okT_mem (t := 105) (by decide +kernel))) rfl hK hP hD hS hA (fun _ => rfl) (by decide) (by decide) (Nat.le_of_ble_eq_true rfl) (Nat.le_of_ble_eq_true rfl) (Nat.le_of_ble_eq_true rfl) eX3_init_7 (fun q1 c2 H hK hP hD hS => ?_)
  have hP : va_P (dC, dI) vwCl [(q0, .inr (3, [.null, .null, .null, .null, .int 0])), (q1, .inl (c2, 8, .inl (fun _ => 0)))] H := hP
  have hD : va_D A [(q0, .inr (3, [.null, .null, .null, .null, .int 0])), (q1, .inl (c2, 8, .inl (fun _ => 0)))] := hD
  have hK : va_K (dC, dI) vwCl [(c2, .int)] s := hK
  refine W.widen (k := 1) (n := 8) (by omega) (by omega) ?_
  refine va_putF (D := (dC, dI)) (ci := 3) (v := .ref q1) (ty := tyX3 0) (C := RX3) (T := TX3) (N := 5) hx hb hts clw3 tyX3 tyX3_ok nmX3 hown hK hP hD hS 0 rfl rfl 0 (by decide) (hts _ (okT_mem (t := 106) (by decide +kernel))) (fun _ h9 => h9) rfl hin rfl (tyX3_ok 0 (by decide)) rfl rfl (Nat.le_of_ble_eq_true rfl) eX3_init_9 (fun H locs hP hD hS => ?_)
  have hP : va_P (dC, dI) vwCl [(q0, .inr (3, [.ref q1, .null, .null, .null, .int 0])), (q1, .inl (c2, 8, .inl (fun _ => 0)))] H := hP
  have hD : va_D A [(q0, .inr (3, [.ref q1, .null, .null, .null, .int 0])), (q1, .inl (c2, 8, .inl (fun _ => 0)))] := hD
  refine lv_aload_n hx hb eX3_init_12 rfl (lv_at hl 0 rfl) ?_
  refine lv_bipush (v := 8) hx hb eX3_init_13 (by decide) ?_
  refine va_newa (atype := .int) (ty := .int) (N' := 8) (a0 := (8, .inl (fun _ => 0))) hx hb (hts _ (okT_mem (t := 105) (by decide +kernel))) rfl hK hP hD hS hA (fun _ => rfl) (by decide) (by decide) (Nat.le_of_ble_eq_true rfl) (Nat.le_of_ble_eq_true rfl) (Nat.le_of_ble_eq_true rfl) eX3_init_15 (fun q3 c4 H hK hP hD hS => ?_)
  have hP : va_P (dC, dI) vwCl [(q0, .inr (3, [.ref q1, .null, .null, .null, .int 0])), (q1, .inl (c2, 8, .inl (fun _ => 0))), (q3, .inl (c4, 8, .inl (fun _ => 0)))] H := hP
  have hD : va_D A [(q0, .inr (3, [.ref q1, .null, .null, .null, .int 0])), (q1, .inl (c2, 8, .inl (fun _ => 0))), (q3, .inl (c4, 8, .inl (fun _ => 0)))] := hD
  have hK : va_K (dC, dI) vwCl [(c2, .int), (c4, .int)] s := hK
  refine W.widen (k := 2) (n := 16) (by omega) (by omega) ?_
  refine va_putF (D := (dC, dI)) (ci := 3) (v := .ref q3) (ty := tyX3 1) (C := RX3) (T := TX3) (N := 5) hx hb hts clw3 tyX3 tyX3_ok nmX3 hown hK hP hD hS 0 rfl rfl 1 (by decide) (hts _ (okT_mem (t := 107) (by decide +kernel))) (fun _ h9 => h9) rfl hin rfl (tyX3_ok 1 (by decide)) rfl rfl (Nat.le_of_ble_eq_true rfl) eX3_init_17 (fun H locs hP hD hS => ?_)
  have hP : va_P (dC, dI) vwCl [(q0, .inr (3, [.ref q1, .ref q3, .null, .null, .int 0])), (q1, .inl (c2, 8, .inl (fun _ => 0))), (q3, .inl (c4, 8, .inl (fun _ => 0)))] H := hP
  have hD : va_D A [(q0, .inr (3, [.ref q1, .ref q3, .null, .null, .int 0])), (q1, .inl (c2, 8, .inl (fun _ => 0))), (q3, .inl (c4, 8, .inl (fun _ => 0)))] := hD
  refine lv_aload_n hx hb eX3_init_20 rfl (lv_at hl 0 rfl) ?_
  refine va_new (ci := 2) (fs := [.null, .null, .int 0, .int 0]) (C := RX2) (T := TX2) (N := 4) hx hb hts clw2 tyX2 tyX2_ok hown (hts _ (okT_mem (t := 80) (by decide +kernel))) (hts _ (okT_mem (t := 81) (by decide +kernel))) (hts _ (okT_mem (t := 56) (by decide +kernel))) hK hP hD hS hA rfl dfX2 (Nat.le_of_ble_eq_true rfl) (Nat.le_of_ble_eq_true rfl) eX3_init_21 (fun q5 H hP hD hS => ?_)
  have hP : va_P (dC, dI) vwCl [(q0, .inr (3, [.ref q1, .ref q3, .null, .null, .int 0])), (q1, .inl (c2, 8, .inl (fun _ => 0))), (q3, .inl (c4, 8, .inl (fun _ => 0))), (q5, .inr (2, [.null, .null, .int 0, .int 0]))] H := hP
  have hD : va_D A [(q0, .inr (3, [.ref q1, .ref q3, .null, .null, .int 0])), (q1, .inl (c2, 8, .inl (fun _ => 0))), (q3, .inl (c4, 8, .inl (fun _ => 0))), (q5, .inr (2, [.null, .null, .int 0, .int 0]))] := hD
  refine W.widen (k := 3) (n := 20) (by omega) (by omega) ?_
  refine lv_dup hx hb eX3_init_24 rfl ?_
  have hPc := hP.sub (ws' := [(q5, .inr (2, [.null, .null, .int 0, .int 0]))]) [3] rfl
  have hDc := hD.sub (ws' := [(q5, .inr (2, [.null, .null, .int 0, .int 0]))]) [3] (by decide) rfl
  have hKc := hK.sub (tys' := []) [] rfl
  have hFc := va_free (wc := [(q5, .inr (2, [.null, .null, .int 0, .int 0]))]) hD hS hA [3] rfl
  refine va_callv (va_runIN (As := []) (rest := [.ref q5, .ref q0]) ⟨hx, hb, hml, hown, hts⟩ (kX2_init l dC dI q5 H.size) ⟨va_cnB 0 hts (good_cons (okT_mem (t := 84) (by decide +kernel))) rfl rfl rfl (hN.2.1) (hts _ (okT_mem (t := 56) (by decide +kernel))) (by decide +kernel) ⟨(Nat.le_of_ble_eq_true rfl), (Nat.le_of_ble_eq_true rfl)⟩, rfl, (hts _ (okT_mem (t := 83) (by decide +kernel)))⟩ ⟨fun a U g mk q => by obtain ⟨q0, q1, qP, qK, qD, qN⟩ := q; exact ⟨q0, q1, qP, va_K.moved (u := U) (U := U.calling g mk a) (Vm.Alike.refl U.vm) qK, qD, NZ.same (u := U) (U := U.calling g mk a) rfl qN⟩, fun U hU hW => ⟨rfl, by rw [hU], by rw [hU]; exact hPc, va_K.moved hW.alike hKc, hDc.weaken (fun _ _ _ _ => trivial), NZ.moved hW hN⟩⟩ rfl rfl hl.1 rfl (lv_room (Nat.le_of_ble_eq_true rfl)) eX3_init_25 ⟨(Nat.le_of_ble_eq_true rfl), (Nat.le_of_ble_eq_true rfl)⟩) hS (fun q _ h => hFc q h) hFc (fun u t H1 locs ht hvm hw hB hz1 hk1 hS => ?_)
  obtain ⟨u6, v7⟩ := u
  obtain ⟨hP1, hK1, hD1⟩ := hB
  rw [ht] at hP1
  have hK1 := va_K.moved hvm.symm hK1
  have hw : u6 0 = q5 := hw
  subst hw
  obtain ⟨hP, hD⟩ := va_join (wr := [(q0, .inr (3, [.ref q1, .ref q3, .null, .null, .int 0])), (q1, .inl (c2, 8, .inl (fun _ => 0))), (q3, .inl (c4, 8, .inl (fun _ => 0)))]) (w1 := wlX2 u6 v7) hP hD [3] [0, 1, 2] rfl rfl (by decide) (by decide) hk1 hFc hP1 hD1
  have hK := hK.app hK1
  generalize H1 = H at hP hS ⊢
  have hP : va_P (dC, dI) vwCl [(q0, .inr (3, [.ref q1, .ref q3, .null, .null, .int 0])), (q1, .inl (c2, 8, .inl (fun _ => 0))), (q3, .inl (c4, 8, .inl (fun _ => 0))), ((u6 0), .inr (2, [.ref (u6 1), .ref (u6 2), .int 0, .int 0])), ((u6 1), .inl ((v7 1), 5, .inl (fun _ => 0))), ((u6 2), .inl ((v7 2), 5, .inl (fun _ => 0)))] H := hP
  have hD : va_D A [(q0, .inr (3, [.ref q1, .ref q3, .null, .null, .int 0])), (q1, .inl (c2, 8, .inl (fun _ => 0))), (q3, .inl (c4, 8, .inl (fun _ => 0))), ((u6 0), .inr (2, [.ref (u6 1), .ref (u6 2), .int 0, .int 0])), ((u6 1), .inl ((v7 1), 5, .inl (fun _ => 0))), ((u6 2), .inl ((v7 2), 5, .inl (fun _ => 0)))] := hD
  have hK : va_K (dC, dI) vwCl [(c2, .int), (c4, .int), ((v7 1), .int), ((v7 2), .int)] s := hK
  refine W.widen (k := 5) (n := 30) (by omega) (by omega) ?_
  refine va_putF (D := (dC, dI)) (ci := 3) (v := .ref (u6 0)) (ty := tyX3 2) (C := RX3) (T := TX3) (N := 5) hx hb hts clw3 tyX3 tyX3_ok nmX3 hown hK hP hD hS 0 rfl rfl 2 (by decide) (hts _ (okT_mem (t := 108) (by decide +kernel))) (fun _ h9 => h9) rfl hin rfl (tyX3_ok 2 (by decide)) rfl rfl (Nat.le_of_ble_eq_true rfl) eX3_init_28 (fun H locs hP hD hS => ?_)
  have hP : va_P (dC, dI) vwCl [(q0, .inr (3, [.ref q1, .ref q3, .ref (u6 0), .null, .int 0])), (q1, .inl (c2, 8, .inl (fun _ => 0))), (q3, .inl (c4, 8, .inl (fun _ => 0))), ((u6 0), .inr (2, [.ref (u6 1), .ref (u6 2), .int 0, .int 0])), ((u6 1), .inl ((v7 1), 5, .inl (fun _ => 0))), ((u6 2), .inl ((v7 2), 5, .inl (fun _ => 0)))] H := hP
  have hD : va_D A [(q0, .inr (3, [.ref q1, .ref q3, .ref (u6 0), .null, .int 0])), (q1, .inl (c2, 8, .inl (fun _ => 0))), (q3, .inl (c4, 8, .inl (fun _ => 0))), ((u6 0), .inr (2, [.ref (u6 1), .ref (u6 2), .int 0, .int 0])), ((u6 1), .inl ((v7 1), 5, .inl (fun _ => 0))), ((u6 2), .inl ((v7 2), 5, .inl (fun _ => 0)))] := hD
  refine lv_aload_n hx hb eX3_init_31 rfl (lv_at hl 0 rfl) ?_
  refine va_new (ci := 2) (fs := [.null, .null, .int 0, .int 0]) (C := RX2) (T := TX2) (N := 4) hx hb hts clw2 tyX2 tyX2_ok hown (hts _ (okT_mem (t := 80) (by decide +kernel))) (hts _ (okT_mem (t := 81) (by decide +kernel))) (hts _ (okT_mem (t := 56) (by decide +kernel))) hK hP hD hS hA rfl dfX2 (Nat.le_of_ble_eq_true rfl) (Nat.le_of_ble_eq_true rfl) eX3_init_32 (fun q8 H hP hD hS => ?_)
  have hP : va_P (dC, dI) vwCl [(q0, .inr (3, [.ref q1, .ref q3, .ref (u6 0), .null, .int 0])), (q1, .inl (c2, 8, .inl (fun _ => 0))), (q3, .inl (c4, 8, .inl (fun _ => 0))), ((u6 0), .inr (2, [.ref (u6 1), .ref (u6 2), .int 0, .int 0])), ((u6 1), .inl ((v7 1), 5, .inl (fun _ => 0))), ((u6 2), .inl ((v7 2), 5, .inl (fun _ => 0))), (q8, .inr (2, [.null, .null, .int 0, .int 0]))] H := hP
  have hD : va_D A [(q0, .inr (3, [.ref q1, .ref q3, .ref (u6 0), .null, .int 0])), (q1, .inl (c2, 8, .inl (fun _ => 0))), (q3, .inl (c4, 8, .inl (fun _ => 0))), ((u6 0), .inr (2, [.ref (u6 1), .ref (u6 2), .int 0, .int 0])), ((u6 1), .inl ((v7 1), 5, .inl (fun _ => 0))), ((u6 2), .inl ((v7 2), 5, .inl (fun _ => 0))), (q8, .inr (2, [.null, .null, .int 0, .int 0]))] := hD
  refine W.widen (k := 6) (n := 34) (by omega) (by omega) ?_
  refine lv_dup hx hb eX3_init_35 rfl ?_
  have hPc := hP.sub (ws' := [(q8, .inr (2, [.null, .null, .int 0, .int 0]))]) [6] rfl
  have hDc := hD.sub (ws' := [(q8, .inr (2, [.null, .null, .int 0, .int 0]))]) [6] (by decide) rfl
  have hKc := hK.sub (tys' := []) [] rfl
  have hFc := va_free (wc := [(q8, .inr (2, [.null, .null, .int 0, .int 0]))]) hD hS hA [6] rfl
  refine va_callv (va_runIN (As := []) (rest := [.ref q8, .ref q0]) ⟨hx, hb, hml, hown, hts⟩ (kX2_init l dC dI q8 H.size) ⟨va_cnB 0 hts (good_cons (okT_mem (t := 84) (by decide +kernel))) rfl rfl rfl (hN.2.1) (hts _ (okT_mem (t := 56) (by decide +kernel))) (by decide +kernel) ⟨(Nat.le_of_ble_eq_true rfl), (Nat.le_of_ble_eq_true rfl)⟩, rfl, (hts _ (okT_mem (t := 83) (by decide +kernel)))⟩ ⟨fun a U g mk q => by obtain ⟨q0, q1, qP, qK, qD, qN⟩ := q; exact ⟨q0, q1, qP, va_K.moved (u := U) (U := U.calling g mk a) (Vm.Alike.refl U.vm) qK, qD, NZ.same (u := U) (U := U.calling g mk a) rfl qN⟩, fun U hU hW => ⟨rfl, by rw [hU], by rw [hU]; exact hPc, va_K.moved hW.alike hKc, hDc.weaken (fun _ _ _ _ => trivial), NZ.moved hW hN⟩⟩ rfl rfl hl.1 rfl (lv_room (Nat.le_of_ble_eq_true rfl)) eX3_init_36 ⟨(Nat.le_of_ble_eq_true rfl), (Nat.le_of_ble_eq_true rfl)⟩) hS (fun q _ h => hFc q h) hFc (fun u t H1 locs ht hvm hw hB hz1 hk1 hS => ?_)
  obtain ⟨u9, v10⟩ := u
  obtain ⟨hP1, hK1, hD1⟩ := hB
  rw [ht] at hP1
  have hK1 := va_K.moved hvm.symm hK1
  have hw : u9 0 = q8 := hw
  subst hw
  obtain ⟨hP, hD⟩ := va_join (wr := [(q0, .inr (3, [.ref q1, .ref q3, .ref (u6 0), .null, .int 0])), (q1, .inl (c2, 8, .inl (fun _ => 0))), (q3, .inl (c4, 8, .inl (fun _ => 0))), ((u6 0), .inr (2, [.ref (u6 1), .ref (u6 2), .int 0, .int 0])), ((u6 1), .inl ((v7 1), 5, .inl (fun _ => 0))), ((u6 2), .inl ((v7 2), 5, .inl (fun _ => 0)))]) (w1 := wlX2 u9 v10) hP hD [6] [0, 1, 2, 3, 4, 5] rfl rfl (by decide) (by decide) hk1 hFc hP1 hD1
  have hK := hK.app hK1
  generalize H1 = H at hP hS ⊢
  have hP : va_P (dC, dI) vwCl [(q0, .inr (3, [.ref q1, .ref q3, .ref (u6 0), .null, .int 0])), (q1, .inl (c2, 8, .inl (fun _ => 0))), (q3, .inl (c4, 8, .inl (fun _ => 0))), ((u6 0), .inr (2, [.ref (u6 1), .ref (u6 2), .int 0, .int 0])), ((u6 1), .inl ((v7 1), 5, .inl (fun _ => 0))), ((u6 2), .inl ((v7 2), 5, .inl (fun _ => 0))), ((u9 0), .inr (2, [.ref (u9 1), .ref (u9 2), .int 0, .int 0])), ((u9 1), .inl ((v10 1), 5, .inl (fun _ => 0))), ((u9 2), .inl ((v10 2), 5, .inl (fun _ => 0)))] H := hP
  have hD : va_D A [(q0, .inr (3, [.ref q1, .ref q3, .ref (u6 0), .null, .int 0])), (q1, .inl (c2, 8, .inl (fun _ => 0))), (q3, .inl (c4, 8, .inl (fun _ => 0))), ((u6 0), .inr (2, [.ref (u6 1), .ref (u6 2), .int 0, .int 0])), ((u6 1), .inl ((v7 1), 5, .inl (fun _ => 0))), ((u6 2), .inl ((v7 2), 5, .inl (fun _ => 0))), ((u9 0), .inr (2, [.ref (u9 1), .ref (u9 2), .int 0, .int 0])), ((u9 1), .inl ((v10 1), 5, .inl (fun _ => 0))), ((u9 2), .inl ((v10 2), 5, .inl (fun _ => 0)))] := hD
  have hK : va_K (dC, dI) vwCl [(c2, .int), (c4, .int), ((v7 1), .int), ((v7 2), .int), ((v10 1), .int), ((v10 2), .int)] s := hK
  refine W.widen (k := 8) (n := 44) (by omega) (by omega) ?_
  refine va_putF (D := (dC, dI)) (ci := 3) (v := .ref (u9 0)) (ty := tyX3 3) (C := RX3) (T := TX3) (N := 5) hx hb hts clw3 tyX3 tyX3_ok nmX3 hown hK hP hD hS 0 rfl rfl 3 (by decide) (hts _ (okT_mem (t := 109) (by decide +kernel))) (fun _ h9 => h9) rfl hin rfl (tyX3_ok 3 (by decide)) rfl rfl (Nat.le_of_ble_eq_true rfl) eX3_init_39 (fun H locs hP hD hS => ?_)
  have hP : va_P (dC, dI) vwCl [(q0, .inr (3, [.ref q1, .ref q3, .ref (u6 0), .ref (u9 0), .int 0])), (q1, .inl (c2, 8, .inl (fun _ => 0))), (q3, .inl (c4, 8, .inl (fun _ => 0))), ((u6 0), .inr (2, [.ref (u6 1), .ref (u6 2), .int 0, .int 0])), ((u6 1), .inl ((v7 1), 5, .inl (fun _ => 0))), ((u6 2), .inl ((v7 2), 5, .inl (fun _ => 0))), ((u9 0), .inr (2, [.ref (u9 1), .ref (u9 2), .int 0, .int 0])), ((u9 1), .inl ((v10 1), 5, .inl (fun _ => 0))), ((u9 2), .inl ((v10 2), 5, .inl (fun _ => 0)))] H := hP
  have hD : va_D A [(q0, .inr (3, [.ref q1, .ref q3, .ref (u6 0), .ref (u9 0), .int 0])), (q1, .inl (c2, 8, .inl (fun _ => 0))), (q3, .inl (c4, 8, .inl (fun _ => 0))), ((u6 0), .inr (2, [.ref (u6 1), .ref (u6 2), .int 0, .int 0])), ((u6 1), .inl ((v7 1), 5, .inl (fun _ => 0))), ((u6 2), .inl ((v7 2), 5, .inl (fun _ => 0))), ((u9 0), .inr (2, [.ref (u9 1), .ref (u9 2), .int 0, .int 0])), ((u9 1), .inl ((v10 1), 5, .inl (fun _ => 0))), ((u9 2), .inl ((v10 2), 5, .inl (fun _ => 0)))] := hD
  have hP : va_P (dC, dI) vwCl (wlX3 (gq [q0, q1, q3, (u6 0), (u6 1), (u6 2), (u9 0), (u9 1), (u9 2)]) (gq [0, c2, c4, 0, (v7 1), (v7 2), 0, (v10 1), (v10 2)])) H := hP
  have hD : va_D A (wlX3 (gq [q0, q1, q3, (u6 0), (u6 1), (u6 2), (u9 0), (u9 1), (u9 2)]) (gq [0, c2, c4, 0, (v7 1), (v7 2), 0, (v10 1), (v10 2)])) := hD
  have hK : va_K (dC, dI) vwCl (tyl3 (gq [0, c2, c4, 0, (v7 1), (v7 2), 0, (v10 1), (v10 2)])) s := hK.sub (tys' := tyl3 (gq [0, c2, c4, 0, (v7 1), (v7 2), 0, (v10 1), (v10 2)])) [0, 1, 2, 3, 4, 5] rfl
  refine W.widen (k := 8) (n := 44) (by omega) (by omega) ?_
  exact W.vret hx hb hr (fun t ht hW => ⟨⟨((gq [q0, q1, q3, (u6 0), (u6 1), (u6 2), (u9 0), (u9 1), (u9 2)]), (gq [0, c2, c4, 0, (v7 1), (v7 2), 0, (v10 1), (v10 2)])), rfl, rfl, by rw [ht]; exact hP, va_K.moved hW.alike hK, hD⟩, hS.F ht⟩) hS.2.2 eX3_init_42
