/-! ===== the law, from its entry ===== -/
theorem va_AOA.of {ty : FieldType} {A : Array Value} {U : State} (h : (Cond.arrayOver (.array ty)).before A U = true) : va_AOA ty U := h
theorem eL_0 : decode code 0 = .ok (.new 7, 3) := by decide +kernel
theorem eL_3 : decode code 3 = .ok (.dup, 1) := by decide +kernel
theorem eL_4 : decode code 4 = .ok (.invokespecial 9, 3) := by decide +kernel
theorem eL_7 : decode code 7 = .ok (.astore_n 1, 1) := by decide +kernel
theorem eL_8 : decode code 8 = .ok (.new 10, 3) := by decide +kernel
theorem eL_11 : decode code 11 = .ok (.dup, 1) := by decide +kernel
theorem eL_12 : decode code 12 = .ok (.invokespecial 12, 3) := by decide +kernel
theorem eL_15 : decode code 15 = .ok (.astore_n 2, 1) := by decide +kernel
theorem eL_16 : decode code 16 = .ok (.iconst 0, 1) := by decide +kernel
theorem eL_17 : decode code 17 = .ok (.istore_n 3, 1) := by decide +kernel
set_option maxHeartbeats 16000000 in
set_option maxRecDepth 100000 in
theorem whole_start {p : Program} {e : Env} {s : State} {m : MethodId} {below : List Frame} {meth : Method} {c : Code} (l : Launch) (hflags : l.flags = flags0) {b L : Nat} {xs : Nat → Int32} (hL : L ≤ 3072) (C0 : lw_At p s m meth c b L xs) : W p l e room_1 s m #[Value.ref b] below meth c s.heap [] 0 0 (lw_Z below #[Value.ref b] s) (entryFrame m ([Value.ref b] : List Value).toArray 4) := by
  obtain ⟨hx, hb, hr, hml, hown, hts0, hX, hbl, hlocks, hgv⟩ := id C0
  have hts : ∀ w ∈ tbG, w.before #[Value.ref b] s = true := tbG_of hts0
  have hA : ∀ q : Nat, s.heap.size ≤ q → (fun q : Nat => s.heap.size ≤ q) q := fun _ h => h
  have hN : NZ s := ⟨va_Nw.of rfl (hts0 _ (List.mem_of_getElem? (i := 76) (by decide +kernel))), va_Nw.of rfl (hts0 _ (List.mem_of_getElem? (i := 82) (by decide +kernel))), va_Nw.of rfl (hts0 _ (List.mem_of_getElem? (i := 125) (by decide +kernel))), va_Nw.of rfl (hts0 _ (List.mem_of_getElem? (i := 145) (by decide +kernel))), va_Nw.of rfl (hts0 _ (List.mem_of_getElem? (i := 163) (by decide +kernel))), va_Nw.of rfl (hts0 _ (List.mem_of_getElem? (i := 166) (by decide +kernel))), va_Nw.of rfl (hts0 _ (List.mem_of_getElem? (i := 210) (by decide +kernel))), va_AO.of (hts0 _ (List.mem_of_getElem? (i := 73) (by decide +kernel))), va_AOA.of (hts0 _ (List.mem_of_getElem? (i := 171) (by decide +kernel))), va_AOA.of (hts0 _ (List.mem_of_getElem? (i := 150) (by decide +kernel)))⟩
  obtain ⟨c0, iS0, hKn0⟩ := u_known (C := RX0) (T := TX0) (N := 3) (n := 3) hts clw0 (hts _ (okT_mem (t := 144) (by decide +kernel)))
  obtain ⟨c1, iS1, hKn1⟩ := u_known (C := RX1) (T := TX1) (N := 6) (n := 6) hts clw1 (hts _ (okT_mem (t := 165) (by decide +kernel)))
  obtain ⟨c2, iS2, hKn2⟩ := u_known (C := RX2) (T := TX2) (N := 4) (n := 4) hts clw2 (hts _ (okT_mem (t := 81) (by decide +kernel)))
  obtain ⟨c3, iS3, hKn3⟩ := u_known (C := RX3) (T := TX3) (N := 5) (n := 5) hts clw3 (hts _ (okT_mem (t := 75) (by decide +kernel)))
  obtain ⟨c4, iS4, hKn4⟩ := u_known (C := RX4) (T := TX4) (N := 3) (n := 3) hts clw4 (hts _ (okT_mem (t := 209) (by decide +kernel)))
  obtain ⟨c5, iS5, hKn5⟩ := u_known (C := RX5) (T := TX5) (N := 4) (n := 4) hts clw5 (hts _ (okT_mem (t := 124) (by decide +kernel)))
  obtain ⟨c6, iS6, hKn6⟩ := u_known (C := RX6) (T := TX6) (N := 12) (n := 12) hts clw6 (hts _ (okT_mem (t := 65) (by decide +kernel)))
  obtain ⟨c7, iS7, hKn7⟩ := u_known (C := RX7) (T := TX7) (N := 31) (n := 31) hts clw7 (hts _ (okT_mem (t := 610) (by decide +kernel)))
  obtain ⟨dC, dI, hKc⟩ : ∃ (dC : Nat → ClassId) (dI : Nat → Nat → Nat), ∀ (k : Nat) (q : vw_C), vwCl[k]? = some q → u_Kn s q.1 q.2.1 q.2.2 (dC k) (dI k) := by
    refine ⟨fun k => match k with | 0 => c0 | 1 => c1 | 2 => c2 | 3 => c3 | 4 => c4 | 5 => c5 | 6 => c6 | _ => c7, fun k => match k with | 0 => iS0 | 1 => iS1 | 2 => iS2 | 3 => iS3 | 4 => iS4 | 5 => iS5 | 6 => iS6 | _ => iS7, ?_⟩
    intro k q hq
    match k, hq with
    | 0, hq => cases hq; exact hKn0
    | 1, hq => cases hq; exact hKn1
    | 2, hq => cases hq; exact hKn2
    | 3, hq => cases hq; exact hKn3
    | 4, hq => cases hq; exact hKn4
    | 5, hq => cases hq; exact hKn5
    | 6, hq => cases hq; exact hKn6
    | 7, hq => cases hq; exact hKn7
    | k + 8, hq => cases hq
  have hS : va_S (fun q : Nat => s.heap.size ≤ q) s.heap s.heap [] := va_S.rf
  have hK : va_K (dC, dI) vwCl [] s := ⟨hKc, fun k q h => by simp at h⟩
  have hP : va_P (dC, dI) vwCl [] s.heap := fun k q h => by simp at h
  have hD : va_D (fun q : Nat => s.heap.size ≤ q) [] := ⟨fun i j p q h => by simp at h, fun k q h => by simp at h⟩
  have hl := lv_entry ([.ref b]) (n := 4) (Nat.le_of_ble_eq_true rfl)
  rw [lg_entry_eq]
  generalize (lg_sl ([.ref b]) ++ List.replicate (4 - (lg_sl ([.ref b])).length) Slot.unset).toArray = ls at hl ⊢
  have hl : lv_has ls 4 [(0, .ref b)] := hl
  refine va_new (ci := 6) (fs := [.null, .null, .null, .null, .null, .null, .null, .null, .null, .null, .int 0, .int 0]) (C := RX6) (T := TX6) (N := 12) hx hb hts clw6 tyX6 tyX6_ok hown (hts _ (okT_mem (t := 64) (by decide +kernel))) (hts _ (okT_mem (t := 65) (by decide +kernel))) (hts _ (okT_mem (t := 54) (by decide +kernel))) hK hP hD hS hA rfl dfX6 (Nat.le_of_ble_eq_true rfl) (Nat.le_of_ble_eq_true rfl) eL_0 (fun q6 H hP hD hS => ?_)
  have hP : va_P (dC, dI) vwCl ([(q6, .inr (6, [.null, .null, .null, .null, .null, .null, .null, .null, .null, .null, .int 0, .int 0]))]) H := hP
  have hD : va_D (fun q : Nat => s.heap.size ≤ q) ([(q6, .inr (6, [.null, .null, .null, .null, .null, .null, .null, .null, .null, .null, .int 0, .int 0]))]) := hD
  refine W.widen (k := 1) (n := 12) (by omega) (by omega) ?_
  refine lv_dup hx hb eL_3 rfl ?_
  have hPc := hP.sub (ws' := [(q6, .inr (6, [.null, .null, .null, .null, .null, .null, .null, .null, .null, .null, .int 0, .int 0]))]) [0] rfl
  have hDc := hD.sub (ws' := [(q6, .inr (6, [.null, .null, .null, .null, .null, .null, .null, .null, .null, .null, .int 0, .int 0]))]) [0] (by decide) rfl
  have hKc := hK.sub (tys' := []) [] rfl
  have hFc := va_free (wc := [(q6, .inr (6, [.null, .null, .null, .null, .null, .null, .null, .null, .null, .null, .int 0, .int 0]))]) hD hS hA [0] rfl
  refine va_callv (va_runI (As := []) (rest := [.ref q6]) ⟨hx, hb, hml, hown, hts⟩ (kX6_init l dC dI q6 H.size) (cwI 0 hts (good_cons (okT_mem (t := 68) (by decide +kernel))) rfl rfl rfl (hts _ (okT_mem (t := 54) (by decide +kernel))) (hts _ (okT_mem (t := 66) (by decide +kernel))) (hts _ (okT_mem (t := 67) (by decide +kernel))) rfl (by decide +kernel) ⟨(Nat.le_of_ble_eq_true rfl), (Nat.le_of_ble_eq_true rfl)⟩) ⟨fun a U g mk q => by obtain ⟨q0, q1, qP, qK, qD, qN⟩ := q; exact ⟨q0, q1, qP, va_K.moved (u := U) (U := U.calling g mk a) (Vm.Alike.refl U.vm) qK, qD, NZ.same (u := U) (U := U.calling g mk a) rfl qN⟩, fun U hU hW => ⟨rfl, by rw [hU], by rw [hU]; exact hPc, va_K.moved hW.alike hKc, hDc.weaken (fun _ _ _ _ => trivial), NZ.moved hW hN⟩⟩ rfl rfl hl.1 rfl (lv_room (Nat.le_of_ble_eq_true rfl)) eL_4 ⟨(Nat.le_of_ble_eq_true rfl), (Nat.le_of_ble_eq_true rfl)⟩) hS (fun q _ h => hFc q h) hFc (fun u t H1 locs ht hvm hw hB hz1 hk1 hS => ?_)
  obtain ⟨u6, v6⟩ := u
  obtain ⟨hP1, hK1, hD1⟩ := hB
  rw [ht] at hP1
  have hK1 := va_K.moved hvm.symm hK1
  have hw : u6 0 = q6 := hw
  subst hw
  obtain ⟨hP, hD⟩ := va_join (wr := []) (w1 := wlX6 u6 v6) hP hD [0] [] rfl rfl (by decide) (by decide) hk1 hFc hP1 hD1
  have hK := hK.app hK1
  generalize H1 = H at hP hS ⊢
  have hP : va_P (dC, dI) vwCl (wlX6 u6 v6) H := hP
  have hD : va_D (fun q : Nat => s.heap.size ≤ q) (wlX6 u6 v6) := hD
  have hK : va_K (dC, dI) vwCl (tyl6 v6) s := hK
  refine W.widen (k := 61) (n := 1079) (by omega) (by omega) ?_
  refine lv_astore_n (lv' := [(1, .ref (u6 0)), (0, .ref b)]) hx hb eL_7 rfl hl (by decide) rfl (fun ls hl => ?_)
  refine va_new (ci := 7) (fs := [.int 0, .int 0, .null, .null, .null, .int 0, .int 0, .int 0, .null, .null, .null, .null, .null, .int 0, .int 0, .null, .null, .null, .null, .int 0, .int 0, .int 0, .null, .null, .null, .null, .null, .null, .int 0, .null, .null]) (C := RX7) (T := TX7) (N := 31) hx hb hts clw7 tyX7 tyX7_ok hown (hts _ (okT_mem (t := 609) (by decide +kernel))) (hts _ (okT_mem (t := 610) (by decide +kernel))) (hts _ (okT_mem (t := 61) (by decide +kernel))) hK hP hD hS hA rfl dfX7 (Nat.le_of_ble_eq_true rfl) (Nat.le_of_ble_eq_true rfl) eL_8 (fun q7 H hP hD hS => ?_)
  have hP : va_P (dC, dI) vwCl (wlX6 u6 v6 ++ [(q7, .inr (7, [.int 0, .int 0, .null, .null, .null, .int 0, .int 0, .int 0, .null, .null, .null, .null, .null, .int 0, .int 0, .null, .null, .null, .null, .int 0, .int 0, .int 0, .null, .null, .null, .null, .null, .null, .int 0, .null, .null]))]) H := hP
  have hD : va_D (fun q : Nat => s.heap.size ≤ q) (wlX6 u6 v6 ++ [(q7, .inr (7, [.int 0, .int 0, .null, .null, .null, .int 0, .int 0, .int 0, .null, .null, .null, .null, .null, .int 0, .int 0, .null, .null, .null, .null, .int 0, .int 0, .int 0, .null, .null, .null, .null, .null, .null, .int 0, .null, .null]))]) := hD
  refine W.widen (k := 62) (n := 1110) (by omega) (by omega) ?_
  refine lv_dup hx hb eL_11 rfl ?_
  have hPc := hP.sub (ws' := [(q7, .inr (7, [.int 0, .int 0, .null, .null, .null, .int 0, .int 0, .int 0, .null, .null, .null, .null, .null, .int 0, .int 0, .null, .null, .null, .null, .int 0, .int 0, .int 0, .null, .null, .null, .null, .null, .null, .int 0, .null, .null]))]) [61] rfl
  have hDc := hD.sub (ws' := [(q7, .inr (7, [.int 0, .int 0, .null, .null, .null, .int 0, .int 0, .int 0, .null, .null, .null, .null, .null, .int 0, .int 0, .null, .null, .null, .null, .int 0, .int 0, .int 0, .null, .null, .null, .null, .null, .null, .int 0, .null, .null]))]) [61] (by decide) rfl
  have hKc := hK.sub (tys' := []) [] rfl
  have hFc := va_free (wc := [(q7, .inr (7, [.int 0, .int 0, .null, .null, .null, .int 0, .int 0, .int 0, .null, .null, .null, .null, .null, .int 0, .int 0, .null, .null, .null, .null, .int 0, .int 0, .int 0, .null, .null, .null, .null, .null, .null, .int 0, .null, .null]))]) hD hS hA [61] rfl
  refine va_callv (va_runI (As := []) (rest := [.ref q7]) ⟨hx, hb, hml, hown, hts⟩ (kX7_init l dC dI q7 H.size) (cwI 0 hts (good_cons (okT_mem (t := 613) (by decide +kernel))) rfl rfl rfl (hts _ (okT_mem (t := 61) (by decide +kernel))) (hts _ (okT_mem (t := 611) (by decide +kernel))) (hts _ (okT_mem (t := 612) (by decide +kernel))) rfl (by decide +kernel) ⟨(Nat.le_of_ble_eq_true rfl), (Nat.le_of_ble_eq_true rfl)⟩) ⟨fun a U g mk q => by obtain ⟨q0, q1, qP, qK, qD, qN⟩ := q; exact ⟨q0, q1, qP, va_K.moved (u := U) (U := U.calling g mk a) (Vm.Alike.refl U.vm) qK, qD, NZ.same (u := U) (U := U.calling g mk a) rfl qN⟩, fun U hU hW => ⟨rfl, by rw [hU], by rw [hU]; exact hPc, va_K.moved hW.alike hKc, hDc.weaken (fun _ _ _ _ => trivial), NZ.moved hW hN⟩⟩ rfl rfl hl.1 rfl (lv_room (Nat.le_of_ble_eq_true rfl)) eL_12 ⟨(Nat.le_of_ble_eq_true rfl), (Nat.le_of_ble_eq_true rfl)⟩) hS (fun q _ h => hFc q h) hFc (fun u t H1 locs ht hvm hw hB hz1 hk1 hS => ?_)
  obtain ⟨u7, v7⟩ := u
  obtain ⟨hP1, hK1, hD1⟩ := hB
  rw [ht] at hP1
  have hK1 := va_K.moved hvm.symm hK1
  have hw : u7 0 = q7 := hw
  subst hw
  obtain ⟨hP, hD⟩ := va_join (wr := wlX6 u6 v6) (w1 := wlX7 u7 v7) hP hD [61] [0, 1, 2, 3, 4, 5, 6, 7, 8, 9, 10, 11, 12, 13, 14, 15, 16, 17, 18, 19, 20, 21, 22, 23, 24, 25, 26, 27, 28, 29, 30, 31, 32, 33, 34, 35, 36, 37, 38, 39, 40, 41, 42, 43, 44, 45, 46, 47, 48, 49, 50, 51, 52, 53, 54, 55, 56, 57, 58, 59, 60] rfl rfl (by decide) (by decide) hk1 hFc hP1 hD1
  have hK := hK.app hK1
  generalize H1 = H at hP hS ⊢
  have hP : va_P (dC, dI) vwCl (wlX6 u6 v6 ++ wlX7 u7 v7) H := hP
  have hD : va_D (fun q : Nat => s.heap.size ≤ q) (wlX6 u6 v6 ++ wlX7 u7 v7) := hD
  have hK : va_K (dC, dI) vwCl (tyl6 v6 ++ tyl7 v7) s := hK
  refine W.widen (k := 82) (n := 4009) (by omega) (by omega) ?_
  refine lv_astore_n (lv' := [(2, .ref (u7 0)), (1, .ref (u6 0)), (0, .ref b)]) hx hb eL_15 rfl hl (by decide) rfl (fun ls hl => ?_)
  refine lv_iconst (v := 0) hx hb eL_16 (by decide) ?_
  refine lv_istore_n (lv' := [(3, .int 0), (2, .ref (u7 0)), (1, .ref (u6 0)), (0, .ref b)]) hx hb eL_17 rfl hl (by decide) rfl (fun ls hl => ?_)
  rw [wl_eq u6 u7 v6 v7 b] at hP hD
  have hZ := lawloop (l := l) (L := L) (xs := xs) (Z := ZW p l e room_1 s m #[Value.ref b] below meth c 82 4009 (lw_Z below #[Value.ref b] s) 4 (dC, dI) (fun q : Nat => s.heap.size ≤ q) (ad3 u6 u7 b) (ca3 v6 v7) 82) hL (fun R hR => law_sound C0 rfl (by decide) (by decide) (ok_rLs R hR)) (L + 6) 0 h00 s00 (by omega) (by omega) cy00 my00 ok00 (by decide)
  refine hZ H _ ls ⟨hK.sub (tys' := []) [] rfl, ao_all hK, hP, hD, hS⟩ ⟨hl.1, hl.2.1, rfl, fun i v hi => ?_⟩
  match i, hi with
  | 0, hi => cases hi; exact hl.2.2 (0, .ref b) (List.mem_of_getElem? (i := 3) rfl)
  | 1, hi => cases hi; exact hl.2.2 (1, .ref (u6 0)) (List.mem_of_getElem? (i := 2) rfl)
  | 2, hi => cases hi; exact hl.2.2 (2, .ref (u7 0)) (List.mem_of_getElem? (i := 1) rfl)
  | 3, hi => cases hi; exact hl.2.2 (3, .int 0) (List.mem_of_getElem? (i := 0) rfl)
  | i + 4, hi => cases hi
