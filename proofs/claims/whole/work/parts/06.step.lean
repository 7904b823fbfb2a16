/-! ===== SOUNDNESS: a step ===== -/
theorem Wc_calling {D : va_G} {ad : Nat → Nat} {ca : Nat → ClassId} {N : Nat} {h : AH} {U U' : State} (hvm : U.vm.Alike U'.vm) (hh : U'.heap = U.heap) (w : Wc D ad ca N h U) : Wc D ad ca N h U' := by
  refine ⟨va_K.moved hvm w.1, fun k hk => ?_, by rw [hh]; exact w.2.2.1, w.2.2.2⟩
  have := w.2.1 k hk
  unfold av_ao at this ⊢
  split
  · next t x e =>
    rw [e] at this
    exact ⟨arrOfT_moved hvm this.1, this.2.moved hvm⟩
  · trivial
section SND
variable {p : Program} {l : Launch} {e : Env} {R : Room} {s : State} {m : MethodId} {args : Array Value} {below : List Frame} {meth : Method} {c : Code} {cells slots : Nat} {Q : State → Prop}
variable {cc : ByteArray} {own : String} {nL : Nat} {D : va_G} {A : Nat → Prop} {ad : Nat → Nat} {ca : Nat → ClassId} {N : Nat}
abbrev Ctx (p : Program) (R : Room) (s : State) (m : MethodId) (args : Array Value) (c : Code) (cells slots : Nat) (cc : ByteArray) (own : String) (nL : Nat) (A : Nat → Prop) : Prop :=
  p.tables.exec = Jvm.exec ∧ c.code = cc ∧ c.maxLocals = nL ∧ s.vm.findClass own = some m.cls ∧ (∀ w ∈ tbG, w.before args s = true) ∧ (cells ≤ R.cells ∧ slots ≤ R.slots) ∧ (∀ q, s.heap.size ≤ q → A q)
def ZW (p : Program) (l : Launch) (e : Env) (R : Room) (s : State) (m : MethodId) (args : Array Value) (below : List Frame) (meth : Method) (c : Code) (cells slots : Nat) (Q : State → Prop) (nL : Nat) (D : va_G) (A : Nat → Prop) (ad : Nat → Nat) (ca : Nat → ClassId) (N : Nat) (h : AH) (pc : Nat) (ls : List (Option Value)) (st : List Value) : Prop :=
  ∀ (H : Heap) (locs : List Loc) (arr : Array Slot), Wp s D A ad ca N h H locs → LV ad nL arr ls → W p l e R s m args below meth c H locs cells slots Q (F0 m pc arr (st.map (av_v ad)))
/-- behind a call -/
theorem sd_back {P : Option Value → AH → Prop} {h : AH} {H : Heap} {locs : List Loc} {pc : Nat} {arr : Array Slot} {st0 rest : List Value} {a : Array Value}
    (hr : va_Run p l e R s m args below meth c H locs cells slots 0 0 (F0 m pc arr st0) rest (QS D ad ca N h H.size P a) (va_A (av_ws ad ca N h) H.size)) (w : Wp s D A ad ca N h H locs) (hA : ∀ q, s.heap.size ≤ q → A q)
    (kk : ∀ (v : Option Value) (h' : AH) (H1 : Heap) (locs1 : List Loc), P v h' → Wp s D A ad ca N h' H1 locs1 → W p l e R s m args below meth c H1 locs1 cells slots Q (F0 m (pc + 3) arr ((v.map (av_v ad)).toList ++ rest))) :
    W p l e R s m args below meth c H locs cells slots Q (F0 m pc arr st0) := by
  have hS := w.2.2.2.2
  have hf : ∀ q, va_A (av_ws ad ca N h) H.size q → A q := fun q hq => by
    rcases hq with ⟨k, e9, hk⟩ | hq
    · exact w.2.2.2.1.2 k _ hk
    · exact hA q (Nat.le_trans hS.1 hq)
  intro T hT X
  obtain ⟨v, st₀, t, T', L, h0, X', hL, e1, e2, ⟨⟨v', h', hv, hp, hw⟩, hz, hk⟩, st⟩ := hr T hT X
  cases hv
  rw [h0] at hz hk
  have hvm : t.vm.Alike s.vm := by rw [← e2]; exact X'.warmed.alike.symm
  have w2 : Wp s D A ad ca N h' T'.heap (locs ++ L) := by
    obtain ⟨q1, q2, q3, q4⟩ := hw
    refine ⟨w.1, fun k hk => ?_, by rw [e1]; exact q3, ?_, ⟨Nat.le_trans hS.1 (by rw [e1]; exact hz), fun q h1 h2 => by rw [e1, hk q (Nat.lt_of_lt_of_le h1 hS.1) (fun z => h2 (hf q z))]; exact hS.2.1 q h1 h2, fun q hq => ?_⟩⟩
    · have := q2 k hk
      unfold av_ao at this ⊢
      split
      · next t9 x9 e9 =>
        rw [e9] at this
        exact ⟨arrOfT_moved hvm this.1, this.2.moved hvm⟩
      · trivial
    · refine ⟨q4.1, fun k q hq => ?_⟩
      have hkN : k < N := by
        have := (List.getElem?_eq_some_iff.mp hq).1
        simpa [av_ws] using this
      rw [av_ws_at hkN] at hq
      cases hq
      exact w.2.2.2.1.2 k (ad k, av_e ad (ca k) (h k)) (av_ws_at hkN)
    · rcases List.mem_append.mp hq with h | h
      · exact hS.2.2 q h
      · exact hf _ (hL q h)
  obtain ⟨t2, a1, b1⟩ := kk v' h' T'.heap (locs ++ L) hp w2 T' rfl X'
  exact ⟨t2, st t2 a1, b1⟩
theorem sd_pre {h : AH} {H : Heap} {locs : List Loc} {av : List Value} (w : Wp s D A ad ca N h H locs) : PreS s H (va_Pc (av.map (av_v ad)) (fun U => U.heap.size = H.size ∧ Wc D ad ca N h U)) (av.map (av_v ad)) := by
  refine ⟨fun a U g mk q => ?_, fun U hU hW => ⟨rfl, by rw [hU], ?_⟩⟩
  · obtain ⟨q0, q1, q2⟩ := q
    exact ⟨q0, q1, Wc_calling (U := U) (U' := U.calling g mk a) (Vm.Alike.refl U.vm) rfl q2⟩
  · obtain ⟨w1, w2, w3, w4, w5⟩ := w
    refine ⟨va_K.moved hW.alike w1, fun k hk => ?_, by rw [hU]; exact w3, w4.weaken (fun _ _ _ _ => trivial)⟩
    have := w2 k hk
    unfold av_ao at this ⊢
    split
    · next t9 x9 e9 =>
      rw [e9] at this
      exact ⟨arrOfT_moved hW.alike this.1, this.2.moved hW.alike⟩
    · trivial
theorem okQ_B {Q9 : Cal} {idx n t1 t4 : Nat} (hts : ∀ w ∈ tbG, w.before args s = true) (h1 : okQ R.frames R.locals Q9 = true) (h2 : okY (cl_y Q9) n = true) (h3 : okT t1 (.methodLink own idx (cl_y Q9)) = true) (h4 : okT t4 (.initialized (cl_y Q9).cls) = true) (hc : cl_c Q9 = 0) (hs : cl_s Q9 = 0) : CallB R s args own idx (cl_y Q9) (cl_b Q9) (cl_m Q9) (cl_r Q9) (wsM Q9) (rmM Q9) 0 0 n := by
  simp only [okQ, okY, Bool.and_eq_true, decide_eq_true_eq] at h1 h2
  exact callB_of n hts (wsM_good h1.1.1) rfl hc hs (hts _ (okT_mem h4)) (hts _ (okT_mem h3)) ⟨h2.1.1, h2.1.2, h2.2⟩ ⟨Nat.le_of_ble_eq_true h1.1.2, Nat.le_of_ble_eq_true h1.2⟩
theorem cats_map (r : List Value) : ((r.map (av_v ad)).map fun v => v.category).sum = cats r := by
  unfold cats
  rw [List.map_map]
  congr 1
  exact List.map_congr_left (fun v _ => av_cat ad v)
theorem sd_inv (C : Ctx p R s m args c cells slots cc own nL A) {Q9 : Cal} {idx pc : Nat} {aux : List Nat} {h : AH} {ls : List (Option Value)} {st : List Value} (hd : decode cc pc = .ok (.invokevirtual idx, 3)) (hok : okV own R.frames R.locals idx aux Q9 = true)
    (hsp : sp_inv l N (ZW p l e R s m args below meth c cells slots Q nL D A ad ca N) Q9 aux h pc ls st) : ZW p l e R s m args below meth c cells slots Q nL D A ad ca N h pc ls st := by
  obtain ⟨hx, hb, hml, hown, hts, hcs, hA⟩ := C
  intro H locs arr w lv
  unfold okV at hok
  split at hok
  case h_2 => cases hok
  next aux9 n ci t1 t2 t3 t4 =>
  unfold sp_inv at hsp
  dsimp only at hsp
  split at hsp
  case h_2 => exact hsp.elim
  next a r hst =>
  obtain ⟨⟨fs, hfs⟩, haN, hcat, hsem⟩ := hsp
  simp only [Bool.and_eq_true, decide_eq_true_eq] at hok
  obtain ⟨⟨⟨⟨⟨⟨⟨⟨k1, k2⟩, k3⟩, k4⟩, k5⟩, k6⟩, k7⟩, k8⟩, k9⟩ := hok
  split at k9
  case h_2 => cases k9
  next C9 T9 n9 hC9 =>
  have k9 : C9 = (cl_y Q9).cls := by simpa using k9
  subst k9
  have hn : (st.take n).length = n := by
    have h1 : (st.drop n).length = r.length + 1 := by rw [hst]; rfl
    rw [List.length_drop] at h1
    rw [List.length_take]
    omega
  have hst2 : st = st.take n ++ .ref a :: r := by rw [← hst]; exact (List.take_append_drop n st).symm
  have hpre := sd_pre (av := .ref a :: (st.take n).reverse) w
  have hrun := va_runV (C := (cl_y Q9).cls) (b := ad a) (As := ((st.take n).reverse).map (av_v ad)) (rest := r.map (av_v ad)) (g := F0 m pc arr (st.map (av_v ad))) (cells := cells) (slots := slots) (locs := locs) (H := H) (below := below) (meth := meth) (e := e) ⟨hx, hb, hml, hown, hts⟩ (hsem D ad ca H.size) ⟨okQ_B hts k1 k2 k3 k6 k7 k8, hts _ (okT_mem k4), hts _ (okT_mem k5)⟩
    ⟨hpre.1, va_recv w.1 w.2.2.1 (ci := ci) (q0 := a) hC9 (by rw [av_ws_at haN, hfs]; rfl), hpre.2⟩ rfl (by rw [List.length_map, List.length_reverse]; exact hn) (by show arr.size = nL; exact lv.1) (by
      show st.map (av_v ad) = _
      rw [← List.map_reverse, List.reverse_reverse]
      conv => lhs; rw [hst2]
      rw [List.map_append]
      rfl) (lv_room (by rw [cats_map]; exact Nat.le_of_ble_eq_true hcat)) hd ⟨hcs.1, hcs.2⟩
  refine sd_back hrun w hA (fun v h' H1 locs1 hp w1 => ?_)
  have := hp H1 locs1 arr w1 lv
  rw [List.map_append] at this
  cases v <;> exact this
theorem sd_ins (C : Ctx p R s m args c cells slots cc own nL A) {Q9 : Cal} {idx pc : Nat} {aux : List Nat} {h : AH} {ls : List (Option Value)} {st : List Value} (hd : decode cc pc = .ok (.invokestatic idx, 3)) (hok : okS own R.frames R.locals idx aux Q9 = true)
    (hsp : sp_ins l N (ZW p l e R s m args below meth c cells slots Q nL D A ad ca N) Q9 aux h pc ls st) : ZW p l e R s m args below meth c cells slots Q nL D A ad ca N h pc ls st := by
  obtain ⟨hx, hb, hml, hown, hts, hcs, hA⟩ := C
  intro H locs arr w lv
  unfold okS at hok
  split at hok
  case h_2 => cases hok
  next aux9 n t1 t2 t4 =>
  unfold sp_ins at hsp
  dsimp only at hsp
  obtain ⟨hn, hcat, hsem⟩ := hsp
  simp only [Bool.and_eq_true, decide_eq_true_eq] at hok
  obtain ⟨⟨⟨⟨⟨⟨k1, k2⟩, k3⟩, k4⟩, k6⟩, k7⟩, k8⟩ := hok
  have hpre := sd_pre (av := (st.take n).reverse) w
  have hrun := va_runS (As := ((st.take n).reverse).map (av_v ad)) (rest := (st.drop n).map (av_v ad)) (g := F0 m pc arr (st.map (av_v ad))) (cells := cells) (slots := slots) (locs := locs) (H := H) (below := below) (meth := meth) (e := e) ⟨hx, hb, hml, hown, hts⟩ (hsem D ad ca H.size) ⟨okQ_B hts k1 k2 k3 k6 k7 k8, hts _ (okT_mem k4)⟩
    hpre rfl (by rw [List.length_map, List.length_reverse]; exact hn) (by show arr.size = nL; exact lv.1) (by
      show st.map (av_v ad) = _
      rw [← List.map_reverse, List.reverse_reverse, ← List.map_append, List.take_append_drop]) (lv_room (by rw [cats_map]; exact Nat.le_of_ble_eq_true hcat)) hd ⟨hcs.1, hcs.2⟩
  refine sd_back hrun w hA (fun v h' H1 locs1 hp w1 => ?_)
  have := hp H1 locs1 arr w1 lv
  rw [List.map_append] at this
  cases v <;> exact this
theorem sd_cpy (C : Ctx p R s m args c cells slots cc own nL A) {idx pc : Nat} {aux : List Nat} {h : AH} {ls : List (Option Value)} {st : List Value} (hd : decode cc pc = .ok (.invokestatic idx, 3)) (hok : okC own R.frames R.locals idx aux = true)
    (hsp : sp_cpy N (ZW p l e R s m args below meth c cells slots Q nL D A ad ca N) h pc ls st) : ZW p l e R s m args below meth c cells slots Q nL D A ad ca N h pc ls st := by
  obtain ⟨hx, hb, hml, hown, hts, hcs, hA⟩ := C
  intro H locs arr w lv
  unfold okC at hok
  split at hok
  case h_2 => cases hok
  next aux9 t1 t2 t3 t4 =>
  unfold sp_cpy at hsp
  split at hsp
  case h_2 => exact hsp.elim
  next st9 n dp a1 sp a0 r =>
  obtain ⟨n0, n1, f, g, e0, e1, h0, h1, hcat, s1, s2, s3, s4, s5, kk⟩ := hsp
  simp only [Bool.and_eq_true, decide_eq_true_eq] at hok
  obtain ⟨⟨⟨⟨⟨k1, k2⟩, k3⟩, k4⟩, k5⟩, k6⟩ := hok
  have o0 := w.2.1 a0 h0
  have o1 := w.2.1 a1 h1
  rw [e0] at o0
  rw [e1] at o1
  have hK : va_K D vwCl [(ca a0, .int), (ca a1, .int)] s := ⟨w.1.1, fun k q hk => by
    match k, hk with
    | 0, hk => cases hk; exact o0
    | 1, hk => cases hk; exact o1
    | k + 2, hk => cases hk⟩
  refine va_copyi (ty := .int) (t0 := 0) (t1 := 1) hx hb (hml.trans lv.1.symm) hown (hts _ (okT_mem k1)) (hts _ (okT_mem k2)) (hts _ (okT_mem k3)) (hts _ (okT_mem k4)) hK w.2.2.1 w.2.2.2.1 w.2.2.2.2 a0 a1 (f := f) (g := g) (n0 := n0) (n1 := n1) (by rw [av_ws_at h0, e0]; rfl) (by rw [av_ws_at h1, e1]; rfl) rfl rfl rfl s1 s2 s3 s4 s5 (fun i _ => rfl) (Nat.le_of_ble_eq_true k5) (by rw [cats_map]; have := Nat.le_of_ble_eq_true hcat; omega) hd (fun H1 locs1 hP hD hS => ?_)
  exact kk H1 locs1 arr (w.up (e := .inl (0, n1, .inl (va_cpy f g sp.toNatClampNeg dp.toNatClampNeg n.toNatClampNeg))) o1 hP hD hS) lv
end SND
