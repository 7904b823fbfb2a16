/-! ===== SOUNDNESS: a method ===== -/
theorem lg_repl (k i : Nat) : lg (List.replicate k none) i = none := by
  induction k generalizing i with
  | zero => rfl
  | succ k ih => cases i with
    | zero => rfl
    | succ i => exact ih i
theorem ent_at (ad : Nat → Nat) (k1 : Nat) (r2 : List Slot) : ∀ (av : List Value) (i : Nat) (v : Value), lg (ent0 av ++ List.replicate k1 none) i = some v → (lg_sl (av.map (av_v ad)) ++ r2)[i]? = some (.val (av_v ad v))
  | [], i, v, h => by
    rw [show ent0 [] ++ List.replicate k1 none = List.replicate k1 none from rfl, lg_repl] at h
    cases h
  | a :: av, i, v, h => by
    have ih := ent_at ad k1 r2 av
    by_cases hc : a.category = 2
    · have e1 : ent0 (a :: av) = some a :: none :: ent0 av := by simp [ent0, hc]
      have e2 : lg_sl ((a :: av).map (av_v ad)) = .val (av_v ad a) :: .second :: lg_sl (av.map (av_v ad)) := by simp [lg_sl, av_cat, hc]
      rw [e1] at h
      rw [e2]
      match i, h with
      | 0, h => cases h; rfl
      | 1, h => cases h
      | i + 2, h => exact ih i v h
    · have e1 : ent0 (a :: av) = some a :: ent0 av := by simp [ent0, hc]
      have e2 : lg_sl ((a :: av).map (av_v ad)) = .val (av_v ad a) :: lg_sl (av.map (av_v ad)) := by simp [lg_sl, av_cat, hc]
      rw [e1] at h
      rw [e2]
      match i, h with
      | 0, h => cases h; rfl
      | i + 1, h => exact ih i v h
theorem ent0_len (ad : Nat → Nat) (av : List Value) : (lg_sl (av.map (av_v ad))).length = (ent0 av).length := by
  induction av with
  | nil => rfl
  | cons a av ih =>
    by_cases hc : a.category = 2
    · simp only [lg_sl, ent0] at ih
      simp [lg_sl, ent0, av_cat, hc, ih]
    · simp only [lg_sl, ent0] at ih
      simp [lg_sl, ent0, av_cat, hc, ih]
theorem Wp.wc {s t : State} {D : va_G} {A : Nat → Prop} {ad : Nat → Nat} {ca : Nat → ClassId} {N : Nat} {h : AH} {H : Heap} {locs : List Loc} (w : Wp s D A ad ca N h H locs) (ht : t.heap = H) (hW : s.WarmedH t.vm) : Wc D ad ca N h t := by
  obtain ⟨w1, w2, w3, w4, w5⟩ := w
  refine ⟨va_K.moved hW.alike w1, fun k hk => ?_, by rw [ht]; exact w3, w4.weaken (fun _ _ _ _ => trivial)⟩
  have := w2 k hk
  unfold av_ao at this ⊢
  split
  · next t9 x9 e9 =>
    rw [e9] at this
    exact ⟨arrOfT_moved hW.alike this.1, this.2.moved hW.alike⟩
  · trivial
set_option maxHeartbeats 4000000 in
theorem sem_intro {l : Launch} {Q : Cal} {R : Rows} {N : Nat} {h : AH} {av : List Value} {P : Option Value → AH → Prop} {own : String} (hown : (cl_y Q).cls = own) (hpl : plainName (cl_y Q).cls = true) (hok : rowsOk own (cl_b Q) (cl_f Q) (cl_l Q) R = true) (hlen : Nat.ble (ent0 av).length (cl_m Q) = true) (hc : cl_c Q = 0) (hs : cl_s Q = 0)
    (hrun : Run l R N (cl_r Q) P h 0 (ent av (cl_m Q)) []) : Sem l Q N h av P := by
  subst hown
  intro D ad ca sz
  refine Met.ofW (cc := cl_b Q) (maxL := cl_m Q) (ret := cl_r Q) hpl rfl ?_
  intro p e s m args below meth c s₁ B hml hv
  obtain ⟨rfl, hsz, wc⟩ := hv
  have hx := B.exec
  have hb := B.bytes
  have hr := B.returns
  have hts0 := atoms_spec (ws := wsM Q) B.pre
  have hts : ∀ w ∈ tbG, w.before (av.map (av_v ad)).toArray s = true := fun w hw => hts0 w (List.mem_cons_of_mem _ hw)
  have hown : s.vm.findClass (cl_y Q).cls = some m.cls := findClass_of_methodNamed B.named
  have hlocks := B.notSynchronized
  subst hsz
  have hD := wc.2.2.2.self (sz := s.heap.size)
  have hA : ∀ q : Nat, s.heap.size ≤ q → va_A (av_ws ad ca N h) s.heap.size q := fun q h9 => Or.inr h9
  have hl := lv_entry (av.map (av_v ad)) (n := cl_m Q) (by rw [ent0_len]; exact Nat.le_of_ble_eq_true hlen)
  rw [lg_entry_eq]
  have C : Ctx p (headSpec (wsM Q) (rmM Q)).room s m (av.map (av_v ad)).toArray c 0 0 (cl_b Q) (cl_y Q).cls (cl_m Q) (va_A (av_ws ad ca N h) s.heap.size) := ⟨hx, hb, hml, hown, hts, ⟨Nat.zero_le _, Nat.zero_le _⟩, hA⟩
  have key := hrun (ZW p l e (headSpec (wsM Q) (rmM Q)).room s m (av.map (av_v ad)).toArray below meth c 0 0 (MQ below (QS D ad ca N h s.heap.size P) (av.map (av_v ad)).toArray s 0 0 (va_A (av_ws ad ca N h) s.heap.size)) (cl_m Q) D (va_A (av_ws ad ca N h) s.heap.size) ad ca N) ?_
  · refine key s.heap [] _ ⟨wc.1, wc.2.1, wc.2.2.1, hD, va_S.rf⟩ ⟨hl.1, hl.2.1, ?_, fun i v hi => ?_⟩
    · unfold ent
      rw [List.length_append, List.length_replicate]
      have := Nat.le_of_ble_eq_true hlen
      omega
    · rw [List.getElem?_toArray]
      exact ent_at ad _ _ av i v hi
  · intro h' pc ls st hF
    unfold Fs at hF
    split at hF
    · exact hF.elim
    · next q hq =>
      have hrow := List.all_eq_true.mp hok _ (lk_mem hq)
      have hdec : decode (cl_b Q) pc = .ok (q.1, q.2.1) ∧ (lenOf q.1 == q.2.1 || lenOf q.1 == 0) = true := by
        unfold rowOk at hrow
        simp only [Bool.and_eq_true, decide_eq_true_eq] at hrow
        exact hrow.1
      obtain ⟨i, len, aux, cal⟩ := q
      dsimp only at hF hdec
      split at hF
      · obtain rfl := len_eq hdec.2 (n := 1) rfl (by decide)
        split at hF
        · next v =>
          intro H locs arr w lv
          have hbz : ∃ ty, cl_r Q = some ty ∧ narrow ty (.int v) = .int v := by
            have := hF.1
            unfold bz at this
            split at this
            · next e9 => exact ⟨_, e9, congrArg Value.int this⟩
            · next e9 => exact ⟨_, e9, rfl⟩
            · exact this.elim
          obtain ⟨ty, e1, e2⟩ := hbz
          exact W.zret hx hb (hr.trans e1) e2 (fun t ht hW => ⟨⟨some (.int v), h', rfl, hF.2, w.wc ht hW⟩, w.2.2.2.2.F ht⟩) w.2.2.2.2.2.2 hdec.1
        · exact hF.elim
      · obtain rfl := len_eq hdec.2 (n := 1) rfl (by decide)
        split at hF
        · next v =>
          intro H locs arr w lv
          exact W.lret hx hb (hr.trans hF.1) (fun t ht hW => ⟨⟨some (.long v), h', rfl, hF.2, w.wc ht hW⟩, w.2.2.2.2.F ht⟩) w.2.2.2.2.2.2 hdec.1
        · exact hF.elim
      · obtain rfl := len_eq hdec.2 (n := 1) rfl (by decide)
        split at hF
        · intro H locs arr w lv
          exact W.vret hx hb (hr.trans hF.1) (fun t ht hW => ⟨⟨none, h', rfl, hF.2, w.wc ht hW⟩, w.2.2.2.2.F ht⟩) w.2.2.2.2.2.2 hdec.1
        · exact hF.elim
      · exact spI_sound C hrow hF
