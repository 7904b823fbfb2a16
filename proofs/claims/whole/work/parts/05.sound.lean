/-! ===== SOUNDNESS: locals ===== -/
theorem lst_len (ls : List (Option Value)) (i : Nat) (x : Option Value) : (lst ls i x).length = ls.length := by
  induction ls generalizing i with
  | nil => rfl
  | cons a l ih => cases i with
    | zero => rfl
    | succ i => show (lst l i x).length + 1 = _; rw [ih]; rfl
theorem lg_lst_same {ls : List (Option Value)} {i : Nat} {x u : Option Value} (h : lg (lst ls i x) i = u) (hi : i < ls.length) : u = x := by
  induction ls generalizing i with
  | nil => exact absurd hi (Nat.not_lt_zero _)
  | cons a l ih => cases i with
    | zero => exact h.symm
    | succ i => exact ih h (Nat.lt_of_succ_lt_succ hi)
theorem lg_lst_ne {ls : List (Option Value)} {i j : Nat} {x : Option Value} (h : j ≠ i) : lg (lst ls i x) j = lg ls j := by
  induction ls generalizing i j with
  | nil => rfl
  | cons a l ih => cases i with
    | zero => cases j with
      | zero => exact absurd rfl h
      | succ j => rfl
    | succ i => cases j with
      | zero => rfl
      | succ j => exact ih (fun e => h (by rw [e]))
theorem lg_lt {ls : List (Option Value)} {i : Nat} {v : Value} (h : lg ls i = some v) : i < ls.length := by
  induction ls generalizing i with
  | nil => cases h
  | cons a l ih => cases i with
    | zero => exact Nat.succ_pos _
    | succ i => exact Nat.succ_lt_succ (ih h)
theorem lg_lst_none {ls : List (Option Value)} {i j : Nat} {u : Value} (h : lg (lst ls i none) j = some u) : j ≠ i ∧ lg ls j = some u := by
  by_cases e : j = i
  · subst e
    have hl := lg_lt h
    rw [lst_len] at hl
    have := lg_lst_same h hl
    cases this
  · rw [lg_lst_ne e] at h
    exact ⟨e, h⟩
theorem lcl_len (ls : List (Option Value)) (i : Nat) : (lcl ls i).length = ls.length := by
  unfold lcl
  split
  · rfl
  · split
    · exact lst_len _ _ _
    · exact lst_len _ _ _
    · rfl
theorem lg_lcl {ls : List (Option Value)} {i j : Nat} {u : Value} (h : lg (lcl ls i) j = some u) : lg ls j = some u ∧ ¬ (j + 1 = i ∧ u.category = 2) := by
  unfold lcl at h
  split at h
  · exact ⟨h, fun q => absurd q.1 (Nat.succ_ne_zero _)⟩
  · next k =>
    split at h
    · have := lg_lst_none h
      exact ⟨this.2, fun q => this.1 (Nat.succ.inj q.1)⟩
    · have := lg_lst_none h
      exact ⟨this.2, fun q => this.1 (Nat.succ.inj q.1)⟩
    · next h1 h2 =>
      refine ⟨h, fun q => ?_⟩
      have e : j = k := Nat.succ.inj q.1
      subst e
      cases u with
      | long x => exact h1 x h
      | double x => exact h2 x h
      | _ => exact absurd q.2 (by simp [Value.category])
def LV (ad : Nat → Nat) (nL : Nat) (arr : Array Slot) (ls : List (Option Value)) : Prop := arr.size = nL ∧ lv_wf arr ∧ ls.length = nL ∧ ∀ i v, lg ls i = some v → arr[i]? = some (.val (av_v ad v))
def prs (ad : Nat → Nat) (ls : List (Option Value)) : List (Nat × Value) := (List.range ls.length).filterMap (fun i => (lg ls i).map (fun v => (i, av_v ad v)))
theorem mem_prs {ad : Nat → Nat} {ls : List (Option Value)} {i : Nat} {v : Value} (h : lg ls i = some v) : (i, av_v ad v) ∈ prs ad ls :=
  List.mem_filterMap.mpr ⟨i, List.mem_range.mpr (lg_lt h), by rw [h]; rfl⟩
theorem of_prs {ad : Nat → Nat} {ls : List (Option Value)} {q : Nat × Value} (h : q ∈ prs ad ls) : ∃ v, lg ls q.1 = some v ∧ q.2 = av_v ad v := by
  obtain ⟨i, -, hi⟩ := List.mem_filterMap.mp h
  cases e : lg ls i with
  | none => rw [e] at hi; cases hi
  | some v =>
    rw [e] at hi
    have := Option.some.inj hi
    subst this
    exact ⟨v, e, rfl⟩
theorem LV.has {ad : Nat → Nat} {nL : Nat} {arr : Array Slot} {ls : List (Option Value)} (h : LV ad nL arr ls) : lv_has arr nL (prs ad ls) := by
  refine ⟨h.1, h.2.1, fun q hq => ?_⟩
  obtain ⟨v, h1, h2⟩ := of_prs hq
  rw [h2]
  exact h.2.2.2 _ _ h1
theorem av_cat (ad : Nat → Nat) (v : Value) : (av_v ad v).category = v.category := by cases v <;> rfl
theorem LV.st1 {ad : Nat → Nat} {nL i : Nat} {arr arr' : Array Slot} {ls : List (Option Value)} {v : Value} (h : LV ad nL arr ls) (hi : i < nL)
    (h' : lv_has arr' nL ((i, av_v ad v) :: (prs ad ls).filter (fun q => !(q.1 == i) && !(q.1 + 1 == i && q.2.category == 2)))) : LV ad nL arr' (lst (lcl ls i) i (some v)) := by
  refine ⟨h'.1, h'.2.1, by rw [lst_len, lcl_len]; exact h.2.2.1, fun j u hj => ?_⟩
  by_cases e : j = i
  · subst e
    have := lg_lst_same hj (by rw [lcl_len, h.2.2.1]; exact hi)
    cases this
    exact h'.2.2 (j, av_v ad v) List.mem_cons_self
  · rw [lg_lst_ne e] at hj
    obtain ⟨h1, h2⟩ := lg_lcl hj
    refine h'.2.2 (j, av_v ad u) (List.mem_cons_of_mem _ (List.mem_filter.mpr ⟨mem_prs h1, ?_⟩))
    have h3 : (j == i) = false := by simpa using e
    simp only [h3, av_cat, Bool.not_false, Bool.true_and, Bool.not_eq_true', Bool.and_eq_false_imp, beq_iff_eq]
    intro q
    simpa using fun w => h2 ⟨q, w⟩
theorem LV.st2 {ad : Nat → Nat} {nL i : Nat} {arr arr' : Array Slot} {ls : List (Option Value)} {v : Value} (h : LV ad nL arr ls) (hi : i + 1 < nL)
    (h' : lv_has arr' nL ((i, av_v ad v) :: (prs ad ls).filter (fun q => !(q.1 == i) && (!(q.1 == i + 1) && !(q.1 + 1 == i && q.2.category == 2))))) : LV ad nL arr' (lst (lst (lcl ls i) i (some v)) (i + 1) none) := by
  refine ⟨h'.1, h'.2.1, by rw [lst_len, lst_len, lcl_len]; exact h.2.2.1, fun j u hj => ?_⟩
  obtain ⟨e1, hj⟩ := lg_lst_none hj
  by_cases e : j = i
  · subst e
    have := lg_lst_same hj (by rw [lcl_len, h.2.2.1]; omega)
    cases this
    exact h'.2.2 (j, av_v ad v) List.mem_cons_self
  · rw [lg_lst_ne e] at hj
    obtain ⟨h1, h2⟩ := lg_lcl hj
    refine h'.2.2 (j, av_v ad u) (List.mem_cons_of_mem _ (List.mem_filter.mpr ⟨mem_prs h1, ?_⟩))
    have h3 : (j == i) = false := by simpa using e
    have h4 : (j == i + 1) = false := by simpa using e1
    simp only [h3, h4, av_cat, Bool.not_false, Bool.true_and, Bool.not_eq_true', Bool.and_eq_false_imp, beq_iff_eq]
    intro q
    simpa using fun w => h2 ⟨q, w⟩
/-! ===== the heap ===== -/
theorem av_ws_at {ad : Nat → Nat} {ca : Nat → ClassId} {N k : Nat} {h : AH} (hk : k < N) : (av_ws ad ca N h)[k]? = some (ad k, av_e ad (ca k) (h k)) := by
  unfold av_ws
  rw [List.getElem?_map, List.getElem?_range hk]
  rfl
theorem av_ws_set {ad : Nat → Nat} {ca : Nat → ClassId} {N k : Nat} {h : AH} (e : va_E) : (av_ws ad ca N h).set k (ad k, av_e ad (ca k) e) = av_ws ad ca N (va_up h k e) := by
  apply List.ext_getElem?
  intro j
  by_cases hj : j < N
  · rw [av_ws_at hj]
    by_cases e1 : j = k
    · subst e1
      rw [List.getElem?_set_self (by simp [av_ws, hj])]
      simp [va_up]
    · rw [List.getElem?_set_ne (Ne.symm e1), av_ws_at hj]
      simp [va_up, e1]
  · rw [List.getElem?_eq_none (by simp [av_ws]; omega), List.getElem?_eq_none (by simp [av_ws]; omega)]
def Wp (s : State) (D : va_G) (A : Nat → Prop) (ad : Nat → Nat) (ca : Nat → ClassId) (N : Nat) (h : AH) (H : Heap) (locs : List Loc) : Prop := va_K D vwCl [] s ∧ (∀ k, k < N → av_ao s (ca k) (h k)) ∧ va_P D vwCl (av_ws ad ca N h) H ∧ va_D A (av_ws ad ca N h) ∧ va_S A s.heap H locs
theorem ao_up {s : State} {ca : Nat → ClassId} {N k : Nat} {h : AH} {e : va_E} (ho : ∀ k, k < N → av_ao s (ca k) (h k)) (he : av_ao s (ca k) e) : ∀ j, j < N → av_ao s (ca j) (va_up h k e j) := by
  intro j hj
  unfold va_up
  split
  · next q => rw [q]; exact he
  · exact ho j hj
theorem Wp.up {s : State} {D : va_G} {A : Nat → Prop} {ad : Nat → Nat} {ca : Nat → ClassId} {N k : Nat} {h : AH} {H H1 : Heap} {locs locs1 : List Loc} {e : va_E} (w : Wp s D A ad ca N h H locs) (he : av_ao s (ca k) e) (hP : va_P D vwCl ((av_ws ad ca N h).set k (ad k, av_e ad (ca k) e)) H1) (hD : va_D A ((av_ws ad ca N h).set k (ad k, av_e ad (ca k) e))) (hS : va_S A s.heap H1 locs1) : Wp s D A ad ca N (va_up h k e) H1 locs1 := by
  rw [av_ws_set] at hP hD
  exact ⟨w.1, ao_up w.2.1 he, hP, hD, hS⟩
theorem fg_map {fs : List Value} {k : Nat} {v : Value} (ad : Nat → Nat) (h : fg fs k = some v) : (fs.map (av_v ad))[k]? = some (av_v ad v) := by
  induction fs generalizing k with
  | nil => cases h
  | cons a l ih => cases k with
    | zero => cases h; rfl
    | succ k => exact ih h
theorem len_eq {i : Instr} {len n : Nat} (h : (lenOf i == len || lenOf i == 0) = true) (hn : lenOf i = n) (h0 : ¬ n = 0) : len = n := by
  rw [hn] at h
  simp only [Bool.or_eq_true, beq_iff_eq] at h
  omega
