/-! ===== SOUNDNESS: all instructions ===== -/
theorem tsw_in {K : Nat → Prop} {x : Int} {pc : Nat} {td : Nat} : ∀ (offs : List Int) (ts : List Nat) (lo : Int), okTgs pc offs ts = true → tsw K x lo ts td → (lo ≤ x ∧ x < lo + offs.length → ∃ (off : Int) (t : Nat), offs[(x - lo).toNat]? = some off ∧ (pc : Int) + off = (t : Int) ∧ K t) ∧ (¬ (lo ≤ x ∧ x < lo + offs.length) → K td)
  | [], [], lo, _, h => ⟨fun q => by simp only [List.length_nil] at q; omega, fun _ => h⟩
  | [], _ :: _, _, hk, _ => by cases hk
  | _ :: _, [], _, hk, _ => by cases hk
  | o :: os, t :: ts, lo, hk, h => by
    simp only [okTgs, okTg, Bool.and_eq_true, decide_eq_true_eq] at hk
    have ih := tsw_in (K := K) (x := x) (pc := pc) (td := td) os ts (lo + 1) hk.2
    by_cases e : x = lo
    · subst e
      refine ⟨fun _ => ⟨o, t, by simp, hk.1, h.1 rfl⟩, fun q => ?_⟩
      exact absurd ⟨Int.le_refl _, by simp only [List.length_cons]; omega⟩ q
    · have ih := ih (h.2 e)
      refine ⟨fun q => ?_, fun q => ih.2 (fun z => q ⟨by omega, by simp only [List.length_cons]; omega⟩)⟩
      obtain ⟨off, t2, h1, h2, h3⟩ := ih.1 ⟨by omega, by have := q.2; simp only [List.length_cons] at this; omega⟩
      refine ⟨off, t2, ?_, h2, h3⟩
      rw [show (x - lo).toNat = (x - (lo + 1)).toNat + 1 by omega, List.getElem?_cons_succ]
      exact h1
theorem lsw_in {K : Nat → Prop} {x : Int} {pc : Nat} {td : Nat} {d : Int} (hd : (pc : Int) + d = (td : Int)) : ∀ (ps : List (Int × Int)) (ts : List Nat), okTgs pc (ps.map (fun q => q.2)) ts = true → lsw K x ps ts td → ∃ t : Nat, (pc : Int) + Op.lookupswitch.offset ps d x = (t : Int) ∧ K t
  | [], [], _, h => ⟨td, by rw [show Op.lookupswitch.offset [] d x = d from rfl]; exact hd, h⟩
  | [], _ :: _, hk, _ => by cases hk
  | _ :: _, [], hk, _ => by cases hk
  | (k, o) :: ps, t :: ts, hk, h => by
    simp only [List.map_cons, okTgs, okTg, Bool.and_eq_true, decide_eq_true_eq] at hk
    rw [Op.lookupswitch.offset_cons]
    by_cases e : x = k
    · exact ⟨t, by rw [if_pos e.symm]; exact hk.1, h.1 e⟩
    · rw [if_neg (fun q => e q.symm)]
      exact lsw_in hd ps ts hk.2 (h.2 e)
section SN2
variable {p : Program} {l : Launch} {e : Env} {R : Room} {s : State} {m : MethodId} {args : Array Value} {below : List Frame} {meth : Method} {c : Code} {cells slots : Nat} {Q : State → Prop}
variable {cc : ByteArray} {own : String} {nL : Nat} {D : va_G} {A : Nat → Prop} {ad : Nat → Nat} {ca : Nat → ClassId} {N : Nat}
theorem sd_get (C : Ctx p R s m args c cells slots cc own nL A) {idx pc ci k t a : Nat} {h : AH} {H : Heap} {locs : List Loc} {arr : Array Slot} {fs : List Value} {v : Value} {r : List Value} (hd : decode cc pc = .ok (.getfield idx, 3)) (hok : okF own idx ci k t = true) (w : Wp s D A ad ca N h H locs) (ha : h a = .inr (ci, fs)) (hN : a < N) (hv : fg fs k = some v)
    (kk : W p l e R s m args below meth c H locs cells slots Q (F0 m (pc + 3) arr (av_v ad v :: r))) : W p l e R s m args below meth c H locs cells slots Q (F0 m pc arr (.ref (ad a) :: r)) := by
  obtain ⟨hx, hb, hml, hown, hts, hcs, hA⟩ := C
  unfold okF at hok
  split at hok
  case h_2 => cases hok
  next C9 T n hC =>
  simp only [Bool.and_eq_true, decide_eq_true_eq] at hok
  obtain ⟨ty0, -, -, hin⟩ := cl_facts ci C9 T n hC
  exact va_get (fs := fs.map (av_v ad)) hx hb hts hin hown w.1 w.2.2.1 a (by rw [av_ws_at hN, ha]; rfl) hC k hok.1 (hts _ (okT_mem hok.2)) (fun _ h9 => h9) (fg_map ad hv) hd kk
theorem sd_put (C : Ctx p R s m args c cells slots cc own nL A) {idx pc ci k t tc a : Nat} {h : AH} {H : Heap} {locs : List Loc} {arr : Array Slot} {fs : List Value} {v : Value} {r : List Value} (hd : decode cc pc = .ok (.putfield idx, 3)) (hok : okF own idx ci k t = true) (hpt : okPT ci k tc false = true) (w : Wp s D A ad ca N h H locs) (ha : h a = .inr (ci, fs)) (hN : a < N) (hl : k < fs.length) (hpf : pf tc v)
    (kk : ∀ (H1 : Heap) (locs1 : List Loc), Wp s D A ad ca N (va_up h a (.inr (ci, fs.set k v))) H1 locs1 → W p l e R s m args below meth c H1 locs1 cells slots Q (F0 m (pc + 3) arr r)) : W p l e R s m args below meth c H locs cells slots Q (F0 m pc arr (av_v ad v :: .ref (ad a) :: r)) := by
  obtain ⟨hx, hb, hml, hown, hts, hcs, hA⟩ := C
  unfold okF at hok
  unfold okPT at hpt
  split at hok
  case h_2 => cases hok
  next C9 T n hC =>
  simp only [hC, Bool.and_eq_true, decide_eq_true_eq] at hok hpt
  obtain ⟨ty0, hty, hnm, hin⟩ := cl_facts ci C9 T n hC
  obtain ⟨hfin, hpt⟩ := hpt
  obtain ⟨ty, hdty, hn, hfit⟩ : ∃ ty, parseFieldDescriptor (T k).2.2.1 = some ty ∧ narrow ty (av_v ad v) = av_v ad v ∧ fits ty (av_v ad v) = true := by
    split at hpt
    · next e9 => cases v <;> first | exact hpf.elim | exact ⟨_, e9, rfl, rfl⟩
    · next e9 =>
      refine ⟨_, e9, ?_⟩
      cases v <;> first | exact hpf.elim | skip
      rcases hpf with e | e <;> subst e <;> exact ⟨rfl, rfl⟩
    · next e9 => cases v <;> first | exact hpf.elim | exact ⟨_, e9, rfl, rfl⟩
    · next e9 => cases v <;> first | exact hpf.elim | exact ⟨_, e9, rfl, rfl⟩
    · cases hpt
  refine va_put (fs := fs.map (av_v ad)) hx hb hts hin ty0 hty hnm hown w.1 w.2.2.1 w.2.2.2.1 w.2.2.2.2 a (by rw [av_ws_at hN, ha]; rfl) hC k hok.1 (hts _ (okT_mem hok.2)) (fun _ h9 => h9) hfin hdty hn hfit (by rw [List.length_map]; exact hl) hd (fun H1 locs1 hP hD hS => ?_)
  rw [← List.map_set] at hP hD
  exact kk H1 locs1 (w.up (e := .inr (ci, fs.set k v)) trivial hP hD hS)
set_option maxHeartbeats 4000000 in
theorem spI_sound (C : Ctx p R s m args c cells slots cc own nL A) {pc : Nat} {q : Row} {h : AH} {ls : List (Option Value)} {st : List Value} (hok : rowOk own cc R.frames R.locals (pc, q) = true)
    (hsp : spI l N (ZW p l e R s m args below meth c cells slots Q nL D A ad ca N) q h pc ls st) : ZW p l e R s m args below meth c cells slots Q nL D A ad ca N h pc ls st := by
  have C0 := C
  obtain ⟨hx, hb, hml, hown, hts, hcs, hA⟩ := C
  obtain ⟨i, len, aux, cal⟩ := q
  unfold rowOk at hok
  simp only [Bool.and_eq_true, decide_eq_true_eq] at hok
  obtain ⟨⟨hd, hlen⟩, hax⟩ := hok
  cases i
  case aload_n k =>
    obtain rfl := len_eq hlen (n := 1) rfl (by decide)
    unfold spI at hsp
    dsimp only at hsp
    intro H locs arr w lv
    split at hsp
    · next a9 hl =>
      exact lv_aload_n hx hb hd rfl (lv.2.2.2 _ _ hl) (hsp H locs arr w lv)
    · exact hsp.elim
  case aload k =>
    obtain rfl := len_eq hlen (n := 2) rfl (by decide)
    unfold spI at hsp
    dsimp only at hsp
    intro H locs arr w lv
    split at hsp
    · next a9 hl =>
      exact lv_aload hx hb hd (lv.2.2.2 _ _ hl) (hsp H locs arr w lv)
    · exact hsp.elim
  case iload_n k =>
    obtain rfl := len_eq hlen (n := 1) rfl (by decide)
    unfold spI at hsp
    dsimp only at hsp
    intro H locs arr w lv
    split at hsp
    · next a9 hl =>
      exact lv_iload_n hx hb hd rfl (lv.2.2.2 _ _ hl) (hsp H locs arr w lv)
    · exact hsp.elim
  case iload k =>
    obtain rfl := len_eq hlen (n := 2) rfl (by decide)
    unfold spI at hsp
    dsimp only at hsp
    intro H locs arr w lv
    split at hsp
    · next a9 hl =>
      exact lv_iload hx hb hd (lv.2.2.2 _ _ hl) (hsp H locs arr w lv)
    · exact hsp.elim
  case lload_n k =>
    obtain rfl := len_eq hlen (n := 1) rfl (by decide)
    unfold spI at hsp
    dsimp only at hsp
    intro H locs arr w lv
    split at hsp
    · next a9 hl =>
      exact lv_lload_n hx hb hd rfl (lv.2.2.2 _ _ hl) (hsp H locs arr w lv)
    · exact hsp.elim
  case lload k =>
    obtain rfl := len_eq hlen (n := 2) rfl (by decide)
    unfold spI at hsp
    dsimp only at hsp
    intro H locs arr w lv
    split at hsp
    · next a9 hl =>
      exact lv_lload hx hb hd (lv.2.2.2 _ _ hl) (hsp H locs arr w lv)
    · exact hsp.elim
  case astore_n k =>
    obtain rfl := len_eq hlen (n := 1) rfl (by decide)
    unfold spI at hsp
    dsimp only at hsp
    intro H locs arr w lv
    split at hsp
    · next st9 x r =>
      have hk : k.val < nL := by have := Nat.le_of_ble_eq_true hsp.1; rw [lv.2.2.1] at this; exact this
      exact lv_astore_n hx hb hd rfl lv.has hk rfl (fun arr2 h2 => hsp.2 H locs arr2 w (lv.st1 (v := .ref x) hk h2))
    · exact hsp.elim
  case astore k =>
    obtain rfl := len_eq hlen (n := 2) rfl (by decide)
    unfold spI at hsp
    dsimp only at hsp
    intro H locs arr w lv
    split at hsp
    · next st9 x r =>
      have hk : k < nL := by have := Nat.le_of_ble_eq_true hsp.1; rw [lv.2.2.1] at this; exact this
      exact lv_astore hx hb hd lv.has hk rfl (fun arr2 h2 => hsp.2 H locs arr2 w (lv.st1 (v := .ref x) hk h2))
    · exact hsp.elim
  case istore_n k =>
    obtain rfl := len_eq hlen (n := 1) rfl (by decide)
    unfold spI at hsp
    dsimp only at hsp
    intro H locs arr w lv
    split at hsp
    · next st9 x r =>
      have hk : k.val < nL := by have := Nat.le_of_ble_eq_true hsp.1; rw [lv.2.2.1] at this; exact this
      exact lv_istore_n hx hb hd rfl lv.has hk rfl (fun arr2 h2 => hsp.2 H locs arr2 w (lv.st1 (v := .int x) hk h2))
    · exact hsp.elim
  case istore k =>
    obtain rfl := len_eq hlen (n := 2) rfl (by decide)
    unfold spI at hsp
    dsimp only at hsp
    intro H locs arr w lv
    split at hsp
    · next st9 x r =>
      have hk : k < nL := by have := Nat.le_of_ble_eq_true hsp.1; rw [lv.2.2.1] at this; exact this
      exact lv_istore hx hb hd lv.has hk rfl (fun arr2 h2 => hsp.2 H locs arr2 w (lv.st1 (v := .int x) hk h2))
    · exact hsp.elim
  case lstore_n k =>
    obtain rfl := len_eq hlen (n := 1) rfl (by decide)
    unfold spI at hsp
    dsimp only at hsp
    intro H locs arr w lv
    split at hsp
    · next st9 x r =>
      have hk : k.val + 1 < nL := by have := Nat.le_of_ble_eq_true hsp.1; rw [lv.2.2.1] at this; exact this
      exact lv_lstore_n hx hb hd rfl lv.has hk rfl (fun arr2 h2 => hsp.2 H locs arr2 w (lv.st2 (v := .long x) hk h2))
    · exact hsp.elim
  case lstore k =>
    obtain rfl := len_eq hlen (n := 2) rfl (by decide)
    unfold spI at hsp
    dsimp only at hsp
    intro H locs arr w lv
    split at hsp
    · next st9 x r =>
      have hk : k + 1 < nL := by have := Nat.le_of_ble_eq_true hsp.1; rw [lv.2.2.1] at this; exact this
      exact lv_lstore hx hb hd lv.has hk rfl (fun arr2 h2 => hsp.2 H locs arr2 w (lv.st2 (v := .long x) hk h2))
    · exact hsp.elim
  case iinc k c9 =>
    obtain rfl := len_eq hlen (n := 3) rfl (by decide)
    unfold spI at hsp
    dsimp only at hsp
    intro H locs arr w lv
    split at hsp
    · next x hl =>
      have hk : k < nL := by have := lg_lt hl; rw [lv.2.2.1] at this; exact this
      obtain ⟨j, hj⟩ := List.getElem?_of_mem (mem_prs (ad := ad) hl)
      exact lv_iinc hx hb hd lv.has hj rfl hk rfl (fun arr2 h2 => hsp H locs arr2 w (lv.st1 (v := .int (x + Int32.ofInt c9)) hk h2))
    · exact hsp.elim
  case iconst k =>
    obtain rfl := len_eq hlen (n := 1) rfl (by decide)
    unfold spI at hsp
    dsimp only at hsp
    intro H locs arr w lv
    exact lv_iconst hx hb hd rfl (hsp H locs arr w lv)
  case bipush k =>
    obtain rfl := len_eq hlen (n := 2) rfl (by decide)
    unfold spI at hsp
    dsimp only at hsp
    intro H locs arr w lv
    exact lv_bipush hx hb hd rfl (hsp H locs arr w lv)
  case sipush k =>
    obtain rfl := len_eq hlen (n := 3) rfl (by decide)
    unfold spI at hsp
    dsimp only at hsp
    intro H locs arr w lv
    exact lv_sipush hx hb hd rfl (hsp H locs arr w lv)
  case lconst k =>
    obtain rfl := len_eq hlen (n := 1) rfl (by decide)
    unfold spI at hsp
    dsimp only at hsp
    intro H locs arr w lv
    exact lv_lconst hx hb hd rfl (hsp H locs arr w lv)
  case ldc k =>
    obtain rfl := len_eq hlen (n := 2) rfl (by decide)
    unfold spI at hsp
    dsimp only at hsp
    intro H locs arr w lv
    unfold auxOk at hax
    dsimp only at hax
    split at hsp
    · exact lv_ldc hx hb hown (hts _ (okT_mem hax)) hd (hsp H locs arr w lv)
    · exact hsp.elim
  case ldc2_w k =>
    obtain rfl := len_eq hlen (n := 3) rfl (by decide)
    unfold spI at hsp
    dsimp only at hsp
    intro H locs arr w lv
    unfold auxOk at hax
    dsimp only at hax
    split at hsp
    · exact lv_ldc2 hx hb hown (hts _ (okT_mem hax)) hd (hsp H locs arr w lv)
    · exact hsp.elim
  case iadd =>
    obtain rfl := len_eq hlen (n := 1) rfl (by decide)
    unfold spI at hsp
    dsimp only at hsp
    intro H locs arr w lv
    split at hsp
    · exact lv_iadd hx hb hd (hsp H locs arr w lv)
    · exact hsp.elim
  case isub =>
    obtain rfl := len_eq hlen (n := 1) rfl (by decide)
    unfold spI at hsp
    dsimp only at hsp
    intro H locs arr w lv
    split at hsp
    · exact lv_isub hx hb hd (hsp H locs arr w lv)
    · exact hsp.elim
  case imul =>
    obtain rfl := len_eq hlen (n := 1) rfl (by decide)
    unfold spI at hsp
    dsimp only at hsp
    intro H locs arr w lv
    split at hsp
    · exact lv_imul hx hb hd (hsp H locs arr w lv)
    · exact hsp.elim
  case ishl =>
    obtain rfl := len_eq hlen (n := 1) rfl (by decide)
    unfold spI at hsp
    dsimp only at hsp
    intro H locs arr w lv
    split at hsp
    · exact lv_ishl hx hb hd (hsp H locs arr w lv)
    · exact hsp.elim
  case ishr =>
    obtain rfl := len_eq hlen (n := 1) rfl (by decide)
    unfold spI at hsp
    dsimp only at hsp
    intro H locs arr w lv
    split at hsp
    · exact lv_ishr hx hb hd (hsp H locs arr w lv)
    · exact hsp.elim
  case iand =>
    obtain rfl := len_eq hlen (n := 1) rfl (by decide)
    unfold spI at hsp
    dsimp only at hsp
    intro H locs arr w lv
    split at hsp
    · exact lv_iand hx hb hd (hsp H locs arr w lv)
    · exact hsp.elim
  case ior =>
    obtain rfl := len_eq hlen (n := 1) rfl (by decide)
    unfold spI at hsp
    dsimp only at hsp
    intro H locs arr w lv
    split at hsp
    · exact lv_ior hx hb hd (hsp H locs arr w lv)
    · exact hsp.elim
  case ladd =>
    obtain rfl := len_eq hlen (n := 1) rfl (by decide)
    unfold spI at hsp
    dsimp only at hsp
    intro H locs arr w lv
    split at hsp
    · exact lv_ladd hx hb hd (hsp H locs arr w lv)
    · exact hsp.elim
  case lsub =>
    obtain rfl := len_eq hlen (n := 1) rfl (by decide)
    unfold spI at hsp
    dsimp only at hsp
    intro H locs arr w lv
    split at hsp
    · exact lv_lsub hx hb hd (hsp H locs arr w lv)
    · exact hsp.elim
  case lmul =>
    obtain rfl := len_eq hlen (n := 1) rfl (by decide)
    unfold spI at hsp
    dsimp only at hsp
    intro H locs arr w lv
    split at hsp
    · exact lv_lmul hx hb hd (hsp H locs arr w lv)
    · exact hsp.elim
  case idiv =>
    obtain rfl := len_eq hlen (n := 1) rfl (by decide)
    unfold spI at hsp
    dsimp only at hsp
    intro H locs arr w lv
    split at hsp
    · exact lv_idiv hx hb hd hsp.1 (hsp.2 H locs arr w lv)
    · exact hsp.elim
  case irem =>
    obtain rfl := len_eq hlen (n := 1) rfl (by decide)
    unfold spI at hsp
    dsimp only at hsp
    intro H locs arr w lv
    split at hsp
    · exact lv_irem hx hb hd hsp.1 (hsp.2 H locs arr w lv)
    · exact hsp.elim
  case ldiv =>
    obtain rfl := len_eq hlen (n := 1) rfl (by decide)
    unfold spI at hsp
    dsimp only at hsp
    intro H locs arr w lv
    split at hsp
    · exact lv_ldiv hx hb hd hsp.1 (hsp.2 H locs arr w lv)
    · exact hsp.elim
  case lrem =>
    obtain rfl := len_eq hlen (n := 1) rfl (by decide)
    unfold spI at hsp
    dsimp only at hsp
    intro H locs arr w lv
    split at hsp
    · exact lv_lrem hx hb hd hsp.1 (hsp.2 H locs arr w lv)
    · exact hsp.elim
  case ineg =>
    obtain rfl := len_eq hlen (n := 1) rfl (by decide)
    unfold spI at hsp
    dsimp only at hsp
    intro H locs arr w lv
    split at hsp
    · exact lv_ineg hx hb hd (hsp H locs arr w lv)
    · exact hsp.elim
  case i2l =>
    obtain rfl := len_eq hlen (n := 1) rfl (by decide)
    unfold spI at hsp
    dsimp only at hsp
    intro H locs arr w lv
    split at hsp
    · exact lv_i2l hx hb hd rfl (hsp H locs arr w lv)
    · exact hsp.elim
  case i2b =>
    obtain rfl := len_eq hlen (n := 1) rfl (by decide)
    unfold spI at hsp
    dsimp only at hsp
    intro H locs arr w lv
    split at hsp
    · exact lv_i2b hx hb hd rfl (hsp H locs arr w lv)
    · exact hsp.elim
  case i2s =>
    obtain rfl := len_eq hlen (n := 1) rfl (by decide)
    unfold spI at hsp
    dsimp only at hsp
    intro H locs arr w lv
    split at hsp
    · exact lv_i2s hx hb hd rfl (hsp H locs arr w lv)
    · exact hsp.elim
  case lcmp =>
    obtain rfl := len_eq hlen (n := 1) rfl (by decide)
    unfold spI at hsp
    dsimp only at hsp
    intro H locs arr w lv
    split at hsp
    · exact W.lcmp hx hb hd (hsp H locs arr w lv)
    · exact hsp.elim
  case dup =>
    obtain rfl := len_eq hlen (n := 1) rfl (by decide)
    unfold spI at hsp
    dsimp only at hsp
    intro H locs arr w lv
    split at hsp
    · exact lv_dup hx hb hd rfl (hsp H locs arr w lv)
    · exact lv_dup hx hb hd rfl (hsp H locs arr w lv)
    · exact hsp.elim
  case dup2 =>
    obtain rfl := len_eq hlen (n := 1) rfl (by decide)
    unfold spI at hsp
    dsimp only at hsp
    intro H locs arr w lv
    split at hsp
    · exact lv_dup2_11 hx hb hd rfl rfl (hsp H locs arr w lv)
    · exact hsp.elim
  case pop =>
    obtain rfl := len_eq hlen (n := 1) rfl (by decide)
    unfold spI at hsp
    dsimp only at hsp
    intro H locs arr w lv
    split at hsp
    · next st9 x9 r9 => exact lv_pop (va := .int x9) hx hb hd rfl (hsp H locs arr w lv)
    · exact hsp.elim
  case goto off =>
    obtain rfl := len_eq hlen (n := 3) rfl (by decide)
    unfold spI at hsp
    dsimp only at hsp
    intro H locs arr w lv
    unfold auxOk at hax
    dsimp only at hax
    split at hsp
    · exact lv_goto hx hb hd (of_decide_eq_true hax) (hsp H locs arr w lv)
    · exact hsp.elim
  case ifCond c9 off =>
    obtain rfl := len_eq hlen (n := 3) rfl (by decide)
    unfold spI at hsp
    dsimp only at hsp
    intro H locs arr w lv
    unfold auxOk at hax
    dsimp only at hax
    split at hsp
    · cases c9
      case eq => exact lv_if_eq hx hb hd (of_decide_eq_true hax) (fun z => hsp.1 z H locs arr w lv) (fun z => hsp.2 z H locs arr w lv)
      case ne => exact lv_if_ne hx hb hd (of_decide_eq_true hax) (fun z => hsp.1 z H locs arr w lv) (fun z => hsp.2 z H locs arr w lv)
      case lt => exact lv_if_lt hx hb hd (of_decide_eq_true hax) (fun z => hsp.1 z H locs arr w lv) (fun z => hsp.2 z H locs arr w lv)
      case ge => exact lv_if_ge hx hb hd (of_decide_eq_true hax) (fun z => hsp.1 z H locs arr w lv) (fun z => hsp.2 z H locs arr w lv)
      case gt => exact lv_if_gt hx hb hd (of_decide_eq_true hax) (fun z => hsp.1 z H locs arr w lv) (fun z => hsp.2 z H locs arr w lv)
      case le => exact lv_if_le hx hb hd (of_decide_eq_true hax) (fun z => hsp.1 z H locs arr w lv) (fun z => hsp.2 z H locs arr w lv)
    · exact hsp.elim
  case if_icmp c9 off =>
    obtain rfl := len_eq hlen (n := 3) rfl (by decide)
    unfold spI at hsp
    dsimp only at hsp
    intro H locs arr w lv
    unfold auxOk at hax
    dsimp only at hax
    split at hsp
    · cases c9
      case eq => exact lv_icmp_eq hx hb hd (of_decide_eq_true hax) (fun z => hsp.1 z H locs arr w lv) (fun z => hsp.2 z H locs arr w lv)
      case ne => exact lv_icmp_ne hx hb hd (of_decide_eq_true hax) (fun z => hsp.1 z H locs arr w lv) (fun z => hsp.2 z H locs arr w lv)
      case lt => exact lv_icmp_lt hx hb hd (of_decide_eq_true hax) (fun z => hsp.1 z H locs arr w lv) (fun z => hsp.2 z H locs arr w lv)
      case ge => exact lv_icmp_ge hx hb hd (of_decide_eq_true hax) (fun z => hsp.1 z H locs arr w lv) (fun z => hsp.2 z H locs arr w lv)
      case gt => exact lv_icmp_gt hx hb hd (of_decide_eq_true hax) (fun z => hsp.1 z H locs arr w lv) (fun z => hsp.2 z H locs arr w lv)
      case le => exact lv_icmp_le hx hb hd (of_decide_eq_true hax) (fun z => hsp.1 z H locs arr w lv) (fun z => hsp.2 z H locs arr w lv)
    · exact hsp.elim
  case tableswitch d lo hi offs =>
    unfold spI at hsp
    dsimp only at hsp
    intro H locs arr w lv
    unfold auxOk at hax
    dsimp only at hax
    split at hsp
    · next aux9 st9 td ts x r =>
      simp only [okTg, Bool.and_eq_true, decide_eq_true_eq] at hax
      obtain ⟨⟨h1, h2⟩, h3⟩ := hax
      have h4 := tsw_in (x := x.toInt) (td := td) offs.toList ts lo h3 hsp
      by_cases hin : lo ≤ x.toInt ∧ x.toInt < lo + offs.toList.length
      · obtain ⟨off, t, g1, g2, g3⟩ := h4.1 hin
        have hsz : (offs.toList.length : Int) = offs.size := by simp
        exact lv_tableIn hx hb hd (by omega) (by omega) (by rw [← Array.getElem?_toList]; exact g1) g2 (g3 H locs arr w lv)
      · have hsz : (offs.toList.length : Int) = offs.size := by simp
        exact lv_tableOut hx hb hd (by omega) h1 (h4.2 hin H locs arr w lv)
    · exact hsp.elim
  case lookupswitch d ps =>
    unfold spI at hsp
    dsimp only at hsp
    intro H locs arr w lv
    unfold auxOk at hax
    dsimp only at hax
    split at hsp
    · next aux9 st9 td ts x r =>
      simp only [okTg, Bool.and_eq_true, decide_eq_true_eq] at hax
      obtain ⟨⟨h1, h2⟩, h3⟩ := hax
      obtain ⟨t, g1, g2⟩ := lsw_in (x := x.toInt) h1 ps.toList ts h3 hsp
      exact lv_lookup hx hb hd h2 rfl g1 (g2 H locs arr w lv)
    · exact hsp.elim
  case getfield idx =>
    obtain rfl := len_eq hlen (n := 3) rfl (by decide)
    unfold spI at hsp
    dsimp only at hsp
    intro H locs arr w lv
    split at hsp
    · unfold auxOk at hax
      dsimp only at hax
      obtain ⟨fs, v, ha, hN, hv, kk⟩ := hsp
      exact sd_get C0 hd hax w ha hN hv (kk H locs arr w lv)
    · exact hsp.elim
  case putfield idx =>
    obtain rfl := len_eq hlen (n := 3) rfl (by decide)
    unfold spI at hsp
    dsimp only at hsp
    intro H locs arr w lv
    split at hsp
    · unfold auxOk at hax
      dsimp only at hax
      obtain ⟨fs, ha, hN, hl, hpf, kk⟩ := hsp
      simp only [Bool.and_eq_true] at hax
      exact sd_put C0 hd hax.1 hax.2 w ha hN (Nat.le_of_ble_eq_true hl) hpf (fun H1 locs1 w1 => kk H1 locs1 arr w1 lv)
    · exact hsp.elim
  case iaload =>
    obtain rfl := len_eq hlen (n := 1) rfl (by decide)
    unfold spI at hsp
    dsimp only at hsp
    intro H locs arr w lv
    split at hsp
    · next st9 i a r =>
      obtain ⟨n, f, ha, hN, hin, kk⟩ := hsp
      have o := w.2.1 a hN
      rw [ha] at o
      have hK : va_K D vwCl [(ca a, .int)] s := ⟨w.1.1, fun k q hk => by
        match k, hk with
        | 0, hk => cases hk; exact o
        | k + 1, hk => cases hk⟩
      exact va_iald hx hb hK w.2.2.1 a 0 (by rw [av_ws_at hN, ha]; rfl) rfl hin hd (kk H locs arr w lv)
    · exact hsp.elim
  case iastore =>
    obtain rfl := len_eq hlen (n := 1) rfl (by decide)
    unfold spI at hsp
    dsimp only at hsp
    intro H locs arr w lv
    split at hsp
    · next st9 x i a r =>
      obtain ⟨n, f, ha, hN, hin, kk⟩ := hsp
      have o := w.2.1 a hN
      rw [ha] at o
      have hK : va_K D vwCl [(ca a, .int)] s := ⟨w.1.1, fun k q hk => by
        match k, hk with
        | 0, hk => cases hk; exact o
        | k + 1, hk => cases hk⟩
      refine va_iast hx hb hK w.2.2.1 w.2.2.2.1 w.2.2.2.2 a 0 (f := f) (by rw [av_ws_at hN, ha]; rfl) rfl hin hd (fun H1 locs1 hP hD hS => ?_)
      exact kk H1 locs1 arr (w.up (e := .inl (0, n, .inl (upd f i.toNatClampNeg x))) o hP hD hS) lv
    · exact hsp.elim
  case laload =>
    obtain rfl := len_eq hlen (n := 1) rfl (by decide)
    unfold spI at hsp
    dsimp only at hsp
    intro H locs arr w lv
    split at hsp
    · next st9 i a r =>
      obtain ⟨n, f, ha, hN, hin, kk⟩ := hsp
      have o := w.2.1 a hN
      rw [ha] at o
      have hK : va_K D vwCl [(ca a, .long)] s := ⟨w.1.1, fun k q hk => by
        match k, hk with
        | 0, hk => cases hk; exact o
        | k + 1, hk => cases hk⟩
      exact va_lald hx hb hK w.2.2.1 a 0 (by rw [av_ws_at hN, ha]; rfl) rfl hin hd (kk H locs arr w lv)
    · exact hsp.elim
  case lastore =>
    obtain rfl := len_eq hlen (n := 1) rfl (by decide)
    unfold spI at hsp
    dsimp only at hsp
    intro H locs arr w lv
    split at hsp
    · next st9 x i a r =>
      obtain ⟨n, f, ha, hN, hin, kk⟩ := hsp
      have o := w.2.1 a hN
      rw [ha] at o
      have hK : va_K D vwCl [(ca a, .long)] s := ⟨w.1.1, fun k q hk => by
        match k, hk with
        | 0, hk => cases hk; exact o
        | k + 1, hk => cases hk⟩
      refine va_last hx hb hK w.2.2.1 w.2.2.2.1 w.2.2.2.2 a 0 (f := f) (by rw [av_ws_at hN, ha]; rfl) rfl hin hd (fun H1 locs1 hP hD hS => ?_)
      exact kk H1 locs1 arr (w.up (e := .inl (1, n, .inr (.inl (vp_updL f i.toNatClampNeg x)))) o hP hD hS) lv
    · exact hsp.elim
  case aaload =>
    obtain rfl := len_eq hlen (n := 1) rfl (by decide)
    unfold spI at hsp
    dsimp only at hsp
    intro H locs arr w lv
    split at hsp
    · next st9 i a r =>
      obtain ⟨t, n, f, b9, ha, ht, hN, hin, hf, kk⟩ := hsp
      have o := w.2.1 a hN
      rw [ha] at o
      have hlt : i.toNatClampNeg < n := Nat.not_le.mp fun q => hin (Or.inr q)
      have hcell : H[ad a]? = some (vp_cell (ca a) (n, .inr (.inr (.inr (.inr (fun i => (f i).map ad)))))) := w.2.2.1 a (ad a, .inl (ca a, n, .inr (.inr (.inr (.inr (fun i => (f i).map ad)))))) (by rw [av_ws_at hN, ha]; rfl)
      refine W.aald (v := .ref (ad b9)) (ty := av_ty t) hx hb hcell (o.1 n (fun j => va_rf ((f j).map ad))) (by rcases ht with e | e | e <;> subst e <;> rfl) (fun q => by cases q) (by show ¬ (i < 0 ∨ (arrV _ _ _).slots.size ≤ _); rw [arrV_size]; exact hin) (by show (arrV _ _ _).slots[_]? = _; rw [arrV_read _ _ hlt]; show some (va_rf ((f _).map ad)) = _; rw [hf]; rfl) rfl rfl hd (kk H locs arr w lv)
    · exact hsp.elim
  case arraylength =>
    obtain rfl := len_eq hlen (n := 1) rfl (by decide)
    unfold spI at hsp
    dsimp only at hsp
    intro H locs arr w lv
    split at hsp
    · next st9 a r =>
      obtain ⟨t, x, ha, hN, kk⟩ := hsp
      have o := w.2.1 a hN
      rw [ha] at o
      have hK : va_K D vwCl [(ca a, av_ty t)] s := ⟨w.1.1, fun k q hk => by
        match k, hk with
        | 0, hk => cases hk; exact o
        | k + 1, hk => cases hk⟩
      obtain ⟨x1, x2⟩ := x
      exact va_alen hx hb hK w.2.2.1 a 0 (x := (x1, av_x ad x2)) (by rw [av_ws_at hN, ha]; rfl) rfl rfl hd (kk H locs arr w lv)
    · exact hsp.elim
  case invokevirtual idx =>
    obtain rfl := len_eq hlen (n := 3) rfl (by decide)
    unfold spI at hsp
    dsimp only at hsp
    unfold auxOk at hax
    dsimp only at hax
    split at hsp
    · exact sd_inv C0 hd hax hsp
    · exact hsp.elim
  case invokestatic idx =>
    obtain rfl := len_eq hlen (n := 3) rfl (by decide)
    unfold spI at hsp
    dsimp only at hsp
    unfold auxOk at hax
    dsimp only at hax
    split at hsp
    · exact sd_ins C0 hd hax hsp
    · exact sd_cpy C0 hd hax hsp
    · exact hsp.elim
  all_goals exact hsp.elim
end SN2
