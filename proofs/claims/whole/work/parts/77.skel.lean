/-! THE CLAIM OUT OF ONE WALK OF THE LAW'S BODY. Your part is whole_start (and what it stands on); all else here is the same for every law, but numbers. -/
def R_law : String := "ToppleYardLaw"
def lw_P (b : Addr) (xs : List Int32) (args : Array Value) (s : State) : Prop := args = #[.ref b] ∧ s.IntsAt b xs ∧ xs.length ≤ 3072 ∧ (Jvm.Cond.and given_1 narrow_1).before args s = true
def lw_Q (_ : Array Value) (s : State) (o : Outcome) (t : State) : Prop := o = .returned (some (.int 1)) ∧ Framed s o t [] 600000 7302250
def lw_Z (below : List Frame) (a : Array Value) (s : State) : State → Prop := fun t => ∃ o, t.status = .running ∧ Ended t below o ∧ lw_Q a s o t
/-- the law's own end, with 1 on the stack, nothing written that was there before, its room as the claim has it -/
theorem lw_ret {p : Program} {l : Launch} {e : Env} {s : State} {m : MethodId} {below : List Frame} {meth : Method} {c : Code} {b : Nat} (hx : p.tables.exec = Jvm.exec) (hb : c.code = code) (hr : meth.sig.returnType = ret) (hlocks : meth.locks = false) {pc : Nat} {H : Heap} {ls : Array Slot} (hdg : decode code pc = .ok (.ireturn, 1)) : W p l e room_1 s m #[Value.ref b] below meth c H [] 600000 7302250 (lw_Z below #[Value.ref b] s) (F0 m pc ls [.int 1]) := by
  intro T hT X
  obtain ⟨fs, hret, hrun, hended, hW, hframe⟩ := X.leave (v := some (.int 1)) (hlocks := hlocks) (fun h => by rw [hr] at h; cases h)
  have hmeth' : T.vm.method? m = some meth := X.method'
  refine ⟨T.setFrames fs, ?_, .returned (some (.int 1)), hrun, hended, rfl, ⟨_, rfl⟩, hW, hframe⟩
  jvm_step X.here [X.here.top, hx, hb, hdg, hmeth', hr, ret, narrow_b1]
  (try refine ⟨rfl, ?_⟩); (try refine ⟨rfl, ?_⟩)
  first | (intro acts; rw [hret _ acts rfl rfl rfl]) | rw [hret _ _ rfl rfl rfl]
  exact Steps.refl _
/-- what holds at the law's entry: the machine, the code, the tables' words (any of lw_tbl by 'hts w (by decide +kernel)'), the script of L ints xs at the cell b, what the Statement gives of the start (any of its parts by flat_of_before) -/
def lw_At (p : Program) (s : State) (m : MethodId) (meth : Method) (c : Code) (b L : Nat) (xs : Nat → Int32) : Prop :=
  p.tables.exec = Jvm.exec ∧ c.code = code ∧ meth.sig.returnType = ret ∧ c.maxLocals = 4 ∧ s.vm.findClass R_law = some m.cls ∧ (∀ w ∈ lw_tbl, w.before #[Value.ref b] s = true) ∧ va_X b L xs s s.heap ∧ b < s.heap.size ∧ meth.locks = false ∧ (Jvm.Cond.and given_1 narrow_1).before #[Value.ref b] s = true
/-! ===== the law's steps are sound ===== -/
theorem tbG_of {args : Array Value} {s : State} (h : ∀ w ∈ lw_tbl, w.before args s = true) : ∀ w ∈ tbG, w.before args s = true := fun w hw => h w (List.mem_filter.mp hw).1
set_option maxHeartbeats 4000000 in
theorem law_sound {p : Program} {e : Env} {s : State} {m : MethodId} {below : List Frame} {meth : Method} {c : Code} {l : Launch} {b L : Nat} {xs : Nat → Int32} {D : va_G} {ad : Nat → Nat} {ca : Nat → ClassId} {cells slots : Nat} (C0 : lw_At p s m meth c b L xs) (hbad : ad 82 = b) (hcells : cells ≤ 600000) (hslots : slots ≤ 7302250) {R : Rows} (hR : rowsOk RL code 9 326 R = true) :
    ∀ h pc ls st, FsL l R L xs (ZW p l e room_1 s m #[Value.ref b] below meth c cells slots (lw_Z below #[Value.ref b] s) 4 D (fun q : Nat => s.heap.size ≤ q) ad ca 82) h pc ls st → ZW p l e room_1 s m #[Value.ref b] below meth c cells slots (lw_Z below #[Value.ref b] s) 4 D (fun q : Nat => s.heap.size ≤ q) ad ca 82 h pc ls st := by
  obtain ⟨hx, hb, hr, hml, hown, hts, hX, hbl, hlocks, hgv⟩ := C0
  have hbA : ¬ (fun q : Nat => s.heap.size ≤ q) b := Nat.not_le.mpr hbl
  have C : Ctx p room_1 s m #[Value.ref b] c cells slots code RL 4 (fun q : Nat => s.heap.size ≤ q) := ⟨hx, hb, hml, hown, tbG_of hts, ⟨hcells, hslots⟩, fun _ h => h⟩
  intro h pc ls st hF
  unfold FsL at hF
  split at hF
  · exact hF.elim
  · next q hq =>
    have hrow := List.all_eq_true.mp hR _ (lk_mem hq)
    have hdec : decode code pc = .ok (q.1, q.2.1) ∧ (lenOf q.1 == q.2.1 || lenOf q.1 == 0) = true := by
      unfold rowOk at hrow
      simp only [Bool.and_eq_true, decide_eq_true_eq] at hrow
      exact hrow.1
    obtain ⟨i, len, aux, cal⟩ := q
    dsimp only at hF hdec
    split at hF
    · obtain rfl := len_eq hdec.2 (n := 1) rfl (by decide)
      split at hF
      · next i a r =>
        obtain ⟨ha, hv, hk⟩ := hF
        subst ha
        intro H locs arr w lv
        show W p l e room_1 s m #[Value.ref b] below meth c H locs cells slots _ (F0 m pc arr (.int i :: .ref (ad 82) :: r.map (av_v ad)))
        rw [hbad]
        exact va_sld hx hb hX hbl hbA w.2.2.2.2 hv hdec.1 (hk H locs arr w lv)
      · exact hF.elim
    · obtain rfl := len_eq hdec.2 (n := 1) rfl (by decide)
      split at hF
      · next a r =>
        obtain ⟨ha, hk⟩ := hF
        subst ha
        intro H locs arr w lv
        show W p l e room_1 s m #[Value.ref b] below meth c H locs cells slots _ (F0 m pc arr (.ref (ad 82) :: r.map (av_v ad)))
        rw [hbad]
        exact va_slen hx hb hX hbl hbA w.2.2.2.2 hdec.1 (hk H locs arr w lv)
      · exact hF.elim
    · obtain rfl := len_eq hdec.2 (n := 1) rfl (by decide)
      subst hF
      intro H locs arr w lv
      refine va_forget (fun q hq => w.2.2.2.2.2.2 q hq) ?_
      refine W.widen (k := 600000) (n := 7302250) hcells hslots ?_
      exact lw_ret hx hb hr hlocks hdec.1
    · exact spI_sound C hrow hF
