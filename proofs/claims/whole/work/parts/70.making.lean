/-! ===== making objects: words ===== -/
def gq : List Nat → Nat → Nat
  | [], _ => 0
  | a :: _, 0 => a
  | _ :: l, k + 1 => gq l k
theorem lt5 {i : Nat} (h : i < 5) : i = 0 ∨ i = 1 ∨ i = 2 ∨ i = 3 ∨ i = 4 := by omega
def rowq (q : Nat → Nat) (b : Nat) : Nat → Option Nat := fun i => if i < 5 then some (q (b + i)) else none
theorem rowq_of {q r : Nat → Nat} {b : Nat} (h : ∀ i, i < 5 → q (b + i) = r i) : (fun i => if i < 5 then some (r i) else none) = rowq q b := funext (fun i => by
  unfold rowq
  by_cases hi : i < 5
  · rw [if_pos hi, if_pos hi, h i hi]
  · rw [if_neg hi, if_neg hi])
theorem rowq_eq {q r : Nat → Nat} {b a : Nat} (h : ∀ i, i < 5 → q (b + i) = r (a + i)) : rowq r a = rowq q b := rowq_of (r := fun i => r (a + i)) h
theorem va_AOA.moved {ty : FieldType} {u U : State} (hvm : u.vm.Alike U.vm) (h : va_AOA ty u) : va_AOA ty U := by
  obtain ⟨comp, c, k, h1, h2, h3, h4, h5⟩ := arrayOverA_spec h
  obtain ⟨k', hk', he⟩ := hvm.2.2 _ _ h3
  have hi : (U.vm.classes.findIdx? fun (x : Class) => match x.kind with | .array component _ => component == comp | _ => false) = some c := (hvm.findIdx?_eq _ (fun _ => rfl)).trans h2
  have hkind : k'.kind = .array comp (.array ty) := by rw [he]; exact h4
  have f1 : U.vm.findClass (FieldType.array ty).toString = some comp := by rw [hvm.findClass]; exact h1
  have f2 : U.vm.findClass ("[" ++ (FieldType.array ty).toString) = some c := by rw [hvm.findClass]; exact h5
  unfold va_AOA Cond.before Cond.holds
  simp only [Cond.value]
  rw [f1, Option.bind_some]
  refine (congrArg (fun o : Option Nat => (o.bind (fun c => (U.vm.classes[c]?).map fun (k : Class) => match k.kind with | .array _ t9 => decide (t9 = FieldType.array ty) && decide (U.vm.findClass ("[" ++ (FieldType.array ty).toString) = some c) | _ => false) == some true)) hi).trans ?_
  simp [hk', hkind, f2]
/-- what the tables say beyond the words that a contract carries by itself -/
def NZ (U : State) : Prop := va_Nw (.methodLinkNest RX6 19 yX3_init "ToppleYard") U ∧ va_Nw (.methodLinkNest RX3 20 yX2_init "ToppleYard") U ∧ va_Nw (.methodLinkNest RX6 26 yX5_init "ToppleYard") U ∧ va_Nw (.methodLinkNest RX6 33 yX0_init "ToppleYard") U ∧ va_Nw (.methodLinkNest RX6 40 yX2_init "ToppleYard") U ∧ va_Nw (.methodLinkNest RX6 51 yX1_init "ToppleYard") U ∧ va_Nw (.methodLinkNest RX6 65 yX4_init "ToppleYard") U ∧ va_AO "ToppleYard$Sheet" U ∧ va_AOA .int U ∧ va_AOA .long U
theorem NZ.moved {s U : State} (hW : s.WarmedH U.vm) (h : NZ s) : NZ U := by
  obtain ⟨a0, a1, a2, a3, a4, a5, a6, a7, a8, a9⟩ := h
  exact ⟨a0.warmM hW, a1.warmM hW, a2.warmM hW, a3.warmM hW, a4.warmM hW, a5.warmM hW, a6.warmM hW, a7.moved hW.alike, a8.moved hW.alike, a9.moved hW.alike⟩
theorem NZ.same {u U : State} (h : u.vm = U.vm) (hz : NZ u) : NZ U := by
  obtain ⟨a0, a1, a2, a3, a4, a5, a6, a7, a8, a9⟩ := hz
  have hal : u.vm.Alike U.vm := by rw [h]; exact Vm.Alike.refl _
  exact ⟨a0.same rfl h, a1.same rfl h, a2.same rfl h, a3.same rfl h, a4.same rfl h, a5.same rfl h, a6.same rfl h, a7.moved hal, a8.moved hal, a9.moved hal⟩
theorem good_cons {w : Cond} (h : w ∈ tbG) : GoodIn tbG (w :: tbG) := by
  intro w' hw
  rcases List.mem_cons.mp hw with e | e
  · rw [e]; exact ⟨h, tbG_good _ h⟩
  · exact ⟨e, tbG_good _ e⟩
theorem va_K.add {D : va_G} {cl : List vw_C} {tys : List (ClassId × FieldType)} {s : State} {c : ClassId} {ty : FieldType} (hK : va_K D cl tys s) (h1 : ArrOfT s c ty) (h2 : va_RA s c ty) : va_K D cl (tys ++ [(c, ty)]) s := by
  refine ⟨hK.1, fun k x hx => ?_⟩
  by_cases hl : k < tys.length
  · rw [List.getElem?_append_left hl] at hx
    exact hK.2 k x hx
  · rw [List.getElem?_append_right (by omega)] at hx
    have hz : k - tys.length < 1 := (List.getElem?_eq_some_iff.mp hx).1
    rw [show k - tys.length = 0 by omega] at hx
    cases hx
    exact ⟨h1, h2⟩
theorem arrc_int {args : Array Value} {s : State} (h : (Cond.arrayClass .int).before args s = true) : ∃ c : ClassId, s.vm.findClass (FieldType.array .int).toString = some c ∧ ArrOfT s c .int ∧ va_RA s c .int := by
  obtain ⟨comp, kC, cc, h1, h2, h3⟩ := Cond.arrayClass_spec h
  exact ⟨comp, h1, fun n z => ⟨fun k h => (by cases h), kC, h2, cc, h3⟩, h1⟩
theorem arrc_long {args : Array Value} {s : State} (h : (Cond.arrayClass .long).before args s = true) : ∃ c : ClassId, s.vm.findClass (FieldType.array .long).toString = some c ∧ ArrOfT s c .long ∧ va_RA s c .long := by
  obtain ⟨comp, kC, cc, h1, h2, h3⟩ := Cond.arrayClass_spec h
  exact ⟨comp, h1, fun n z => ⟨fun k h => (by cases h), kC, h2, cc, h3⟩, h1⟩
theorem inr_int (k : Nat) : ∀ c : ClassId, Jvm.Free.Multi.innerC c k (defaultValue .int) = vp_cell c (k, .inl (fun _ => 0)) := fun c => by
  show ({ cls := c, slots := Array.replicate k (Value.int 0), vm := .none } : Cell) = _
  rw [arrV_new]
  rfl
theorem inr_long (k : Nat) : ∀ c : ClassId, Jvm.Free.Multi.innerC c k (defaultValue .long) = vp_cell c (k, .inr (.inl (fun _ => 0))) := fun c => by
  show ({ cls := c, slots := Array.replicate k (Value.long 0), vm := .none } : Cell) = _
  rw [arrV_new]
  rfl
theorem mna5 {r : Nat → Nat} {f : Nat → va_E} {e : va_E} : va_pl ([] ++ (List.range 5).map r) (vr_up f ((List.range 5).map r) e) = [(r 0, e), (r 1, e), (r 2, e), (r 3, e), (r 4, e)] := by
  rw [show (List.range 5).map r = [r 0, r 1, r 2, r 3, r 4] from rfl]
  unfold va_pl
  simp [vr_up]
theorem dfX0 : ∀ j, j < 3 → defaultValue (tyX0 j) = vp_V [.null, .null, .int 0] j := by
  intro j hj
  match j, hj with
  | 0, _ => rfl
  | 1, _ => rfl
  | 2, _ => rfl
  | k + 3, h => exact absurd h (by omega)
theorem dfX1 : ∀ j, j < 6 → defaultValue (tyX1 j) = vp_V [.null, .null, .null, .null, .null, .int 0] j := by
  intro j hj
  match j, hj with
  | 0, _ => rfl
  | 1, _ => rfl
  | 2, _ => rfl
  | 3, _ => rfl
  | 4, _ => rfl
  | 5, _ => rfl
  | k + 6, h => exact absurd h (by omega)
theorem dfX2 : ∀ j, j < 4 → defaultValue (tyX2 j) = vp_V [.null, .null, .int 0, .int 0] j := by
  intro j hj
  match j, hj with
  | 0, _ => rfl
  | 1, _ => rfl
  | 2, _ => rfl
  | 3, _ => rfl
  | k + 4, h => exact absurd h (by omega)
theorem dfX3 : ∀ j, j < 5 → defaultValue (tyX3 j) = vp_V [.null, .null, .null, .null, .int 0] j := by
  intro j hj
  match j, hj with
  | 0, _ => rfl
  | 1, _ => rfl
  | 2, _ => rfl
  | 3, _ => rfl
  | 4, _ => rfl
  | k + 5, h => exact absurd h (by omega)
theorem dfX4 : ∀ j, j < 3 → defaultValue (tyX4 j) = vp_V [.null, .int 0, .int 0] j := by
  intro j hj
  match j, hj with
  | 0, _ => rfl
  | 1, _ => rfl
  | 2, _ => rfl
  | k + 3, h => exact absurd h (by omega)
theorem dfX5 : ∀ j, j < 4 → defaultValue (tyX5 j) = vp_V [.null, .int 0, .int 0, .int 0] j := by
  intro j hj
  match j, hj with
  | 0, _ => rfl
  | 1, _ => rfl
  | 2, _ => rfl
  | 3, _ => rfl
  | k + 4, h => exact absurd h (by omega)
theorem dfX6 : ∀ j, j < 12 → defaultValue (tyX6 j) = vp_V [.null, .null, .null, .null, .null, .null, .null, .null, .null, .null, .int 0, .int 0] j := by
  intro j hj
  match j, hj with
  | 0, _ => rfl
  | 1, _ => rfl
  | 2, _ => rfl
  | 3, _ => rfl
  | 4, _ => rfl
  | 5, _ => rfl
  | 6, _ => rfl
  | 7, _ => rfl
  | 8, _ => rfl
  | 9, _ => rfl
  | 10, _ => rfl
  | 11, _ => rfl
  | k + 12, h => exact absurd h (by omega)
theorem dfX7 : ∀ j, j < 31 → defaultValue (tyX7 j) = vp_V [.int 0, .int 0, .null, .null, .null, .int 0, .int 0, .int 0, .null, .null, .null, .null, .null, .int 0, .int 0, .null, .null, .null, .null, .int 0, .int 0, .int 0, .null, .null, .null, .null, .null, .null, .int 0, .null, .null] j := by
  intro j hj
  match j, hj with
  | 0, _ => rfl
  | 1, _ => rfl
  | 2, _ => rfl
  | 3, _ => rfl
  | 4, _ => rfl
  | 5, _ => rfl
  | 6, _ => rfl
  | 7, _ => rfl
  | 8, _ => rfl
  | 9, _ => rfl
  | 10, _ => rfl
  | 11, _ => rfl
  | 12, _ => rfl
  | 13, _ => rfl
  | 14, _ => rfl
  | 15, _ => rfl
  | 16, _ => rfl
  | 17, _ => rfl
  | 18, _ => rfl
  | 19, _ => rfl
  | 20, _ => rfl
  | 21, _ => rfl
  | 22, _ => rfl
  | 23, _ => rfl
  | 24, _ => rfl
  | 25, _ => rfl
  | 26, _ => rfl
  | 27, _ => rfl
  | 28, _ => rfl
  | 29, _ => rfl
  | 30, _ => rfl
  | k + 31, h => exact absurd h (by omega)
