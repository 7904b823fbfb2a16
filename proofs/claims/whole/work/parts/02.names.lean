/-- an array of arrays stands in the tables (this word is wanting in the kit) -/
def va_AOA (ty : FieldType) (U : State) : Prop := (Cond.arrayOver (.array ty)).before #[] U = true
theorem va_AOA.use {ty : FieldType} {A : Array Value} {U : State} (h : va_AOA ty U) : (Cond.arrayOver (.array ty)).before A U = true := h
/-! ===== BEGIN words of one list among another's, by their places ===== -/
theorem goodIn_r {big : List Cond} (ws : List Cond) (ps : List Nat) (hp : ws = ps.filterMap (fun i => big[i]?)) (h : ws.all goodWord = true) : GoodIn big ws := by
  intro w hw
  have h1 := List.all_eq_true.mp h w hw
  rw [hp] at hw
  obtain ⟨i, -, hi⟩ := List.mem_filterMap.mp hw
  have hm : w ∈ big := by first | exact List.mem_of_getElem? hi | exact List.getElem?_mem hi
  exact ⟨hm, good_of_word h1⟩
theorem goodIn_app {big a b : List Cond} (ha : GoodIn big a) (hb : GoodIn big b) : GoodIn big (a ++ b) := fun w h => (List.mem_append.mp h).elim (ha w) (hb w)
theorem goodIn_ca {big a b : List Cond} {c : Cond} (ha : GoodIn big (c :: a)) (hb : GoodIn big b) : GoodIn big (c :: (a ++ b)) := fun w h => (List.mem_cons.mp h).elim (fun e => ha w (List.mem_cons.mpr (Or.inl e))) (fun h => (List.mem_append.mp h).elim (fun h => ha w (List.mem_cons.mpr (Or.inr h))) (hb w))
theorem goodIn_sub {big ws : List Cond} (hm : ∀ w ∈ ws, w ∈ big) (h : ws.all goodWord = true) : GoodIn big ws := fun w hw => ⟨hm w hw, good_of_word (List.all_eq_true.mp h w hw)⟩
/-! ===== END ===== -/

/-! ===== BEGIN new T[n][m]: the outer array a place, the inner ones among the pooled ===== -/
/-- f, but v at every address of l -/
def vr_up {α : Type} (f : Nat → α) (l : List Nat) (v : α) : Nat → α := fun a => if a ∈ l then v else f a
theorem vr_up_in {α : Type} {f : Nat → α} {l : List Nat} {v : α} {a : Nat} (h : a ∈ l) : vr_up f l v a = v := if_pos h
theorem vr_up_ne {α : Type} {f : Nat → α} {l : List Nat} {v : α} {a : Nat} (h : a ∉ l) : vr_up f l v a = f a := if_neg h
theorem vr_rows {L l : List Nat} {f : Nat → va_E} {e : va_E} (h : ∀ a, a ∈ l → a ∉ L) : va_pl L f ++ l.map (fun a => (a, e)) = va_pl (L ++ l) (vr_up f l e) := by
  unfold va_pl
  rw [List.map_append]
  congr 1
  · apply List.map_congr_left
    intro a ha
    rw [vr_up_ne (fun q => h a q ha)]
  · apply List.map_congr_left
    intro a ha
    rw [vr_up_in ha]
theorem vr_lay {X rows : va_W} {x : Nat × va_E} {pl : va_W} {D : va_G} {cl : List vw_C} {H : Heap} (hP : va_P D cl (((X ++ pl) ++ [x]) ++ rows) H) : va_P D cl ((X ++ [x]) ++ (pl ++ rows)) H := by
  rw [List.append_assoc (X ++ pl)] at hP
  have h := va_P.swap hP
  rw [← List.append_assoc X] at h
  have h2 := va_P.swap h
  rw [List.append_assoc (X ++ [x])] at h2
  exact h2
theorem vr_layD {X rows : va_W} {x : Nat × va_E} {pl : va_W} {A : Nat → Prop} (hD : va_D A (((X ++ pl) ++ [x]) ++ rows)) : va_D A ((X ++ [x]) ++ (pl ++ rows)) := by
  rw [List.append_assoc (X ++ pl)] at hD
  have h := va_D.swap hD
  rw [← List.append_assoc X] at h
  have h2 := va_D.swap h
  rw [List.append_assoc (X ++ [x])] at h2
  exact h2
theorem vr_outer (c : ClassId) (N h0 : Nat) : ∀ i : Nat, Jvm.Free.Multi.outerC c N h0 i = arrV c N (fun j => va_rf (if j < i then some (h0 + 1 + j) else none))
  | 0 => by
    show ({ cls := c, slots := Array.replicate N .null, vm := .none } : Cell) = _
    rw [arrV_new]
    refine congrArg (arrV c N) (funext fun j => ?_)
    simp [va_rf]
  | i + 1 => by
    show (Jvm.Free.Multi.outerC c N h0 i).setSlot i (.ref (h0 + 1 + i)) = _
    rw [vr_outer c N h0 i, arrV_store]
    refine congrArg (arrV c N) (funext fun j => ?_)
    by_cases e : j = i
    · subst e
      simp [updV, va_rf]
    · by_cases h : j < i
      · simp [updV, e, h, Nat.lt_succ_of_lt h]
      · simp [updV, e, h, show ¬ j < i + 1 by omega]
section VGM
variable {p : Program} {l : Launch} {e : Env} {R : Room} {s : State} {m : MethodId} {args : Array Value} {below : List Frame} {meth : Method} {c : Code} {H : Heap} {locs : List Loc} {cells slots : Nat} {Q : State → Prop}
variable {cc : ByteArray} {pc : Nat} {ls : Array Slot} {rest : List Value} {D : va_G} {cl : List vw_C} {A : Nat → Prop} {a : Nat} {tys : List (ClassId × FieldType)} {ws : va_W} {H0 : Heap}
theorem va_mna {X : va_W} {L : List Nat} {f : Nat → va_E} {cc : ByteArray} (hexec : p.tables.exec = Jvm.exec) (hb : c.code = cc) {own : String} {index : Nat} {ty : FieldType} {cy : ClassId} (hown : s.vm.findClass own = some m.cls) (hclink : (Cond.classLink own index ("[" ++ (FieldType.array ty).toString)).before args s = true) (hover : va_AOA ty s) (harr : (Cond.arrayClass ty).before args s = true) (hcy : s.vm.findClass (FieldType.array ty).toString = some cy)
    (hK : va_K D cl tys s) (hP : va_P D cl (X ++ va_pl L f) H) (hD : va_D A (X ++ va_pl L f)) (hS : va_S A H0 H locs) (hA : ∀ q, H0.size ≤ q → A q) {n k : Int32} {N' K' : Nat} {z : vp_A} (hn : ¬ n < 0) (hk : ¬ k < 0) (hN : n.toNatClampNeg = N') (hM : k.toNatClampNeg = K')
    (hb1 : N' * 4 ≤ 536870912) (hb2 : K' * componentBytes ty ≤ 536870912) (hb3 : K' ≤ 536870912) (hdf : fits ty (defaultValue ty) = true) (hdd : (defaultValue ty).isDefault = true) (hcells : cells + (1 + N') ≤ R.cells) (hslots : slots + (N' + N' * K') ≤ R.slots) (hz : ∀ c : ClassId, Jvm.Free.Multi.innerC c K' (defaultValue ty) = vp_cell c z) (hdg : decode cc pc = .ok (.multianewarray index 2, 4))
    (kk : ∀ (q : Nat) (r : Nat → Nat) (cA : ClassId) (H1 : Heap), (∀ i j : Nat, i < N' → j < N' → r i = r j → i = j) → (∀ i : Nat, i < N' → r i ∉ L) → va_K D cl (tys ++ [(cA, .array ty)]) s →
      va_P D cl ((X ++ [(q, .inl (cA, N', .inr (.inr (.inr (.inr (fun i => if i < N' then some (r i) else none))))))]) ++ va_pl (L ++ (List.range N').map r) (vr_up f ((List.range N').map r) (.inl (cy, z)))) H1 → va_D A ((X ++ [(q, .inl (cA, N', .inr (.inr (.inr (.inr (fun i => if i < N' then some (r i) else none))))))]) ++ va_pl (L ++ (List.range N').map r) (vr_up f ((List.range N').map r) (.inl (cy, z)))) → va_S A H0 H1 locs →
      W p l e R s m args below meth c H1 locs (cells + 1 + N') (slots + N' + N' * K') Q (F0 m (pc + 4) ls (.ref q :: rest))) : W p l e R s m args below meth c H locs cells slots Q (F0 m pc ls (.int k :: .int n :: rest)) := by
  subst hN
  subst hM
  intro T hT Xs
  obtain ⟨vm₁, cA, comp, -, fA, fC, hO, -, X', step⟩ := Xs.multianewarray2F hexec hown hclink (va_AOA.use hover) harr (g := F0 m pc ls (.int k :: .int n :: rest)) rfl (by rw [hb]; exact hdg) rfl hn hk hb1 hb2 hb3 hdf hdd hcells hslots
  have ec : some cy = some comp := hcy.symm.trans fC
  cases ec
  generalize hF : Jvm.Free.Multi.fill (T.setVm vm₁) cA cy n.toNatClampNeg k.toNatClampNeg (defaultValue ty) n.toNatClampNeg = F at X' step
  have hTh : (T.setVm vm₁).heap = H := hT
  obtain ⟨f1, f2, -, -⟩ := Jvm.Free.Multi.fill_facts (T.setVm vm₁) cA cy n.toNatClampNeg k.toNatClampNeg (defaultValue ty) n.toNatClampNeg
  rw [hF, hTh] at f1 f2
  have hold : ∀ x : Nat, x < H.size → F.heap[x]? = H[x]? := fun x hx => by
    have := Jvm.Free.Multi.fill_old (T.setVm vm₁) cA cy n.toNatClampNeg k.toNatClampNeg (defaultValue ty) (a := x) (by rw [hTh]; exact hx) n.toNatClampNeg
    rw [hF, hTh] at this
    exact this
  have hrow : ∀ j : Nat, j < n.toNatClampNeg → F.heap[H.size + 1 + j]? = some (vp_cell cy z) := fun j hj => by
    have := Jvm.Free.Multi.fill_inner (T.setVm vm₁) cA cy n.toNatClampNeg k.toNatClampNeg (defaultValue ty) n.toNatClampNeg j hj
    rw [hF, hTh, hz] at this
    exact this
  have hout : Jvm.Free.Multi.outerC cA n.toNatClampNeg H.size n.toNatClampNeg = vp_cell cA (n.toNatClampNeg, .inr (.inr (.inr (.inr (fun i => if i < n.toNatClampNeg then some (H.size + 1 + i) else none))))) := by
    rw [vp_cell_q]
    exact vr_outer cA n.toNatClampNeg H.size n.toNatClampNeg
  rw [hout] at f2
  have hlt : ∀ a, a ∈ L → a < H.size := fun a ha => by
    obtain ⟨k9, hk9⟩ := va_pl_get (X := X) (f := f) ha
    exact (hP k9 _ hk9).lt
  have hnl : ∀ i : Nat, i < n.toNatClampNeg → H.size + 1 + i ∉ L := fun i _ h => by
    have := hlt _ h
    omega
  have hnm : ∀ a, a ∈ (List.range n.toNatClampNeg).map (fun i => H.size + 1 + i) → a ∉ L := fun a ha h => by
    obtain ⟨i, -, rfl⟩ := List.mem_map.mp ha
    have := hlt _ h
    omega
  have hP0 : va_P D cl (X ++ va_pl L f) F.heap := hP.kept (fun k9 x hx => hold x.1 ((hP k9 x hx).lt))
  have hP1 : va_P D cl ((X ++ va_pl L f) ++ [(H.size, .inl (cA, n.toNatClampNeg, .inr (.inr (.inr (.inr (fun i => if i < n.toNatClampNeg then some (H.size + 1 + i) else none))))))]) F.heap := hP0.app (fun k9 x hx => by
    have h0 : k9 < 1 := (List.getElem?_eq_some_iff.mp hx).1
    rw [show k9 = 0 by omega] at hx
    cases hx
    exact f2)
  have hP2 : va_P D cl (((X ++ va_pl L f) ++ [(H.size, .inl (cA, n.toNatClampNeg, .inr (.inr (.inr (.inr (fun i => if i < n.toNatClampNeg then some (H.size + 1 + i) else none))))))]) ++ ((List.range n.toNatClampNeg).map (fun i => H.size + 1 + i)).map (fun a => (a, .inl (cy, z)))) F.heap := hP1.app (fun k9 x hx => by
    obtain ⟨a, ha, rfl⟩ := List.mem_map.mp (List.mem_of_getElem? hx)
    obtain ⟨i, hi, rfl⟩ := List.mem_map.mp ha
    exact hrow i (List.mem_range.mp hi))
  have hD2 : va_D A (((X ++ va_pl L f) ++ [(H.size, .inl (cA, n.toNatClampNeg, .inr (.inr (.inr (.inr (fun i => if i < n.toNatClampNeg then some (H.size + 1 + i) else none))))))]) ++ ((List.range n.toNatClampNeg).map (fun i => H.size + 1 + i)).map (fun a => (a, .inl (cy, z)))) := by
    have hD1 := hD.push (e := .inl (cA, n.toNatClampNeg, .inr (.inr (.inr (.inr (fun i => if i < n.toNatClampNeg then some (H.size + 1 + i) else none)))))) hP rfl (hA _ hS.1)
    generalize hW1 : (X ++ va_pl L f) ++ [(H.size, .inl (cA, n.toNatClampNeg, .inr (.inr (.inr (.inr (fun i => if i < n.toNatClampNeg then some (H.size + 1 + i) else none))))))] = W1 at hD1 hP1 ⊢
    have hle : ∀ (k9 : Nat) (x : Nat × va_E), W1[k9]? = some x → x.1 ≤ H.size := fun k9 x hx => by
      rw [← hW1] at hx
      by_cases hl : k9 < (X ++ va_pl L f).length
      · rw [List.getElem?_append_left hl] at hx
        exact Nat.le_of_lt ((hP k9 x hx).lt)
      · rw [List.getElem?_append_right (by omega)] at hx
        have h0 : k9 - (X ++ va_pl L f).length < 1 := (List.getElem?_eq_some_iff.mp hx).1
        rw [show k9 - (X ++ va_pl L f).length = 0 by omega] at hx
        cases hx
        exact Nat.le_refl _
    have hr : ∀ (k9 : Nat) (x : Nat × va_E), (((List.range n.toNatClampNeg).map (fun i => H.size + 1 + i)).map (fun a => ((a, .inl (cy, z)) : Nat × va_E)))[k9]? = some x → x.1 = H.size + 1 + k9 := fun k9 x hx => by
      rw [List.getElem?_map, List.getElem?_map] at hx
      by_cases h9 : k9 < n.toNatClampNeg
      · rw [List.getElem?_range h9] at hx
        cases hx
        rfl
      · have hn0 : (List.range n.toNatClampNeg)[k9]? = none := List.getElem?_eq_none (by rw [List.length_range]; omega)
        rw [hn0] at hx
        cases hx
    refine ⟨fun i j x y hi hj hxy => ?_, fun k9 x hx => ?_⟩
    · by_cases h1 : i < W1.length <;> by_cases h2 : j < W1.length
      · rw [List.getElem?_append_left h1] at hi
        rw [List.getElem?_append_left h2] at hj
        exact hD1.1 i j x y hi hj hxy
      · rw [List.getElem?_append_left h1] at hi
        rw [List.getElem?_append_right (by omega)] at hj
        have := hle _ _ hi
        have := hr _ _ hj
        omega
      · rw [List.getElem?_append_right (by omega)] at hi
        rw [List.getElem?_append_left h2] at hj
        have := hle _ _ hj
        have := hr _ _ hi
        omega
      · rw [List.getElem?_append_right (by omega)] at hi hj
        have := hr _ _ hi
        have := hr _ _ hj
        omega
    · by_cases h1 : k9 < W1.length
      · rw [List.getElem?_append_left h1] at hx
        exact hD1.2 k9 x hx
      · rw [List.getElem?_append_right (by omega)] at hx
        have := hr _ _ hx
        exact hA _ (by have := hS.1; omega)
  have hAr : ArrOfT s cA (.array ty) := fun N9 z9 => by
    obtain ⟨-, k9, hk9, cm9, hkk9⟩ := (hO 0 0 0).1
    exact ⟨(fun q hq => by cases hq), k9, hk9, cm9, hkk9⟩
  have hK2 : va_K D cl (tys ++ [(cA, .array ty)]) s := ⟨hK.1, fun k9 x hx => by
    by_cases hl : k9 < tys.length
    · rw [List.getElem?_append_left hl] at hx
      exact hK.2 k9 x hx
    · rw [List.getElem?_append_right (by omega)] at hx
      have h0 : k9 - tys.length < 1 := (List.getElem?_eq_some_iff.mp hx).1
      rw [show k9 - tys.length = 0 by omega] at hx
      cases hx
      exact ⟨hAr, fA⟩⟩
  obtain ⟨t, a1, b1⟩ := kk H.size (fun i => H.size + 1 + i) cA F.heap (fun i j _ _ h => by have h9 : H.size + 1 + i = H.size + 1 + j := h; omega) hnl hK2 (by rw [← vr_rows hnm]; exact vr_lay hP2) (by rw [← vr_rows hnm]; exact vr_layD hD2) ⟨by rw [f1]; have := hS.1; omega, fun x h1 h2 => (hold x (Nat.lt_of_lt_of_le h1 hS.1)).trans (hS.2.1 x h1 h2), hS.2.2⟩ F rfl X'
  refine ⟨t, step t ?_, b1⟩
  have e : T.heap.size = H.size := by rw [hT]
  rw [e]
  exact a1
end VGM
/-! ===== END ===== -/

def RX0 : String := "ToppleYard$Equations"
def TX0 : u_T := fun k => match k with
  | 0 => ("ToppleYard$Equations", "rows", "[[J", true)
  | 1 => ("ToppleYard$Equations", "answer", "[J", true)
  | _ => ("ToppleYard$Equations", "places", "I", false)
def tyX0 : Nat → FieldType := fun k => match k with
  | 0 => .array (.array .long)
  | 1 => .array .long
  | _ => .int
abbrev wsX00 : List Cond := u_ws RX0 TX0 3
theorem nmX0 : ∀ a, a < 3 → ∀ b, b < 3 → a ≠ b → (TX0 a).2.1 ≠ (TX0 b).2.1 := by decide +kernel
theorem tyX0_ok : ∀ k, k < 3 → parseFieldDescriptor (TX0 k).2.2.1 = some (tyX0 k) := by decide +kernel
abbrev cX0_init : ByteArray := prog_2_method_1_code
def yX0_init : MethodName := ⟨RX0, "<init>", "()V"⟩
abbrev cX0_layOut : ByteArray := prog_2_method_2_code
def yX0_layOut : MethodName := ⟨RX0, "layOut", "(LToppleYard$Ground;)V"⟩
abbrev cX0_wantLoss : ByteArray := prog_2_method_3_code
def yX0_wantLoss : MethodName := ⟨RX0, "wantLoss", "(II)V"⟩
abbrev cX0_reduce : ByteArray := prog_2_method_4_code
def yX0_reduce : MethodName := ⟨RX0, "reduce", "()V"⟩
abbrev cX0_determinant : ByteArray := prog_2_method_5_code
def yX0_determinant : MethodName := ⟨RX0, "determinant", "()J"⟩
abbrev cX0_haveWholeAnswer : ByteArray := prog_2_method_6_code
def yX0_haveWholeAnswer : MethodName := ⟨RX0, "haveWholeAnswer", "()Z"⟩
def RX1 : String := "ToppleYard$Ground"
def TX1 : u_T := fun k => match k with
  | 0 => ("ToppleYard$Ground", "between", "[[I", true)
  | 1 => ("ToppleYard$Ground", "toPit", "[I", true)
  | 2 => ("ToppleYard$Ground", "kind", "[I", true)
  | 3 => ("ToppleYard$Ground", "degree", "[I", true)
  | 4 => ("ToppleYard$Ground", "bears", "[I", true)
  | _ => ("ToppleYard$Ground", "places", "I", false)
def tyX1 : Nat → FieldType := fun k => match k with
  | 0 => .array (.array .int)
  | 1 => .array .int
  | 2 => .array .int
  | 3 => .array .int
  | 4 => .array .int
  | _ => .int
abbrev wsX10 : List Cond := u_ws RX1 TX1 6
theorem nmX1 : ∀ a, a < 6 → ∀ b, b < 6 → a ≠ b → (TX1 a).2.1 ≠ (TX1 b).2.1 := by decide +kernel
theorem tyX1_ok : ∀ k, k < 6 → parseFieldDescriptor (TX1 k).2.2.1 = some (tyX1 k) := by decide +kernel
abbrev cX1_init : ByteArray := prog_3_method_1_code
def yX1_init : MethodName := ⟨RX1, "<init>", "()V"⟩
abbrev cX1_isPlace : ByteArray := prog_3_method_2_code
def yX1_isPlace : MethodName := ⟨RX1, "isPlace", "(I)Z"⟩
abbrev cX1_becomeKind : ByteArray := prog_3_method_3_code
def yX1_becomeKind : MethodName := ⟨RX1, "becomeKind", "(II)V"⟩
abbrev cX1_pathsInto : ByteArray := prog_3_method_4_code
def yX1_pathsInto : MethodName := ⟨RX1, "pathsInto", "(II)I"⟩
abbrev cX1_countDegrees : ByteArray := prog_3_method_5_code
def yX1_countDegrees : MethodName := ⟨RX1, "countDegrees", "()V"⟩
abbrev cX1_leastShut : ByteArray := prog_3_method_6_code
def yX1_leastShut : MethodName := ⟨RX1, "leastShut", "()I"⟩
def RX2 : String := "ToppleYard$Heaps"
def TX2 : u_T := fun k => match k with
  | 0 => ("ToppleYard$Heaps", "height", "[I", true)
  | 1 => ("ToppleYard$Heaps", "toppled", "[I", true)
  | 2 => ("ToppleYard$Heaps", "fallen", "I", false)
  | _ => ("ToppleYard$Heaps", "topplings", "I", false)
def tyX2 : Nat → FieldType := fun k => match k with
  | 0 => .array .int
  | 1 => .array .int
  | 2 => .int
  | _ => .int
abbrev wsX20 : List Cond := u_ws RX2 TX2 4
theorem nmX2 : ∀ a, a < 4 → ∀ b, b < 4 → a ≠ b → (TX2 a).2.1 ≠ (TX2 b).2.1 := by decide +kernel
theorem tyX2_ok : ∀ k, k < 4 → parseFieldDescriptor (TX2 k).2.2.1 = some (tyX2 k) := by decide +kernel
abbrev cX2_init : ByteArray := prog_4_method_1_code
def yX2_init : MethodName := ⟨RX2, "<init>", "()V"⟩
abbrev cX2_forgetTopplings : ByteArray := prog_4_method_2_code
def yX2_forgetTopplings : MethodName := ⟨RX2, "forgetTopplings", "()V"⟩
abbrev cX2_startFrom : ByteArray := prog_4_method_3_code
def yX2_startFrom : MethodName := ⟨RX2, "startFrom", "(LToppleYard$Heaps;)V"⟩
abbrev cX2_takesGrains : ByteArray := prog_4_method_4_code
def yX2_takesGrains : MethodName := ⟨RX2, "takesGrains", "(II)Z"⟩
abbrev cX2_isReady : ByteArray := prog_4_method_5_code
def yX2_isReady : MethodName := ⟨RX2, "isReady", "(LToppleYard$Ground;I)Z"⟩
abbrev cX2_giveAlongPaths : ByteArray := prog_4_method_6_code
def yX2_giveAlongPaths : MethodName := ⟨RX2, "giveAlongPaths", "(LToppleYard$Ground;II)V"⟩
abbrev cX2_timesInOneGo : ByteArray := prog_4_method_7_code
def yX2_timesInOneGo : MethodName := ⟨RX2, "timesInOneGo", "(LToppleYard$Ground;I)I"⟩
abbrev cX2_giveTillSettled : ByteArray := prog_4_method_8_code
def yX2_giveTillSettled : MethodName := ⟨RX2, "giveTillSettled", "(LToppleYard$Ground;)I"⟩
abbrev cX2_grains : ByteArray := prog_4_method_9_code
def yX2_grains : MethodName := ⟨RX2, "grains", "(LToppleYard$Ground;)I"⟩
abbrev cX2_setOfReady : ByteArray := prog_4_method_10_code
def yX2_setOfReady : MethodName := ⟨RX2, "setOfReady", "(LToppleYard$Ground;)I"⟩
abbrev cX2_setOfToppled : ByteArray := prog_4_method_11_code
def yX2_setOfToppled : MethodName := ⟨RX2, "setOfToppled", "(LToppleYard$Ground;)I"⟩
abbrev cX2_packed : ByteArray := prog_4_method_12_code
def yX2_packed : MethodName := ⟨RX2, "packed", "(LToppleYard$Ground;)I"⟩
def RX3 : String := "ToppleYard$Readings"
def TX3 : u_T := fun k => match k with
  | 0 => ("ToppleYard$Readings", "place", "[I", true)
  | 1 => ("ToppleYard$Readings", "told", "[I", true)
  | 2 => ("ToppleYard$Readings", "settled", "LToppleYard$Heaps;", true)
  | 3 => ("ToppleYard$Readings", "spilt", "LToppleYard$Heaps;", true)
  | _ => ("ToppleYard$Readings", "count", "I", false)
def tyX3 : Nat → FieldType := fun k => match k with
  | 0 => .array .int
  | 1 => .array .int
  | 2 => .object "ToppleYard$Heaps"
  | 3 => .object "ToppleYard$Heaps"
  | _ => .int
abbrev wsX30 : List Cond := u_ws RX3 TX3 5
theorem nmX3 : ∀ a, a < 5 → ∀ b, b < 5 → a ≠ b → (TX3 a).2.1 ≠ (TX3 b).2.1 := by decide +kernel
theorem tyX3_ok : ∀ k, k < 5 → parseFieldDescriptor (TX3 k).2.2.1 = some (tyX3 k) := by decide +kernel
abbrev cX3_init : ByteArray := prog_5_method_1_code
def yX3_init : MethodName := ⟨RX3, "<init>", "()V"⟩
abbrev cX3_note : ByteArray := prog_5_method_2_code
def yX3_note : MethodName := ⟨RX3, "note", "(II)V"⟩
abbrev cX3_areAllSo : ByteArray := prog_5_method_3_code
def yX3_areAllSo : MethodName := ⟨RX3, "areAllSo", "(LToppleYard$Ground;LToppleYard$Heaps;)Z"⟩
def RX4 : String := "ToppleYard$Sheet"
def TX4 : u_T := fun k => match k with
  | 0 => ("ToppleYard$Sheet", "cells", "[I", true)
  | 1 => ("ToppleYard$Sheet", "lane", "I", false)
  | _ => ("ToppleYard$Sheet", "length", "I", false)
def tyX4 : Nat → FieldType := fun k => match k with
  | 0 => .array .int
  | 1 => .int
  | _ => .int
abbrev wsX40 : List Cond := u_ws RX4 TX4 3
theorem nmX4 : ∀ a, a < 3 → ∀ b, b < 3 → a ≠ b → (TX4 a).2.1 ≠ (TX4 b).2.1 := by decide +kernel
theorem tyX4_ok : ∀ k, k < 3 → parseFieldDescriptor (TX4 k).2.2.1 = some (tyX4 k) := by decide +kernel
abbrev cX4_init : ByteArray := prog_6_method_1_code
def yX4_init : MethodName := ⟨RX4, "<init>", "()V"⟩
abbrev cX4_hasNothing : ByteArray := prog_6_method_2_code
def yX4_hasNothing : MethodName := ⟨RX4, "hasNothing", "()Z"⟩
abbrev cX4_getRow : ByteArray := prog_6_method_3_code
def yX4_getRow : MethodName := ⟨RX4, "getRow", "(II)V"⟩
abbrev cX4_loseRow : ByteArray := prog_6_method_4_code
def yX4_loseRow : MethodName := ⟨RX4, "loseRow", "()V"⟩
abbrev cX4_hasCells : ByteArray := prog_6_method_5_code
def yX4_hasCells : MethodName := ⟨RX4, "hasCells", "(II)Z"⟩
abbrev cX4_faultOfCells : ByteArray := prog_6_method_6_code
def yX4_faultOfCells : MethodName := ⟨RX4, "faultOfCells", "(III)I"⟩
def RX5 : String := "ToppleYard$TextReader"
def TX5 : u_T := fun k => match k with
  | 0 => ("ToppleYard$TextReader", "codes", "[I", true)
  | 1 => ("ToppleYard$TextReader", "count", "I", false)
  | 2 => ("ToppleYard$TextReader", "wrong", "Z", false)
  | _ => ("ToppleYard$TextReader", "at", "I", false)
def tyX5 : Nat → FieldType := fun k => match k with
  | 0 => .array .int
  | 1 => .int
  | 2 => .boolean
  | _ => .int
abbrev wsX50 : List Cond := u_ws RX5 TX5 4
theorem nmX5 : ∀ a, a < 4 → ∀ b, b < 4 → a ≠ b → (TX5 a).2.1 ≠ (TX5 b).2.1 := by decide +kernel
theorem tyX5_ok : ∀ k, k < 4 → parseFieldDescriptor (TX5 k).2.2.1 = some (tyX5 k) := by decide +kernel
abbrev cX5_init : ByteArray := prog_7_method_1_code
def yX5_init : MethodName := ⟨RX5, "<init>", "()V"⟩
abbrev cX5_isText : ByteArray := prog_7_method_2_code
def yX5_isText : MethodName := ⟨RX5, "isText", "([IIILToppleYard$Ground;LToppleYard$Heaps;)Z"⟩
abbrev cX5_readPaths : ByteArray := prog_7_method_3_code
def yX5_readPaths : MethodName := ⟨RX5, "readPaths", "(LToppleYard$Ground;)V"⟩
abbrev cX5_kindOfLetter : ByteArray := prog_7_method_4_code
def yX5_kindOfLetter : MethodName := ⟨RX5, "kindOfLetter", "()I"⟩
abbrev cX5_stepBack : ByteArray := prog_7_method_5_code
def yX5_stepBack : MethodName := ⟨RX5, "stepBack", "()I"⟩
abbrev cX5_code : ByteArray := prog_7_method_6_code
def yX5_code : MethodName := ⟨RX5, "code", "(II)I"⟩
def RX6 : String := "ToppleYard"
def TX6 : u_T := fun k => match k with
  | 0 => ("ToppleYard", "sheets", "[LToppleYard$Sheet;", true)
  | 1 => ("ToppleYard", "readings", "LToppleYard$Readings;", true)
  | 2 => ("ToppleYard", "reader", "LToppleYard$TextReader;", true)
  | 3 => ("ToppleYard", "equations", "LToppleYard$Equations;", true)
  | 4 => ("ToppleYard", "trial", "LToppleYard$Heaps;", true)
  | 5 => ("ToppleYard", "seen", "[I", true)
  | 6 => ("ToppleYard", "ground", "LToppleYard$Ground;", false)
  | 7 => ("ToppleYard", "draftGround", "LToppleYard$Ground;", false)
  | 8 => ("ToppleYard", "heaps", "LToppleYard$Heaps;", false)
  | 9 => ("ToppleYard", "draftHeaps", "LToppleYard$Heaps;", false)
  | 10 => ("ToppleYard", "traceLeft", "I", false)
  | _ => ("ToppleYard", "latestFault", "I", false)
def tyX6 : Nat → FieldType := fun k => match k with
  | 0 => .array (.object "ToppleYard$Sheet")
  | 1 => .object "ToppleYard$Readings"
  | 2 => .object "ToppleYard$TextReader"
  | 3 => .object "ToppleYard$Equations"
  | 4 => .object "ToppleYard$Heaps"
  | 5 => .array .int
  | 6 => .object "ToppleYard$Ground"
  | 7 => .object "ToppleYard$Ground"
  | 8 => .object "ToppleYard$Heaps"
  | 9 => .object "ToppleYard$Heaps"
  | 10 => .int
  | _ => .int
abbrev wsX60 : List Cond := u_ws RX6 TX6 12
theorem nmX6 : ∀ a, a < 12 → ∀ b, b < 12 → a ≠ b → (TX6 a).2.1 ≠ (TX6 b).2.1 := by decide +kernel
theorem tyX6_ok : ∀ k, k < 12 → parseFieldDescriptor (TX6 k).2.2.1 = some (tyX6 k) := by decide +kernel
abbrev cX6_init : ByteArray := prog_1_method_1_code
def yX6_init : MethodName := ⟨RX6, "<init>", "()V"⟩
abbrev cX6_yard : ByteArray := prog_1_method_2_code
def yX6_yard : MethodName := ⟨RX6, "yard", "(IIII)I"⟩
abbrev cX6_ofPlace : ByteArray := prog_1_method_3_code
def yX6_ofPlace : MethodName := ⟨RX6, "ofPlace", "(II)I"⟩
abbrev cX6_paths : ByteArray := prog_1_method_4_code
def yX6_paths : MethodName := ⟨RX6, "paths", "(II)I"⟩
abbrev cX6_heap : ByteArray := prog_1_method_5_code
def yX6_heap : MethodName := ⟨RX6, "heap", "(II)I"⟩
abbrev cX6_drop : ByteArray := prog_1_method_6_code
def yX6_drop : MethodName := ⟨RX6, "drop", "(II)I"⟩
abbrev cX6_topple : ByteArray := prog_1_method_7_code
def yX6_topple : MethodName := ⟨RX6, "topple", "(I)I"⟩
abbrev cX6_settle : ByteArray := prog_1_method_8_code
def yX6_settle : MethodName := ⟨RX6, "settle", "()I"⟩
abbrev cX6_day : ByteArray := prog_1_method_9_code
def yX6_day : MethodName := ⟨RX6, "day", "(IIIII)I"⟩
abbrev cX6_spill : ByteArray := prog_1_method_10_code
def yX6_spill : MethodName := ⟨RX6, "spill", "(II)I"⟩
abbrev cX6_again : ByteArray := prog_1_method_11_code
def yX6_again : MethodName := ⟨RX6, "again", "(II)I"⟩
abbrev cX6_burnt : ByteArray := prog_1_method_12_code
def yX6_burnt : MethodName := ⟨RX6, "burnt", "()I"⟩
abbrev cX6_trees : ByteArray := prog_1_method_13_code
def yX6_trees : MethodName := ⟨RX6, "trees", "()J"⟩
abbrev cX6_alike : ByteArray := prog_1_method_14_code
def yX6_alike : MethodName := ⟨RX6, "alike", "(III)I"⟩
abbrev cX6_reading : ByteArray := prog_1_method_15_code
def yX6_reading : MethodName := ⟨RX6, "reading", "(II)I"⟩
abbrev cX6_back : ByteArray := prog_1_method_16_code
def yX6_back : MethodName := ⟨RX6, "back", "(I)I"⟩
abbrev cX6_kinds : ByteArray := prog_1_method_17_code
def yX6_kinds : MethodName := ⟨RX6, "kinds", "(I)I"⟩
abbrev cX6_heapings : ByteArray := prog_1_method_18_code
def yX6_heapings : MethodName := ⟨RX6, "heapings", "(I)I"⟩
abbrev cX6_odds : ByteArray := prog_1_method_19_code
def yX6_odds : MethodName := ⟨RX6, "odds", "(I)J"⟩
abbrev cX6_sheet : ByteArray := prog_1_method_20_code
def yX6_sheet : MethodName := ⟨RX6, "sheet", "(III)I"⟩
abbrev cX6_lose : ByteArray := prog_1_method_21_code
def yX6_lose : MethodName := ⟨RX6, "lose", "(I)I"⟩
abbrev cX6_put : ByteArray := prog_1_method_22_code
def yX6_put : MethodName := ⟨RX6, "put", "(III)I"⟩
abbrev cX6_cell : ByteArray := prog_1_method_23_code
def yX6_cell : MethodName := ⟨RX6, "cell", "(III)J"⟩
abbrev cX6_copy : ByteArray := prog_1_method_24_code
def yX6_copy : MethodName := ⟨RX6, "copy", "(IIIII)I"⟩
abbrev cX6_tell : ByteArray := prog_1_method_25_code
def yX6_tell : MethodName := ⟨RX6, "tell", "(I)I"⟩
abbrev cX6_strike : ByteArray := prog_1_method_26_code
def yX6_strike : MethodName := ⟨RX6, "strike", "(I)I"⟩
abbrev cX6_as : ByteArray := prog_1_method_27_code
def yX6_as : MethodName := ⟨RX6, "as", "(II)I"⟩
abbrev cX6_trace : ByteArray := prog_1_method_28_code
def yX6_trace : MethodName := ⟨RX6, "trace", "()I"⟩
abbrev cX6_fault : ByteArray := prog_1_method_29_code
def yX6_fault : MethodName := ⟨RX6, "fault", "()I"⟩
abbrev cX6_many : ByteArray := prog_1_method_30_code
def yX6_many : MethodName := ⟨RX6, "many", "(I)I"⟩
abbrev cX6_hasNoYard : ByteArray := prog_1_method_31_code
def yX6_hasNoYard : MethodName := ⟨RX6, "hasNoYard", "()Z"⟩
abbrev cX6_isSheet : ByteArray := prog_1_method_32_code
def yX6_isSheet : MethodName := ⟨RX6, "isSheet", "(I)Z"⟩
abbrev cX6_isLane : ByteArray := prog_1_method_33_code
def yX6_isLane : MethodName := ⟨RX6, "isLane", "(I)Z"⟩
abbrev cX6_cutToLane : ByteArray := prog_1_method_34_code
def yX6_cutToLane : MethodName := ⟨RX6, "cutToLane", "(II)I"⟩
abbrev cX6_faulted : ByteArray := prog_1_method_35_code
def yX6_faulted : MethodName := ⟨RX6, "faulted", "(I)I"⟩
abbrev cX6_takeDrafts : ByteArray := prog_1_method_36_code
def yX6_takeDrafts : MethodName := ⟨RX6, "takeDrafts", "()V"⟩
abbrev cX6_isAskedOfDay : ByteArray := prog_1_method_37_code
def yX6_isAskedOfDay : MethodName := ⟨RX6, "isAskedOfDay", "(I)Z"⟩
abbrev cX6_setsHeap : ByteArray := prog_1_method_38_code
def yX6_setsHeap : MethodName := ⟨RX6, "setsHeap", "(I)Z"⟩
abbrev cX6_refusalOfPairs : ByteArray := prog_1_method_39_code
def yX6_refusalOfPairs : MethodName := ⟨RX6, "refusalOfPairs", "([III)I"⟩
abbrev cX6_refusalOfPair : ByteArray := prog_1_method_40_code
def yX6_refusalOfPair : MethodName := ⟨RX6, "refusalOfPair", "(II)I"⟩
abbrev cX6_firstWrong : ByteArray := prog_1_method_41_code
def yX6_firstWrong : MethodName := ⟨RX6, "firstWrong", "([III)I"⟩
abbrev cX6_isDone : ByteArray := prog_1_method_42_code
def yX6_isDone : MethodName := ⟨RX6, "isDone", "(II)Z"⟩
abbrev cX6_answerOfDay : ByteArray := prog_1_method_43_code
def yX6_answerOfDay : MethodName := ⟨RX6, "answerOfDay", "(II)I"⟩
abbrev cX6_firstSeen : ByteArray := prog_1_method_44_code
def yX6_firstSeen : MethodName := ⟨RX6, "firstSeen", "(I)I"⟩
abbrev cX6_inLeastTerms : ByteArray := prog_1_method_45_code
def yX6_inLeastTerms : MethodName := ⟨RX6, "inLeastTerms", "(III)I"⟩
abbrev cX6_leaveTrace : ByteArray := prog_1_method_46_code
def yX6_leaveTrace : MethodName := ⟨RX6, "leaveTrace", "(I)V"⟩
abbrev cX6_tellPlain : ByteArray := prog_1_method_47_code
def yX6_tellPlain : MethodName := ⟨RX6, "tellPlain", "(I)I"⟩
abbrev cX6_tellBroad : ByteArray := prog_1_method_48_code
def yX6_tellBroad : MethodName := ⟨RX6, "tellBroad", "(I)I"⟩
abbrev cX6_tellDouble : ByteArray := prog_1_method_49_code
def yX6_tellDouble : MethodName := ⟨RX6, "tellDouble", "(I)I"⟩
abbrev cX6_strikeLent : ByteArray := prog_1_method_50_code
def yX6_strikeLent : MethodName := ⟨RX6, "strikeLent", "(I)I"⟩
abbrev cX6_strikeDouble : ByteArray := prog_1_method_51_code
def yX6_strikeDouble : MethodName := ⟨RX6, "strikeDouble", "()I"⟩
def RX7 : String := "ToppleYardModel"
def TX7 : u_T := fun k => match k with
  | 0 => ("ToppleYardModel", "fault", "I", false)
  | 1 => ("ToppleYardModel", "trace", "I", false)
  | 2 => ("ToppleYardModel", "sorts", "[I", true)
  | 3 => ("ToppleYardModel", "sheetLong", "[I", true)
  | 4 => ("ToppleYardModel", "cells", "[I", true)
  | 5 => ("ToppleYardModel", "places", "I", false)
  | 6 => ("ToppleYardModel", "fallen", "I", false)
  | 7 => ("ToppleYardModel", "topplings", "I", false)
  | 8 => ("ToppleYardModel", "kind", "[I", true)
  | 9 => ("ToppleYardModel", "pit", "[I", true)
  | 10 => ("ToppleYardModel", "heaps", "[I", true)
  | 11 => ("ToppleYardModel", "toppled", "[I", true)
  | 12 => ("ToppleYardModel", "between", "[I", true)
  | 13 => ("ToppleYardModel", "at", "I", false)
  | 14 => ("ToppleYardModel", "readPlaces", "I", false)
  | 15 => ("ToppleYardModel", "readKind", "[I", true)
  | 16 => ("ToppleYardModel", "readPit", "[I", true)
  | 17 => ("ToppleYardModel", "readHeap", "[I", true)
  | 18 => ("ToppleYardModel", "readBetween", "[I", true)
  | 19 => ("ToppleYardModel", "doneFallen", "I", false)
  | 20 => ("ToppleYardModel", "doneTopplings", "I", false)
  | 21 => ("ToppleYardModel", "doneSet", "I", false)
  | 22 => ("ToppleYardModel", "doneBy", "[I", true)
  | 23 => ("ToppleYardModel", "kept", "[I", true)
  | 24 => ("ToppleYardModel", "behind", "[I", true)
  | 25 => ("ToppleYardModel", "leads", "[I", true)
  | 26 => ("ToppleYardModel", "square", "[J", true)
  | 27 => ("ToppleYardModel", "columnOf", "[I", true)
  | 28 => ("ToppleYardModel", "readings", "I", false)
  | 29 => ("ToppleYardModel", "readWhere", "[I", true)
  | _ => ("ToppleYardModel", "readTopplings", "[I", true)
def tyX7 : Nat → FieldType := fun k => match k with
  | 0 => .int
  | 1 => .int
  | 2 => .array .int
  | 3 => .array .int
  | 4 => .array .int
  | 5 => .int
  | 6 => .int
  | 7 => .int
  | 8 => .array .int
  | 9 => .array .int
  | 10 => .array .int
  | 11 => .array .int
  | 12 => .array .int
  | 13 => .int
  | 14 => .int
  | 15 => .array .int
  | 16 => .array .int
  | 17 => .array .int
  | 18 => .array .int
  | 19 => .int
  | 20 => .int
  | 21 => .int
  | 22 => .array .int
  | 23 => .array .int
  | 24 => .array .int
  | 25 => .array .int
  | 26 => .array .long
  | 27 => .array .int
  | 28 => .int
  | 29 => .array .int
  | _ => .array .int
abbrev wsX70 : List Cond := u_ws RX7 TX7 31
theorem nmX7 : ∀ a, a < 31 → ∀ b, b < 31 → a ≠ b → (TX7 a).2.1 ≠ (TX7 b).2.1 := by decide +kernel
theorem tyX7_ok : ∀ k, k < 31 → parseFieldDescriptor (TX7 k).2.2.1 = some (tyX7 k) := by decide +kernel
abbrev cX7_init : ByteArray := prog_9_method_1_code
def yX7_init : MethodName := ⟨RX7, "<init>", "()V"⟩
abbrev cX7_fails : ByteArray := prog_9_method_3_code
def yX7_fails : MethodName := ⟨RX7, "fails", "(I)I"⟩
abbrev cX7_lost : ByteArray := prog_9_method_4_code
def yX7_lost : MethodName := ⟨RX7, "lost", "(I)J"⟩
abbrev cX7_within : ByteArray := prog_9_method_5_code
def yX7_within : MethodName := ⟨RX7, "within", "(III)Z"⟩
abbrev cX7_isSheet : ByteArray := prog_9_method_6_code
def yX7_isSheet : MethodName := ⟨RX7, "isSheet", "(I)Z"⟩
abbrev cX7_isSort : ByteArray := prog_9_method_7_code
def yX7_isSort : MethodName := ⟨RX7, "isSort", "(I)Z"⟩
abbrev cX7_against : ByteArray := prog_9_method_8_code
def yX7_against : MethodName := ⟨RX7, "against", "(IIII)I"⟩
abbrev cX7_isPlace : ByteArray := prog_9_method_9_code
def yX7_isPlace : MethodName := ⟨RX7, "isPlace", "(I)Z"⟩
abbrev cX7_isOf : ByteArray := prog_9_method_10_code
def yX7_isOf : MethodName := ⟨RX7, "isOf", "(II)Z"⟩
abbrev cX7_digit : ByteArray := prog_9_method_11_code
def yX7_digit : MethodName := ⟨RX7, "digit", "(III)I"⟩
abbrev cX7_isSign : ByteArray := prog_9_method_12_code
def yX7_isSign : MethodName := ⟨RX7, "isSign", "(II)Z"⟩
abbrev cX7_yard : ByteArray := prog_9_method_13_code
def yX7_yard : MethodName := ⟨RX7, "yard", "(IIII)I"⟩
abbrev cX7_takeYard : ByteArray := prog_9_method_14_code
def yX7_takeYard : MethodName := ⟨RX7, "takeYard", "()V"⟩
abbrev cX7_readYard : ByteArray := prog_9_method_15_code
def yX7_readYard : MethodName := ⟨RX7, "readYard", "(I)Z"⟩
abbrev cX7_readPlace : ByteArray := prog_9_method_16_code
def yX7_readPlace : MethodName := ⟨RX7, "readPlace", "(II)Z"⟩
abbrev cX7_openPlaces : ByteArray := prog_9_method_17_code
def yX7_openPlaces : MethodName := ⟨RX7, "openPlaces", "()I"⟩
abbrev cX7_degreeOf : ByteArray := prog_9_method_18_code
def yX7_degreeOf : MethodName := ⟨RX7, "degreeOf", "(I)I"⟩
abbrev cX7_bearsOf : ByteArray := prog_9_method_19_code
def yX7_bearsOf : MethodName := ⟨RX7, "bearsOf", "(I)I"⟩
abbrev cX7_canTopple : ByteArray := prog_9_method_20_code
def yX7_canTopple : MethodName := ⟨RX7, "canTopple", "(I)Z"⟩
abbrev cX7_ofPlace : ByteArray := prog_9_method_21_code
def yX7_ofPlace : MethodName := ⟨RX7, "ofPlace", "(II)I"⟩
abbrev cX7_paths : ByteArray := prog_9_method_22_code
def yX7_paths : MethodName := ⟨RX7, "paths", "(II)I"⟩
abbrev cX7_heap : ByteArray := prog_9_method_23_code
def yX7_heap : MethodName := ⟨RX7, "heap", "(II)I"⟩
abbrev cX7_startCount : ByteArray := prog_9_method_24_code
def yX7_startCount : MethodName := ⟨RX7, "startCount", "()V"⟩
abbrev cX7_topples : ByteArray := prog_9_method_25_code
def yX7_topples : MethodName := ⟨RX7, "topples", "(I)V"⟩
abbrev cX7_settles : ByteArray := prog_9_method_26_code
def yX7_settles : MethodName := ⟨RX7, "settles", "()V"⟩
abbrev cX7_takeCount : ByteArray := prog_9_method_27_code
def yX7_takeCount : MethodName := ⟨RX7, "takeCount", "()V"⟩
abbrev cX7_drop : ByteArray := prog_9_method_28_code
def yX7_drop : MethodName := ⟨RX7, "drop", "(II)I"⟩
abbrev cX7_topple : ByteArray := prog_9_method_29_code
def yX7_topple : MethodName := ⟨RX7, "topple", "(I)I"⟩
abbrev cX7_settle : ByteArray := prog_9_method_30_code
def yX7_settle : MethodName := ⟨RX7, "settle", "()I"⟩
abbrev cX7_keep : ByteArray := prog_9_method_31_code
def yX7_keep : MethodName := ⟨RX7, "keep", "()V"⟩
abbrev cX7_putBack : ByteArray := prog_9_method_32_code
def yX7_putBack : MethodName := ⟨RX7, "putBack", "()V"⟩
abbrev cX7_does : ByteArray := prog_9_method_33_code
def yX7_does : MethodName := ⟨RX7, "does", "(II)Z"⟩
abbrev cX7_goDay : ByteArray := prog_9_method_34_code
def yX7_goDay : MethodName := ⟨RX7, "goDay", "(II)I"⟩
abbrev cX7_refusesPair : ByteArray := prog_9_method_35_code
def yX7_refusesPair : MethodName := ⟨RX7, "refusesPair", "(II)I"⟩
abbrev cX7_day : ByteArray := prog_9_method_36_code
def yX7_day : MethodName := ⟨RX7, "day", "(IIIII)I"⟩
abbrev cX7_allHeaps : ByteArray := prog_9_method_37_code
def yX7_allHeaps : MethodName := ⟨RX7, "allHeaps", "()I"⟩
abbrev cX7_whoCan : ByteArray := prog_9_method_38_code
def yX7_whoCan : MethodName := ⟨RX7, "whoCan", "()I"⟩
abbrev cX7_tellDay : ByteArray := prog_9_method_39_code
def yX7_tellDay : MethodName := ⟨RX7, "tellDay", "(I)I"⟩
abbrev cX7_spillOf : ByteArray := prog_9_method_40_code
def yX7_spillOf : MethodName := ⟨RX7, "spillOf", "(II)I"⟩
abbrev cX7_spill : ByteArray := prog_9_method_41_code
def yX7_spill : MethodName := ⟨RX7, "spill", "(II)I"⟩
abbrev cX7_areAt : ByteArray := prog_9_method_42_code
def yX7_areAt : MethodName := ⟨RX7, "areAt", "(I)Z"⟩
abbrev cX7_writeAt : ByteArray := prog_9_method_43_code
def yX7_writeAt : MethodName := ⟨RX7, "writeAt", "(I)V"⟩
abbrev cX7_again : ByteArray := prog_9_method_44_code
def yX7_again : MethodName := ⟨RX7, "again", "(II)I"⟩
abbrev cX7_burnt : ByteArray := prog_9_method_45_code
def yX7_burnt : MethodName := ⟨RX7, "burnt", "()I"⟩
abbrev cX7_allLead : ByteArray := prog_9_method_46_code
def yX7_allLead : MethodName := ⟨RX7, "allLead", "()Z"⟩
abbrev cX7_trees : ByteArray := prog_9_method_47_code
def yX7_trees : MethodName := ⟨RX7, "trees", "()J"⟩
abbrev cX7_findColumns : ByteArray := prog_9_method_48_code
def yX7_findColumns : MethodName := ⟨RX7, "findColumns", "(I)Z"⟩
abbrev cX7_determinant : ByteArray := prog_9_method_49_code
def yX7_determinant : MethodName := ⟨RX7, "determinant", "()J"⟩
abbrev cX7_writeSquare : ByteArray := prog_9_method_50_code
def yX7_writeSquare : MethodName := ⟨RX7, "writeSquare", "(II)V"⟩
abbrev cX7_alike : ByteArray := prog_9_method_51_code
def yX7_alike : MethodName := ⟨RX7, "alike", "(III)I"⟩
abbrev cX7_reading : ByteArray := prog_9_method_52_code
def yX7_reading : MethodName := ⟨RX7, "reading", "(II)I"⟩
abbrev cX7_back : ByteArray := prog_9_method_53_code
def yX7_back : MethodName := ⟨RX7, "back", "(I)I"⟩
abbrev cX7_areSo : ByteArray := prog_9_method_54_code
def yX7_areSo : MethodName := ⟨RX7, "areSo", "()Z"⟩
abbrev cX7_kinds : ByteArray := prog_9_method_55_code
def yX7_kinds : MethodName := ⟨RX7, "kinds", "(I)I"⟩
abbrev cX7_heapings : ByteArray := prog_9_method_56_code
def yX7_heapings : MethodName := ⟨RX7, "heapings", "(I)I"⟩
abbrev cX7_inLeastTerms : ByteArray := prog_9_method_57_code
def yX7_inLeastTerms : MethodName := ⟨RX7, "inLeastTerms", "(JJI)J"⟩
abbrev cX7_odds : ByteArray := prog_9_method_58_code
def yX7_odds : MethodName := ⟨RX7, "odds", "(I)J"⟩
abbrev cX7_sheet : ByteArray := prog_9_method_59_code
def yX7_sheet : MethodName := ⟨RX7, "sheet", "(III)I"⟩
abbrev cX7_lose : ByteArray := prog_9_method_60_code
def yX7_lose : MethodName := ⟨RX7, "lose", "(I)I"⟩
abbrev cX7_put : ByteArray := prog_9_method_61_code
def yX7_put : MethodName := ⟨RX7, "put", "(III)I"⟩
abbrev cX7_cell : ByteArray := prog_9_method_62_code
def yX7_cell : MethodName := ⟨RX7, "cell", "(III)J"⟩
abbrev cX7_copy : ByteArray := prog_9_method_63_code
def yX7_copy : MethodName := ⟨RX7, "copy", "(IIIII)I"⟩
abbrev cX7_begins : ByteArray := prog_9_method_64_code
def yX7_begins : MethodName := ⟨RX7, "begins", "(I)V"⟩
abbrev cX7_tell : ByteArray := prog_9_method_65_code
def yX7_tell : MethodName := ⟨RX7, "tell", "(I)I"⟩
abbrev cX7_strike : ByteArray := prog_9_method_66_code
def yX7_strike : MethodName := ⟨RX7, "strike", "(I)I"⟩
abbrev cX7_as : ByteArray := prog_9_method_67_code
def yX7_as : MethodName := ⟨RX7, "as", "(II)I"⟩
abbrev cX7_trace : ByteArray := prog_9_method_68_code
def yX7_trace : MethodName := ⟨RX7, "trace", "()I"⟩
abbrev cX7_fault : ByteArray := prog_9_method_69_code
def yX7_fault : MethodName := ⟨RX7, "fault", "()I"⟩
abbrev cX7_many : ByteArray := prog_9_method_70_code
def yX7_many : MethodName := ⟨RX7, "many", "(I)I"⟩
def RJ10 : String := "java/lang/System"
def TJ10 : u_T := fun k => match k with
  | _ => ("", "", "", false)
def tyJ10 : Nat → FieldType := fun k => match k with
  | _ => .int
abbrev wsJ100 : List Cond := u_ws RJ10 TJ10 0
theorem nmJ10 : ∀ a, a < 0 → ∀ b, b < 0 → a ≠ b → (TJ10 a).2.1 ≠ (TJ10 b).2.1 := by decide +kernel
theorem tyJ10_ok : ∀ k, k < 0 → parseFieldDescriptor (TJ10 k).2.2.1 = some (tyJ10 k) := by decide +kernel
def RJ7 : String := "java/util/Arrays"
def TJ7 : u_T := fun k => match k with
  | _ => ("", "", "", false)
def tyJ7 : Nat → FieldType := fun k => match k with
  | _ => .int
abbrev wsJ70 : List Cond := u_ws RJ7 TJ7 0
theorem nmJ7 : ∀ a, a < 0 → ∀ b, b < 0 → a ≠ b → (TJ7 a).2.1 ≠ (TJ7 b).2.1 := by decide +kernel
theorem tyJ7_ok : ∀ k, k < 0 → parseFieldDescriptor (TJ7 k).2.2.1 = some (tyJ7 k) := by decide +kernel
abbrev cJ7_fill_53178 : ByteArray := prog_11_method_103_code
def yJ7_fill_53178 : MethodName := ⟨RJ7, "fill", "([II)V"⟩
def RL : String := "ToppleYardLaw"
abbrev cL_law : ByteArray := code
def yL_law : MethodName := ⟨RL, "law", "([I)Z"⟩
abbrev vwCl : List vw_C := [(RX0, TX0, 3), (RX1, TX1, 6), (RX2, TX2, 4), (RX3, TX3, 5), (RX4, TX4, 3), (RX5, TX5, 4), (RX6, TX6, 12), (RX7, TX7, 31)]
