/-! ===== THE ABSTRACT MACHINE: words ===== -/
/-- a value as the real heap has it: references are numbers of abstract cells, ad gives their addresses -/
def av_v (ad : Nat → Nat) : Value → Value
  | .ref k => .ref (ad k)
  | .int x => .int x
  | .long x => .long x
  | .float x => .float x
  | .double x => .double x
  | .null => .null
  | .retAddr x => .retAddr x
abbrev AH : Type := Nat → va_E
def av_x (ad : Nat → Nat) (x : (Nat → Int32) ⊕ (Nat → Int64) ⊕ (Nat → UInt32) ⊕ (Nat → UInt64) ⊕ (Nat → Option Nat)) : (Nat → Int32) ⊕ (Nat → Int64) ⊕ (Nat → UInt32) ⊕ (Nat → UInt64) ⊕ (Nat → Option Nat) := match x with
  | .inl f => .inl f
  | .inr (.inl f) => .inr (.inl f)
  | .inr (.inr (.inl f)) => .inr (.inr (.inl f))
  | .inr (.inr (.inr (.inl f))) => .inr (.inr (.inr (.inl f)))
  | .inr (.inr (.inr (.inr f))) => .inr (.inr (.inr (.inr (fun i => (f i).map ad))))
def av_e (ad : Nat → Nat) (c : ClassId) (e : va_E) : va_E := match e with
  | .inl (_, n, x) => .inl (c, n, av_x ad x)
  | .inr (ci, fs) => .inr (ci, fs.map (av_v ad))
def av_ws (ad : Nat → Nat) (ca : Nat → ClassId) (N : Nat) (h : AH) : va_W := (List.range N).map (fun k => (ad k, av_e ad (ca k) (h k)))
def av_ty : Nat → FieldType
  | 0 => .int
  | 1 => .long
  | 2 => .object "ToppleYard$Sheet"
  | 3 => .array .int
  | _ => .array .long
def av_ao (s : State) (c : ClassId) (e : va_E) : Prop := match e with
  | .inl (t, _) => ArrOfT s c (av_ty t) ∧ va_RA s c (av_ty t)
  | .inr _ => True
/-- a method: name, bytes, locals, answer, frames and words of locals below it, place of its code word, cells and slots that it makes -/
abbrev Cal : Type := MethodName × ByteArray × Nat × Option FieldType × Nat × Nat × Nat × Nat × Nat
abbrev Row : Type := Instr × Nat × List Nat × List Cal
abbrev Rows : Type := List (Nat × Row)
abbrev cl_y (Q : Cal) : MethodName := Q.1
abbrev cl_b (Q : Cal) : ByteArray := Q.2.1
abbrev cl_m (Q : Cal) : Nat := Q.2.2.1
abbrev cl_r (Q : Cal) : Option FieldType := Q.2.2.2.1
abbrev cl_f (Q : Cal) : Nat := Q.2.2.2.2.1
abbrev cl_l (Q : Cal) : Nat := Q.2.2.2.2.2.1
abbrev cl_t (Q : Cal) : Nat := Q.2.2.2.2.2.2.1
abbrev cl_c (Q : Cal) : Nat := Q.2.2.2.2.2.2.2.1
abbrev cl_s (Q : Cal) : Nat := Q.2.2.2.2.2.2.2.2
def lk : Rows → Nat → Option Row
  | [], _ => none
  | q :: R, pc => match Nat.beq q.1 pc with
    | true => some q.2
    | false => lk R pc
def lg : List (Option Value) → Nat → Option Value
  | [], _ => none
  | v :: _, 0 => v
  | _ :: l, n + 1 => lg l n
def lst : List (Option Value) → Nat → Option Value → List (Option Value)
  | [], _, _ => []
  | _ :: l, 0, v => v :: l
  | x :: l, n + 1, v => x :: lst l n v
/-- what stands ahead of a place that is written: a long there is gone -/
def lcl (ls : List (Option Value)) (i : Nat) : List (Option Value) := match i with
  | 0 => ls
  | j + 1 => match lg ls j with
    | some (.long _) => lst ls j none
    | some (.double _) => lst ls j none
    | _ => ls
def fg : List Value → Nat → Option Value
  | [], _ => none
  | v :: _, 0 => some v
  | _ :: l, n + 1 => fg l n
def cats (r : List Value) : Nat := (r.map fun v => v.category).sum
/-- the words that every state keeps -/
def tbG : List Cond := lw_tbl.filter goodWord
def wsM (Q : Cal) : List Cond := .code (cl_y Q) (cl_b Q) (cl_m Q) (cl_r Q) :: tbG
def rmM (Q : Cal) : Room := { frames := cl_f Q, cells := cl_c Q, slots := cl_s Q, locals := cl_l Q }
/-- the world of an abstract heap, at a method's edge -/
def Wc (D : va_G) (ad : Nat → Nat) (ca : Nat → ClassId) (N : Nat) (h : AH) (U : State) : Prop := va_K D vwCl [] U ∧ (∀ k, k < N → av_ao U (ca k) (h k)) ∧ va_P D vwCl (av_ws ad ca N h) U.heap ∧ va_D (fun _ => True) (av_ws ad ca N h)
def QS (D : va_G) (ad : Nat → Nat) (ca : Nat → ClassId) (N : Nat) (h : AH) (sz : Nat) (P : Option Value → AH → Prop) : Array Value → State → Outcome → State → Prop := fun _ st oc t => (∃ (v : Option Value) (h' : AH), oc = .returned (v.map (av_v ad)) ∧ P v h' ∧ Wc D ad ca N h' t) ∧ va_F (va_A (av_ws ad ca N h) sz) st t
/-- THE CONTRACT of a method over an abstract heap: it returns v with heap h', and P v h' -/
def Sem (l : Launch) (Q : Cal) (N : Nat) (h : AH) (av : List Value) (P : Option Value → AH → Prop) : Prop :=
  ∀ (D : va_G) (ad : Nat → Nat) (ca : Nat → ClassId) (sz : Nat), Met l (cl_y Q) (wsM Q) (rmM Q) (va_Pc (av.map (av_v ad)) (fun U => U.heap.size = sz ∧ Wc D ad ca N h U)) (QS D ad ca N h sz P) 0 0 (va_A (av_ws ad ca N h) sz)
/-- a value that fits a field: 0 int, 1 boolean, 2 a reference -/
def pf : Nat → Value → Prop
  | 0, .int _ => True
  | 1, .int x => x = 0 ∨ x = 1
  | 2, .ref _ => True
  | _, _ => False
def tsw (K : Nat → Prop) (x : Int) : Int → List Nat → Nat → Prop
  | _, [], d => K d
  | lo, t :: ts, d => (x = lo → K t) ∧ (¬ x = lo → tsw K x (lo + 1) ts d)
def lsw (K : Nat → Prop) (x : Int) : List (Int × Int) → List Nat → Nat → Prop
  | (k, _) :: ps, t :: ts, d => (x = k → K t) ∧ (¬ x = k → lsw K x ps ts d)
  | _, _, d => K d
section
variable (l : Launch) (N : Nat) (K : AH → Nat → List (Option Value) → List Value → Prop)
def sp_ifc (c : ClassFile.Cond) (x y : Int32) (A B : Prop) : Prop := match c with
  | .eq => (x = y → A) ∧ (¬ x = y → B)
  | .ne => (¬ x = y → A) ∧ (x = y → B)
  | .lt => (x < y → A) ∧ (¬ x < y → B)
  | .ge => (y ≤ x → A) ∧ (¬ y ≤ x → B)
  | .gt => (y < x → A) ∧ (¬ y < x → B)
  | .le => (x ≤ y → A) ∧ (¬ x ≤ y → B)
/-- a call: n arguments on the stack (the last one on top) -/
def sp_inv (Q : Cal) (aux : List Nat) (h : AH) (pc : Nat) (ls : List (Option Value)) (st : List Value) : Prop := match aux with
  | n :: ci :: _ => match st.drop n with
    | .ref a :: r => (∃ fs, h a = .inr (ci, fs)) ∧ a < N ∧ Nat.ble (cats r) 8 = true ∧ Sem l Q N h (.ref a :: (st.take n).reverse) (fun v h' => K h' (pc + 3) ls (v.toList ++ r))
    | _ => False
  | _ => False
def sp_ins (Q : Cal) (aux : List Nat) (h : AH) (pc : Nat) (ls : List (Option Value)) (st : List Value) : Prop := match aux with
  | n :: _ => (st.take n).length = n ∧ Nat.ble (cats (st.drop n)) 8 = true ∧ Sem l Q N h (st.take n).reverse (fun v h' => K h' (pc + 3) ls (v.toList ++ st.drop n))
  | _ => False
/-- System.arraycopy over int arrays -/
def sp_cpy (h : AH) (pc : Nat) (ls : List (Option Value)) (st : List Value) : Prop := match st with
  | .int n :: .int dp :: .ref a1 :: .int sp :: .ref a0 :: r => ∃ n0 n1 f g, h a0 = .inl (0, n0, .inl f) ∧ h a1 = .inl (0, n1, .inl g) ∧ a0 < N ∧ a1 < N ∧ Nat.ble (cats r) 8 = true ∧ ¬ sp < 0 ∧ ¬ dp < 0 ∧ ¬ n < 0 ∧ sp.toNatClampNeg + n.toNatClampNeg ≤ n0 ∧ dp.toNatClampNeg + n.toNatClampNeg ≤ n1 ∧ K (va_up h a1 (.inl (0, n1, .inl (va_cpy f g sp.toNatClampNeg dp.toNatClampNeg n.toNatClampNeg)))) (pc + 3) ls r
  | _ => False
/-- one instruction that makes nothing -/
def spI (q : Row) (h : AH) (pc : Nat) (ls : List (Option Value)) (st : List Value) : Prop := match q with
  | (i, _, aux, cal) => match i with
    | .aload_n k => match lg ls k.val with
      | some (.ref a) => K h (pc + 1) ls (.ref a :: st)
      | _ => False
    | .aload k => match lg ls k with
      | some (.ref a) => K h (pc + 2) ls (.ref a :: st)
      | _ => False
    | .iload_n k => match lg ls k.val with
      | some (.int x) => K h (pc + 1) ls (.int x :: st)
      | _ => False
    | .iload k => match lg ls k with
      | some (.int x) => K h (pc + 2) ls (.int x :: st)
      | _ => False
    | .lload_n k => match lg ls k.val with
      | some (.long x) => K h (pc + 1) ls (.long x :: st)
      | _ => False
    | .lload k => match lg ls k with
      | some (.long x) => K h (pc + 2) ls (.long x :: st)
      | _ => False
    | .astore_n k => match st with
      | .ref a :: r => Nat.blt k.val ls.length = true ∧ K h (pc + 1) (lst (lcl ls k.val) k.val (some (.ref a))) r
      | _ => False
    | .astore k => match st with
      | .ref a :: r => Nat.blt k ls.length = true ∧ K h (pc + 2) (lst (lcl ls k) k (some (.ref a))) r
      | _ => False
    | .istore_n k => match st with
      | .int x :: r => Nat.blt k.val ls.length = true ∧ K h (pc + 1) (lst (lcl ls k.val) k.val (some (.int x))) r
      | _ => False
    | .istore k => match st with
      | .int x :: r => Nat.blt k ls.length = true ∧ K h (pc + 2) (lst (lcl ls k) k (some (.int x))) r
      | _ => False
    | .lstore_n k => match st with
      | .long x :: r => Nat.blt (k.val + 1) ls.length = true ∧ K h (pc + 1) (lst (lst (lcl ls k.val) k.val (some (.long x))) (k.val + 1) none) r
      | _ => False
    | .lstore k => match st with
      | .long x :: r => Nat.blt (k + 1) ls.length = true ∧ K h (pc + 2) (lst (lst (lcl ls k) k (some (.long x))) (k + 1) none) r
      | _ => False
    | .iinc k c => match lg ls k with
      | some (.int x) => K h (pc + 3) (lst (lcl ls k) k (some (.int (x + Int32.ofInt c)))) st
      | _ => False
    | .iconst c => K h (pc + 1) ls (.int (Int32.ofInt c) :: st)
    | .bipush c => K h (pc + 2) ls (.int (Int8.ofInt c).toInt32 :: st)
    | .sipush c => K h (pc + 3) ls (.int (Int16.ofInt c).toInt32 :: st)
    | .lconst c => K h (pc + 1) ls (.long (Int64.ofNat (c : Nat)) :: st)
    | .ldc _ => match aux with
      | [_, v] => K h (pc + 2) ls (.int (Int32.ofNat v) :: st)
      | _ => False
    | .ldc2_w _ => match aux with
      | [_, v] => K h (pc + 3) ls (.long (Int64.ofNat v) :: st)
      | _ => False
    | .iadd => match st with
      | .int y :: .int x :: r => K h (pc + 1) ls (.int (x + y) :: r)
      | _ => False
    | .isub => match st with
      | .int y :: .int x :: r => K h (pc + 1) ls (.int (x - y) :: r)
      | _ => False
    | .imul => match st with
      | .int y :: .int x :: r => K h (pc + 1) ls (.int (x * y) :: r)
      | _ => False
    | .idiv => match st with
      | .int y :: .int x :: r => ¬ y = 0 ∧ K h (pc + 1) ls (.int (x / y) :: r)
      | _ => False
    | .irem => match st with
      | .int y :: .int x :: r => ¬ y = 0 ∧ K h (pc + 1) ls (.int (x - x / y * y) :: r)
      | _ => False
    | .ineg => match st with
      | .int x :: r => K h (pc + 1) ls (.int (-x) :: r)
      | _ => False
    | .ishl => match st with
      | .int y :: .int x :: r => K h (pc + 1) ls (.int (x <<< (y &&& 31)) :: r)
      | _ => False
    | .ishr => match st with
      | .int y :: .int x :: r => K h (pc + 1) ls (.int (x >>> (y &&& 31)) :: r)
      | _ => False
    | .iand => match st with
      | .int y :: .int x :: r => K h (pc + 1) ls (.int (x &&& y) :: r)
      | _ => False
    | .ior => match st with
      | .int y :: .int x :: r => K h (pc + 1) ls (.int (x ||| y) :: r)
      | _ => False
    | .i2l => match st with
      | .int x :: r => K h (pc + 1) ls (.long x.toInt64 :: r)
      | _ => False
    | .i2b => match st with
      | .int x :: r => K h (pc + 1) ls (.int x.toInt8.toInt32 :: r)
      | _ => False
    | .i2s => match st with
      | .int x :: r => K h (pc + 1) ls (.int x.toInt16.toInt32 :: r)
      | _ => False
    | .ladd => match st with
      | .long y :: .long x :: r => K h (pc + 1) ls (.long (x + y) :: r)
      | _ => False
    | .lsub => match st with
      | .long y :: .long x :: r => K h (pc + 1) ls (.long (x - y) :: r)
      | _ => False
    | .lmul => match st with
      | .long y :: .long x :: r => K h (pc + 1) ls (.long (x * y) :: r)
      | _ => False
    | .ldiv => match st with
      | .long y :: .long x :: r => ¬ y = 0 ∧ K h (pc + 1) ls (.long (x / y) :: r)
      | _ => False
    | .lrem => match st with
      | .long y :: .long x :: r => ¬ y = 0 ∧ K h (pc + 1) ls (.long (x - x / y * y) :: r)
      | _ => False
    | .lcmp => match st with
      | .long y :: .long x :: r => K h (pc + 1) ls (.int (lg_cmp x y) :: r)
      | _ => False
    | .dup => match st with
      | .int x :: r => K h (pc + 1) ls (.int x :: .int x :: r)
      | .ref x :: r => K h (pc + 1) ls (.ref x :: .ref x :: r)
      | _ => False
    | .dup2 => match st with
      | .int x :: .ref y :: r => K h (pc + 1) ls (.int x :: .ref y :: .int x :: .ref y :: r)
      | _ => False
    | .pop => match st with
      | .int _ :: r => K h (pc + 1) ls r
      | _ => False
    | .goto _ => match aux with
      | [t] => K h t ls st
      | _ => False
    | .ifCond c _ => match aux, st with
      | [t], .int x :: r => sp_ifc c x 0 (K h t ls r) (K h (pc + 3) ls r)
      | _, _ => False
    | .if_icmp c _ => match aux, st with
      | [t], .int y :: .int x :: r => sp_ifc c x y (K h t ls r) (K h (pc + 3) ls r)
      | _, _ => False
    | .tableswitch _ lo _ _ => match aux, st with
      | d :: ts, .int x :: r => tsw (fun t => K h t ls r) x.toInt lo ts d
      | _, _ => False
    | .lookupswitch _ ps => match aux, st with
      | d :: ts, .int x :: r => lsw (fun t => K h t ls r) x.toInt ps.toList ts d
      | _, _ => False
    | .getfield _ => match aux, st with
      | [ci, k, _], .ref a :: r => ∃ fs v, h a = .inr (ci, fs) ∧ a < N ∧ fg fs k = some v ∧ K h (pc + 3) ls (v :: r)
      | _, _ => False
    | .putfield _ => match aux, st with
      | [ci, k, _, tc], v :: .ref a :: r => ∃ fs, h a = .inr (ci, fs) ∧ a < N ∧ Nat.blt k fs.length = true ∧ pf tc v ∧ K (va_up h a (.inr (ci, fs.set k v))) (pc + 3) ls r
      | _, _ => False
    | .iaload => match st with
      | .int i :: .ref a :: r => ∃ n f, h a = .inl (0, n, .inl f) ∧ a < N ∧ vp_in i n ∧ K h (pc + 1) ls (.int (f i.toNatClampNeg) :: r)
      | _ => False
    | .iastore => match st with
      | .int x :: .int i :: .ref a :: r => ∃ n f, h a = .inl (0, n, .inl f) ∧ a < N ∧ vp_in i n ∧ K (va_up h a (.inl (0, n, .inl (upd f i.toNatClampNeg x)))) (pc + 1) ls r
      | _ => False
    | .laload => match st with
      | .int i :: .ref a :: r => ∃ n f, h a = .inl (1, n, .inr (.inl f)) ∧ a < N ∧ vp_in i n ∧ K h (pc + 1) ls (.long (f i.toNatClampNeg) :: r)
      | _ => False
    | .lastore => match st with
      | .long x :: .int i :: .ref a :: r => ∃ n f, h a = .inl (1, n, .inr (.inl f)) ∧ a < N ∧ vp_in i n ∧ K (va_up h a (.inl (1, n, .inr (.inl (vp_updL f i.toNatClampNeg x))))) (pc + 1) ls r
      | _ => False
    | .aaload => match st with
      | .int i :: .ref a :: r => ∃ t n f b, h a = .inl (t, n, .inr (.inr (.inr (.inr f)))) ∧ (t = 2 ∨ t = 3 ∨ t = 4) ∧ a < N ∧ vp_in i n ∧ f i.toNatClampNeg = some b ∧ K h (pc + 1) ls (.ref b :: r)
      | _ => False
    | .arraylength => match st with
      | .ref a :: r => ∃ t x, h a = .inl (t, x) ∧ a < N ∧ K h (pc + 1) ls (.int (Int32.ofNat x.1) :: r)
      | _ => False
    | .invokevirtual _ => match cal with
      | [Q] => sp_inv l N K Q aux h pc ls st
      | _ => False
    | .invokestatic _ => match cal with
      | [Q] => sp_ins l N K Q aux h pc ls st
      | [] => sp_cpy N K h pc ls st
      | _ => False
    | _ => False
end
def bz (r : Option FieldType) (v : Int32) : Prop := match r with
  | some .boolean => v &&& 1 = v
  | some .int => True
  | _ => False
/-- a step, or the end -/
def Fs (l : Launch) (R : Rows) (N : Nat) (ret : Option FieldType) (P : Option Value → AH → Prop) (Z : AH → Nat → List (Option Value) → List Value → Prop) (h : AH) (pc : Nat) (ls : List (Option Value)) (st : List Value) : Prop := match lk R pc with
  | none => False
  | some q => match q.1 with
    | .ireturn => match st with
      | [.int v] => bz ret v ∧ P (some (.int v)) h
      | _ => False
    | .lreturn => match st with
      | [.long v] => ret = some .long ∧ P (some (.long v)) h
      | _ => False
    | .return_ => match st with
      | [] => ret = none ∧ P none h
      | _ => False
    | _ => spI l N Z q h pc ls st
def Run (l : Launch) (R : Rows) (N : Nat) (ret : Option FieldType) (P : Option Value → AH → Prop) (h : AH) (pc : Nat) (ls : List (Option Value)) (st : List Value) : Prop :=
  ∀ Z : AH → Nat → List (Option Value) → List Value → Prop, (∀ h pc ls st, Fs l R N ret P Z h pc ls st → Z h pc ls st) → Z h pc ls st
def ent0 (vs : List Value) : List (Option Value) := vs.flatMap fun v => if v.category = 2 then [some v, none] else [some v]
/-- the locals at a method's entry -/
def ent (vs : List Value) (n : Nat) : List (Option Value) := ent0 vs ++ List.replicate (n - (ent0 vs).length) none
/-! ===== the rows are as the class file has them ===== -/
def lenOf : Instr → Nat
  | .aload_n _ | .iload_n _ | .lload_n _ | .astore_n _ | .istore_n _ | .lstore_n _ | .iconst _ | .lconst _ => 1
  | .iadd | .isub | .imul | .idiv | .irem | .ineg | .ishl | .ishr | .iand | .ior | .i2l | .i2b | .i2s | .ladd | .lsub | .lmul | .ldiv | .lrem | .lcmp | .dup | .dup2 | .pop => 1
  | .iaload | .iastore | .laload | .lastore | .aaload | .aastore | .arraylength | .ireturn | .lreturn | .return_ => 1
  | .aload _ | .iload _ | .lload _ | .astore _ | .istore _ | .lstore _ | .bipush _ | .ldc _ | .newarray _ => 2
  | .sipush _ | .iinc _ _ | .ldc2_w _ | .goto _ | .ifCond _ _ | .if_icmp _ _ | .getfield _ | .putfield _ | .invokevirtual _ | .invokestatic _ | .invokespecial _ | .new _ | .anewarray _ => 3
  | .multianewarray _ _ => 4
  | _ => 0
def okT (t : Nat) (w : Cond) : Bool := decide (lw_tbl[t]? = some w) && goodWord w
def okTg (pc : Nat) (off : Int) (t : Nat) : Bool := decide ((pc : Int) + off = (t : Int))
def okTgs (pc : Nat) : List Int → List Nat → Bool
  | [], [] => true
  | o :: os, t :: ts => okTg pc o t && okTgs pc os ts
  | _, _ => false
def okF (own : String) (idx ci k t : Nat) : Bool := match vwCl[ci]? with
  | some (_, T, n) => decide (k < n) && okT t (.fieldLink own idx (T k).1 (T k).2.1 (T k).2.2.1)
  | none => false
def okPT (ci k tc : Nat) (fin : Bool) : Bool := match vwCl[ci]? with
  | some (_, T, _) => decide ((T k).2.2.2 = fin) && (match parseFieldDescriptor (T k).2.2.1, tc with
    | some .int, 0 => true
    | some .boolean, 1 => true
    | some (.object _), 2 => true
    | some (.array _), 2 => true
    | _, _ => false)
  | none => false
def okY (y : MethodName) (n : Nat) : Bool := decide (y.cls ≠ "java/lang/invoke/MethodHandle") && decide (y.cls ≠ "java/lang/invoke/VarHandle") && decide ((parseMethodDescriptor y.desc).map (fun d => d.parameters.length) = some n)
def okQ (fr lo : Nat) (Q : Cal) : Bool := okT (cl_t Q) (.code (cl_y Q) (cl_b Q) (cl_m Q) (cl_r Q)) && Nat.ble (cl_f Q + 1) fr && Nat.ble (8 + (cl_m Q + 11) + cl_l Q) lo
def okV (own : String) (fr lo idx : Nat) (aux : List Nat) (Q : Cal) : Bool := match aux with
  | [n, ci, t1, t2, t3, t4] => okQ fr lo Q && okY (cl_y Q) n && okT t1 (.methodLink own idx (cl_y Q)) && okT t2 (.instanceMethod (cl_y Q)) && okT t3 (.selects (cl_y Q).cls (cl_y Q) (cl_y Q)) && okT t4 (.initialized (cl_y Q).cls) && decide (cl_c Q = 0) && decide (cl_s Q = 0) && (match vwCl[ci]? with
    | some (C, _, _) => decide (C = (cl_y Q).cls)
    | none => false)
  | _ => false
def okS (own : String) (fr lo idx : Nat) (aux : List Nat) (Q : Cal) : Bool := match aux with
  | [n, t1, t2, t4] => okQ fr lo Q && okY (cl_y Q) n && okT t1 (.methodLink own idx (cl_y Q)) && okT t2 (.static (cl_y Q)) && okT t4 (.initialized (cl_y Q).cls) && decide (cl_c Q = 0) && decide (cl_s Q = 0)
  | _ => false
def okC (own : String) (fr lo idx : Nat) (aux : List Nat) : Bool := match aux with
  | [t1, t2, t3, t4] => okT t1 (.methodLink own idx arraycopyName) && okT t2 (.native arraycopyName) && okT t3 (.static arraycopyName) && okT t4 (.initialized "java/lang/System") && Nat.ble 1 fr && decide (8 + (nativeFrameWords "java/lang/System" "arraycopy" 5 + 11) ≤ lo)
  | _ => false
def auxOk (own : String) (fr lo pc : Nat) (q : Row) : Bool := match q with
  | (i, _, aux, cal) => match i with
    | .goto off => match aux with
      | [t] => okTg pc off t
      | _ => false
    | .ifCond _ off => match aux with
      | [t] => okTg pc off t
      | _ => false
    | .if_icmp _ off => match aux with
      | [t] => okTg pc off t
      | _ => false
    | .tableswitch d lo hi offs => match aux with
      | td :: ts => okTg pc d td && decide (hi - lo + 1 = (offs.size : Int)) && okTgs pc offs.toList ts
      | _ => false
    | .lookupswitch d ps => match aux with
      | td :: ts => okTg pc d td && (ps.toList.zip (ps.toList.drop 1)).all (fun (a, next) => a.1 < next.1) && okTgs pc (ps.toList.map (fun q => q.2)) ts
      | _ => false
    | .getfield idx => match aux with
      | [ci, k, t] => okF own idx ci k t
      | _ => false
    | .putfield idx => match aux with
      | [ci, k, t, tc] => okF own idx ci k t && okPT ci k tc false
      | _ => false
    | .ldc idx => match aux with
      | [t, v] => okT t (.constant own idx (Int32.ofNat v))
      | _ => false
    | .ldc2_w idx => match aux with
      | [t, v] => okT t (.constantLong own idx (Int64.ofNat v))
      | _ => false
    | .invokevirtual idx => match cal with
      | [Q] => okV own fr lo idx aux Q
      | _ => false
    | .invokestatic idx => match cal with
      | [Q] => okS own fr lo idx aux Q
      | [] => okC own fr lo idx aux
      | _ => false
    | _ => true
def rowOk (own : String) (cc : ByteArray) (fr lo : Nat) (q : Nat × Row) : Bool := decide (decode cc q.1 = .ok (q.2.1, q.2.2.1)) && (lenOf q.2.1 == q.2.2.1 || lenOf q.2.1 == 0) && auxOk own fr lo q.1 q.2
def rowsOk (own : String) (cc : ByteArray) (fr lo : Nat) (R : Rows) : Bool := R.all (rowOk own cc fr lo)
theorem lk_mem {R : Rows} {pc : Nat} {q : Row} (h : lk R pc = some q) : (pc, q) ∈ R := by
  induction R with
  | nil => cases h
  | cons a R ih =>
    unfold lk at h
    split at h
    · next e =>
      have := Nat.eq_of_beq_eq_true e
      cases h
      rw [← this]
      exact List.mem_cons_self
    · exact List.mem_cons_of_mem _ (ih h)
theorem tbG_good : ∀ w ∈ tbG, (w.onTables && w.keeps) = true ∨ ∃ ty, w = .arrayClass ty := fun w hw => good_of_word (List.mem_filter.mp hw).2
theorem okT_mem {t : Nat} {w : Cond} (h : okT t w = true) : w ∈ tbG := by
  simp only [okT, Bool.and_eq_true, decide_eq_true_eq] at h
  exact List.mem_filter.mpr ⟨List.mem_of_getElem? h.1, h.2⟩
theorem wsM_good {Q : Cal} (h : okT (cl_t Q) (.code (cl_y Q) (cl_b Q) (cl_m Q) (cl_r Q)) = true) : GoodIn tbG (wsM Q) := by
  intro w hw
  rcases List.mem_cons.mp hw with e | e
  · have := okT_mem h
    rw [e]
    exact ⟨this, tbG_good _ this⟩
  · exact ⟨e, tbG_good _ e⟩
