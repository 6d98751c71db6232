/-! THE MACHINE AS A FUNCTION. A heap is a list of cells (arrays: component type and contents; objects: the number of their class in vwCl and their fields); places 0, 1, 2 are rows of ints that nobody writes. A method's frame is run over it by a function; what it says holds of the machine (parts 04 to 06). -/
abbrev jx_C : Type := (FieldType × List Value) ⊕ (Nat × List Value)
abbrev jx_L : Type := List (Option Value)
/-- a method: its name, its code, how many locals it has, what it answers -/
abbrev jx_M : Type := MethodName × ByteArray × Nat × Option FieldType
/-- values over the machine's addresses -/
def jx_v (g : Nat → Nat) : Value → Value
  | .ref a => .ref (g a)
  | .int n => .int n
  | .long n => .long n
  | .float n => .float n
  | .double n => .double n
  | .null => .null
  | .retAddr n => .retAddr n
theorem jx_v_cat (g : Nat → Nat) (v : Value) : (jx_v g v).category = v.category := by cases v <;> rfl
theorem jx_v_cats (g : Nat → Nat) (st : List Value) : ((st.map (jx_v g)).map fun v => v.category).sum = (st.map fun v => v.category).sum := by
  induction st with
  | nil => rfl
  | cons v r ih => simp only [List.map_cons, List.sum_cons, jx_v_cat, ih]
/-- where a jump goes -/
def jx_j (pc : Nat) (off : Int) : Option Nat := if 0 ≤ (pc : Int) + off then some ((pc : Int) + off).toNat else none
theorem jx_j_ok {pc : Nat} {off : Int} {t : Nat} (h : jx_j pc off = some t) : (pc : Int) + off = (t : Int) := by
  unfold jx_j at h
  split at h
  · cases h; omega
  · cases h
/-- how long an instruction is, of those that are run here (switches apart) -/
def jx_len : Instr → Nat
  | .bipush _ | .iload _ | .lload _ | .dload _ | .aload _ | .istore _ | .lstore _ | .dstore _ | .astore _ | .newarray _ | .ldc _ => 2
  | .sipush _ | .iinc _ _ | .ifCond _ _ | .if_icmp _ _ | .if_acmp _ _ | .ifnull _ | .ifnonnull _ | .goto _ | .getfield _ | .putfield _ | .getstatic _ | .ldc_w _ | .ldc2_w _ | .new _ | .anewarray _ | .checkcast _ | .instanceof _ | .invokestatic _ | .invokespecial _ | .invokevirtual _ => 3
  | _ => 1
/-! what lies on top of a stack -/
def jx_1I : List Value → Option (Int32 × List Value)
  | .int n :: r => some (n, r)
  | _ => none
def jx_2I : List Value → Option (Int32 × Int32 × List Value)
  | .int k :: .int n :: r => some (n, k, r)
  | _ => none
def jx_1L : List Value → Option (Int64 × List Value)
  | .long n :: r => some (n, r)
  | _ => none
def jx_2L : List Value → Option (Int64 × Int64 × List Value)
  | .long k :: .long n :: r => some (n, k, r)
  | _ => none
def jx_LI : List Value → Option (Int64 × Int32 × List Value)
  | .int k :: .long n :: r => some (n, k, r)
  | _ => none
def jx_1D : List Value → Option (UInt64 × List Value)
  | .double n :: r => some (n, r)
  | _ => none
def jx_2D : List Value → Option (UInt64 × UInt64 × List Value)
  | .double k :: .double n :: r => some (n, k, r)
  | _ => none
def jx_1F : List Value → Option (UInt32 × List Value)
  | .float n :: r => some (n, r)
  | _ => none
/-- a reference or null -/
def jx_1A : List Value → Option (Value × List Value)
  | .ref a :: r => some (.ref a, r)
  | .null :: r => some (.null, r)
  | _ => none
def jx_1R : List Value → Option (Nat × List Value)
  | .ref a :: r => some (a, r)
  | _ => none
theorem jx_1I_eq {st : List Value} {q : Int32 × List Value} (h : jx_1I st = some q) : st = .int q.1 :: q.2 := by
  unfold jx_1I at h; split at h <;> cases h; rfl
theorem jx_2I_eq {st : List Value} {q : Int32 × Int32 × List Value} (h : jx_2I st = some q) : st = .int q.2.1 :: .int q.1 :: q.2.2 := by
  unfold jx_2I at h; split at h <;> cases h; rfl
theorem jx_1L_eq {st : List Value} {q : Int64 × List Value} (h : jx_1L st = some q) : st = .long q.1 :: q.2 := by
  unfold jx_1L at h; split at h <;> cases h; rfl
theorem jx_2L_eq {st : List Value} {q : Int64 × Int64 × List Value} (h : jx_2L st = some q) : st = .long q.2.1 :: .long q.1 :: q.2.2 := by
  unfold jx_2L at h; split at h <;> cases h; rfl
theorem jx_LI_eq {st : List Value} {q : Int64 × Int32 × List Value} (h : jx_LI st = some q) : st = .int q.2.1 :: .long q.1 :: q.2.2 := by
  unfold jx_LI at h; split at h <;> cases h; rfl
theorem jx_1D_eq {st : List Value} {q : UInt64 × List Value} (h : jx_1D st = some q) : st = .double q.1 :: q.2 := by
  unfold jx_1D at h; split at h <;> cases h; rfl
theorem jx_2D_eq {st : List Value} {q : UInt64 × UInt64 × List Value} (h : jx_2D st = some q) : st = .double q.2.1 :: .double q.1 :: q.2.2 := by
  unfold jx_2D at h; split at h <;> cases h; rfl
theorem jx_1F_eq {st : List Value} {q : UInt32 × List Value} (h : jx_1F st = some q) : st = .float q.1 :: q.2 := by
  unfold jx_1F at h; split at h <;> cases h; rfl
theorem jx_1R_eq {st : List Value} {q : Nat × List Value} (h : jx_1R st = some q) : st = .ref q.1 :: q.2 := by
  unfold jx_1R at h; split at h <;> cases h; rfl
theorem jx_1A_eq {st : List Value} {q : Value × List Value} (h : jx_1A st = some q) : (∃ a, q.1 = .ref a ∧ st = .ref a :: q.2) ∨ (q.1 = .null ∧ st = .null :: q.2) := by
  unfold jx_1A at h; split at h
  · cases h; exact Or.inl ⟨_, rfl, rfl⟩
  · cases h; exact Or.inr ⟨rfl, rfl⟩
  · cases h
/-! instructions that change the stack alone -/
def jx_S (i : Instr) (st : List Value) : Option (List Value) := match i with
  | .iconst k => some (.int (Int32.ofInt k) :: st)
  | .bipush k => some (.int (Int8.ofInt k).toInt32 :: st)
  | .sipush k => some (.int (Int16.ofInt k).toInt32 :: st)
  | .lconst k => some (.long (Int64.ofNat (k : Nat)) :: st)
  | .dconst k => if k = 0 then some (.double FP.dconst0 :: st) else none
  | .aconst_null => some (.null :: st)
  | .iadd => (jx_2I st).map fun q => .int (q.1 + q.2.1) :: q.2.2
  | .isub => (jx_2I st).map fun q => .int (q.1 - q.2.1) :: q.2.2
  | .imul => (jx_2I st).map fun q => .int (q.1 * q.2.1) :: q.2.2
  | .iand => (jx_2I st).map fun q => .int (q.1 &&& q.2.1) :: q.2.2
  | .ior => (jx_2I st).map fun q => .int (q.1 ||| q.2.1) :: q.2.2
  | .ixor => (jx_2I st).map fun q => .int (q.1 ^^^ q.2.1) :: q.2.2
  | .idiv => (jx_2I st).bind fun q => if q.2.1 = 0 then none else some (.int (q.1 / q.2.1) :: q.2.2)
  | .irem => (jx_2I st).bind fun q => if q.2.1 = 0 then none else some (.int (q.1 - q.1 / q.2.1 * q.2.1) :: q.2.2)
  | .ineg => (jx_1I st).map fun q => .int (-q.1) :: q.2
  | .ishl => (jx_2I st).map fun q => .int (q.1 <<< (q.2.1 &&& 31)) :: q.2.2
  | .ishr => (jx_2I st).map fun q => .int (q.1 >>> (q.2.1 &&& 31)) :: q.2.2
  | .iushr => (jx_2I st).map fun q => .int (q.1.toUInt32 >>> (q.2.1.toUInt32 &&& Int32.toUInt32 31)).toInt32 :: q.2.2
  | .ladd => (jx_2L st).map fun q => .long (q.1 + q.2.1) :: q.2.2
  | .lsub => (jx_2L st).map fun q => .long (q.1 - q.2.1) :: q.2.2
  | .lmul => (jx_2L st).map fun q => .long (q.1 * q.2.1) :: q.2.2
  | .land => (jx_2L st).map fun q => .long (q.1 &&& q.2.1) :: q.2.2
  | .lor => (jx_2L st).map fun q => .long (q.1 ||| q.2.1) :: q.2.2
  | .lxor => (jx_2L st).map fun q => .long (q.1 ^^^ q.2.1) :: q.2.2
  | .ldiv => (jx_2L st).bind fun q => if q.2.1 = 0 then none else some (.long (q.1 / q.2.1) :: q.2.2)
  | .lrem => (jx_2L st).bind fun q => if q.2.1 = 0 then none else some (.long (q.1 - q.1 / q.2.1 * q.2.1) :: q.2.2)
  | .lneg => (jx_1L st).map fun q => .long (-q.1) :: q.2
  | .lshl => (jx_LI st).map fun q => .long (q.1 <<< (q.2.1.toInt64 &&& 63)) :: q.2.2
  | .lshr => (jx_LI st).map fun q => .long (q.1 >>> (q.2.1.toInt64 &&& 63)) :: q.2.2
  | .lushr => (jx_LI st).map fun q => .long (q.1.toUInt64 >>> (q.2.1.toInt64.toUInt64 &&& Int64.toUInt64 63)).toInt64 :: q.2.2
  | .i2l => (jx_1I st).map fun q => .long q.1.toInt64 :: q.2
  | .l2i => (jx_1L st).map fun q => .int q.1.toInt32 :: q.2
  | .i2b => (jx_1I st).map fun q => .int q.1.toInt8.toInt32 :: q.2
  | .i2s => (jx_1I st).map fun q => .int q.1.toInt16.toInt32 :: q.2
  | .i2c => (jx_1I st).map fun q => .int (q.1.toUInt32 % 65536).toInt32 :: q.2
  | .lcmp => (jx_2L st).map fun q => .int (lg_cmp q.1 q.2.1) :: q.2.2
  | .i2d => (jx_1I st).map fun q => .double (FP.i2d q.1) :: q.2
  | .d2l => (jx_1D st).map fun q => .long (FP.d2l q.1) :: q.2
  | .d2f => (jx_1D st).bind fun q => if FP.d2f q.1 &&& 0x7fffffff ≤ 0x7f800000 then some (.float (FP.d2f q.1) :: q.2) else none
  | .f2d => (jx_1F st).bind fun q => if FP.f2d q.1 &&& 0x7fffffffffffffff ≤ 0x7ff0000000000000 then some (.double (FP.f2d q.1) :: q.2) else none
  | .dadd => (jx_2D st).bind fun q => if FP.dadd q.1 q.2.1 &&& 0x7fffffffffffffff ≤ 0x7ff0000000000000 then some (.double (FP.dadd q.1 q.2.1) :: q.2.2) else none
  | .dsub => (jx_2D st).bind fun q => if FP.dsub q.1 q.2.1 &&& 0x7fffffffffffffff ≤ 0x7ff0000000000000 then some (.double (FP.dsub q.1 q.2.1) :: q.2.2) else none
  | .ddiv => (jx_2D st).bind fun q => if FP.ddiv q.1 q.2.1 &&& 0x7fffffffffffffff ≤ 0x7ff0000000000000 then some (.double (FP.ddiv q.1 q.2.1) :: q.2.2) else none
  | .dcmp o => (jx_2D st).map fun q => .int (Op.cmpValue (FP.dcmp q.1 q.2.1) o) :: q.2.2
  | .dup => match st with
    | v :: r => if v.category = 1 then some (v :: v :: r) else none
    | [] => none
  | .pop => match st with
    | v :: r => if v.category = 1 then some r else none
    | [] => none
  | .dup_x1 => match st with
    | v :: w :: r => if v.category = 1 ∧ w.category = 1 then some (v :: w :: v :: r) else none
    | _ => none
  | .dup2 => match st with
    | v :: w :: r => if v.category = 2 then some (v :: v :: w :: r) else if w.category = 1 then some (v :: w :: v :: w :: r) else none
    | [v] => if v.category = 2 then some [v, v] else none
    | [] => none
  | _ => none
section JXS
variable {p : Program} {l : Launch} {e : Env} {R : Room} {s : State} {m : MethodId} {args : Array Value} {below : List Frame} {meth : Method} {c : Code} {H : Heap} {locs : List Loc} {cells slots : Nat} {Q : State → Prop} {cc : ByteArray} {pc : Nat} {ls : Array Slot} {g : Nat → Nat}
theorem jx_S_ok (hx : p.tables.exec = Jvm.exec) (hb : c.code = cc) {i : Instr} {st st' : List Value} (hd : decode cc pc = .ok (i, jx_len i)) (h : jx_S i st = some st')
    (k : W p l e R s m args below meth c H locs cells slots Q (F0 m (pc + jx_len i) ls (st'.map (jx_v g)))) : W p l e R s m args below meth c H locs cells slots Q (F0 m pc ls (st.map (jx_v g))) := by
  cases i with
  | iconst n => cases h; exact lv_iconst hx hb hd rfl k
  | bipush n => cases h; exact lv_bipush hx hb hd rfl k
  | sipush n => cases h; exact lv_sipush hx hb hd rfl k
  | lconst n => cases h; exact lv_lconst hx hb hd rfl k
  | dconst n =>
    simp only [jx_S] at h
    split at h
    · rename_i hn
      subst hn
      cases h; exact lv_dconst0 hx hb hd k
    · cases h
  | aconst_null => cases h; exact lv_null hx hb hd k
  | iadd =>
    obtain ⟨q, hq, he⟩ := Option.map_eq_some_iff.mp (show Option.map _ _ = _ from h)
    subst he; rw [jx_2I_eq hq]; exact lv_iadd hx hb hd k
  | isub =>
    obtain ⟨q, hq, he⟩ := Option.map_eq_some_iff.mp (show Option.map _ _ = _ from h)
    subst he; rw [jx_2I_eq hq]; exact lv_isub hx hb hd k
  | imul =>
    obtain ⟨q, hq, he⟩ := Option.map_eq_some_iff.mp (show Option.map _ _ = _ from h)
    subst he; rw [jx_2I_eq hq]; exact lv_imul hx hb hd k
  | iand =>
    obtain ⟨q, hq, he⟩ := Option.map_eq_some_iff.mp (show Option.map _ _ = _ from h)
    subst he; rw [jx_2I_eq hq]; exact lv_iand hx hb hd k
  | ior =>
    obtain ⟨q, hq, he⟩ := Option.map_eq_some_iff.mp (show Option.map _ _ = _ from h)
    subst he; rw [jx_2I_eq hq]; exact lv_ior hx hb hd k
  | ixor =>
    obtain ⟨q, hq, he⟩ := Option.map_eq_some_iff.mp (show Option.map _ _ = _ from h)
    subst he; rw [jx_2I_eq hq]; exact lv_ixor hx hb hd k
  | idiv =>
    obtain ⟨q, hq, he⟩ := Option.bind_eq_some_iff.mp (show Option.bind _ _ = _ from h)
    split at he
    · cases he
    · rename_i hne
      cases he; rw [jx_2I_eq hq]; exact lv_idiv hx hb hd hne k
  | irem =>
    obtain ⟨q, hq, he⟩ := Option.bind_eq_some_iff.mp (show Option.bind _ _ = _ from h)
    split at he
    · cases he
    · rename_i hne
      cases he; rw [jx_2I_eq hq]; exact lv_irem hx hb hd hne k
  | ineg =>
    obtain ⟨q, hq, he⟩ := Option.map_eq_some_iff.mp (show Option.map _ _ = _ from h)
    subst he; rw [jx_1I_eq hq]; exact lv_ineg hx hb hd k
  | ishl =>
    obtain ⟨q, hq, he⟩ := Option.map_eq_some_iff.mp (show Option.map _ _ = _ from h)
    subst he; rw [jx_2I_eq hq]; exact lv_ishl hx hb hd k
  | ishr =>
    obtain ⟨q, hq, he⟩ := Option.map_eq_some_iff.mp (show Option.map _ _ = _ from h)
    subst he; rw [jx_2I_eq hq]; exact lv_ishr hx hb hd k
  | iushr =>
    obtain ⟨q, hq, he⟩ := Option.map_eq_some_iff.mp (show Option.map _ _ = _ from h)
    subst he; rw [jx_2I_eq hq]; exact lv_iushr hx hb hd rfl k
  | ladd =>
    obtain ⟨q, hq, he⟩ := Option.map_eq_some_iff.mp (show Option.map _ _ = _ from h)
    subst he; rw [jx_2L_eq hq]; exact lv_ladd hx hb hd k
  | lsub =>
    obtain ⟨q, hq, he⟩ := Option.map_eq_some_iff.mp (show Option.map _ _ = _ from h)
    subst he; rw [jx_2L_eq hq]; exact lv_lsub hx hb hd k
  | lmul =>
    obtain ⟨q, hq, he⟩ := Option.map_eq_some_iff.mp (show Option.map _ _ = _ from h)
    subst he; rw [jx_2L_eq hq]; exact lv_lmul hx hb hd k
  | land =>
    obtain ⟨q, hq, he⟩ := Option.map_eq_some_iff.mp (show Option.map _ _ = _ from h)
    subst he; rw [jx_2L_eq hq]; exact lv_land hx hb hd k
  | lor =>
    obtain ⟨q, hq, he⟩ := Option.map_eq_some_iff.mp (show Option.map _ _ = _ from h)
    subst he; rw [jx_2L_eq hq]; exact lv_lor hx hb hd k
  | lxor =>
    obtain ⟨q, hq, he⟩ := Option.map_eq_some_iff.mp (show Option.map _ _ = _ from h)
    subst he; rw [jx_2L_eq hq]; exact lv_lxor hx hb hd k
  | ldiv =>
    obtain ⟨q, hq, he⟩ := Option.bind_eq_some_iff.mp (show Option.bind _ _ = _ from h)
    split at he
    · cases he
    · rename_i hne
      cases he; rw [jx_2L_eq hq]; exact lv_ldiv hx hb hd hne k
  | lrem =>
    obtain ⟨q, hq, he⟩ := Option.bind_eq_some_iff.mp (show Option.bind _ _ = _ from h)
    split at he
    · cases he
    · rename_i hne
      cases he; rw [jx_2L_eq hq]; exact lv_lrem hx hb hd hne k
  | lneg =>
    obtain ⟨q, hq, he⟩ := Option.map_eq_some_iff.mp (show Option.map _ _ = _ from h)
    subst he; rw [jx_1L_eq hq]; exact lv_lneg hx hb hd k
  | lshl =>
    obtain ⟨q, hq, he⟩ := Option.map_eq_some_iff.mp (show Option.map _ _ = _ from h)
    subst he; rw [jx_LI_eq hq]; exact lv_lshl hx hb hd rfl k
  | lshr =>
    obtain ⟨q, hq, he⟩ := Option.map_eq_some_iff.mp (show Option.map _ _ = _ from h)
    subst he; rw [jx_LI_eq hq]; exact lv_lshr hx hb hd rfl k
  | lushr =>
    obtain ⟨q, hq, he⟩ := Option.map_eq_some_iff.mp (show Option.map _ _ = _ from h)
    subst he; rw [jx_LI_eq hq]; exact lv_lushr hx hb hd rfl k
  | i2l =>
    obtain ⟨q, hq, he⟩ := Option.map_eq_some_iff.mp (show Option.map _ _ = _ from h)
    subst he; rw [jx_1I_eq hq]; exact lv_i2l hx hb hd rfl k
  | l2i =>
    obtain ⟨q, hq, he⟩ := Option.map_eq_some_iff.mp (show Option.map _ _ = _ from h)
    subst he; rw [jx_1L_eq hq]; exact lv_l2i hx hb hd rfl k
  | i2b =>
    obtain ⟨q, hq, he⟩ := Option.map_eq_some_iff.mp (show Option.map _ _ = _ from h)
    subst he; rw [jx_1I_eq hq]; exact lv_i2b hx hb hd rfl k
  | i2s =>
    obtain ⟨q, hq, he⟩ := Option.map_eq_some_iff.mp (show Option.map _ _ = _ from h)
    subst he; rw [jx_1I_eq hq]; exact lv_i2s hx hb hd rfl k
  | i2c =>
    obtain ⟨q, hq, he⟩ := Option.map_eq_some_iff.mp (show Option.map _ _ = _ from h)
    subst he; rw [jx_1I_eq hq]; exact lv_i2c hx hb hd rfl k
  | lcmp =>
    obtain ⟨q, hq, he⟩ := Option.map_eq_some_iff.mp (show Option.map _ _ = _ from h)
    subst he; rw [jx_2L_eq hq]; exact W.lcmp hx hb hd k
  | i2d =>
    obtain ⟨q, hq, he⟩ := Option.map_eq_some_iff.mp (show Option.map _ _ = _ from h)
    subst he; rw [jx_1I_eq hq]; exact lv_i2d hx hb hd k
  | d2l =>
    obtain ⟨q, hq, he⟩ := Option.map_eq_some_iff.mp (show Option.map _ _ = _ from h)
    subst he; rw [jx_1D_eq hq]; exact lv_d2l hx hb hd k
  | d2f =>
    obtain ⟨q, hq, he⟩ := Option.bind_eq_some_iff.mp (show Option.bind _ _ = _ from h)
    split at he
    · rename_i hne
      cases he; rw [jx_1D_eq hq]; exact lv_d2f hx hb hd hne k
    · cases he
  | f2d =>
    obtain ⟨q, hq, he⟩ := Option.bind_eq_some_iff.mp (show Option.bind _ _ = _ from h)
    split at he
    · rename_i hne
      cases he; rw [jx_1F_eq hq]; exact lv_f2d hx hb hd hne k
    · cases he
  | dadd =>
    obtain ⟨q, hq, he⟩ := Option.bind_eq_some_iff.mp (show Option.bind _ _ = _ from h)
    split at he
    · rename_i hne
      cases he; rw [jx_2D_eq hq]; exact lv_dadd hx hb hd hne k
    · cases he
  | dsub =>
    obtain ⟨q, hq, he⟩ := Option.bind_eq_some_iff.mp (show Option.bind _ _ = _ from h)
    split at he
    · rename_i hne
      cases he; rw [jx_2D_eq hq]; exact lv_dsub hx hb hd hne k
    · cases he
  | ddiv =>
    obtain ⟨q, hq, he⟩ := Option.bind_eq_some_iff.mp (show Option.bind _ _ = _ from h)
    split at he
    · rename_i hne
      cases he; rw [jx_2D_eq hq]; exact lv_ddiv hx hb hd hne k
    · cases he
  | dcmp o =>
    obtain ⟨q, hq, he⟩ := Option.map_eq_some_iff.mp (show Option.map _ _ = _ from h)
    subst he; rw [jx_2D_eq hq]; exact lv_dcmp hx hb hd k
  | dup =>
    simp only [jx_S] at h
    split at h
    · split at h
      · rename_i hc
        cases h; exact lv_dup hx hb hd (by rw [jx_v_cat]; exact hc) k
      · cases h
    · cases h
  | pop =>
    simp only [jx_S] at h
    split at h
    · split at h
      · rename_i hc
        cases h; exact lv_pop hx hb hd (by rw [jx_v_cat]; exact hc) k
      · cases h
    · cases h
  | dup_x1 =>
    simp only [jx_S] at h
    split at h
    · split at h
      · rename_i hc
        cases h; exact lv_dup_x1 hx hb hd (by rw [jx_v_cat]; exact hc.1) (by rw [jx_v_cat]; exact hc.2) k
      · cases h
    · cases h
  | dup2 =>
    simp only [jx_S] at h
    split at h
    · rename_i v w r
      split at h
      · rename_i hc
        cases h; exact lv_dup2_2 hx hb hd (by rw [jx_v_cat]; exact hc) k
      · rename_i hv
        split at h
        · rename_i hw
          cases h; exact lv_dup2_11 hx hb hd (by rw [jx_v_cat]; rcases lv_cat v with h1 | h1 <;> omega) (by rw [jx_v_cat]; exact hw) k
        · cases h
    · split at h
      · rename_i hc
        cases h; exact lv_dup2_2 hx hb hd (by rw [jx_v_cat]; exact hc) k
      · cases h
    · cases h
  | _ => exact Option.noConfusion (show (none : Option (List Value)) = some st' from h)
end JXS
