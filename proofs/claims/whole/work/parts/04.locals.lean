/-! LOCALS: a list, a place that holds nothing known is none -/
def jx_ld (l : jx_L) (i : Nat) : Option Value := match l[i]? with
  | some (some v) => some v
  | _ => none
/-- a store into the second half of a long: that long is gone -/
def jx_cl (l : jx_L) (i : Nat) : jx_L := match i with
  | 0 => l
  | j + 1 => match jx_ld l j with
    | some v => if v.category = 2 then l.set j none else l
    | none => l
def jx_s1 (n : Nat) (l : jx_L) (i : Nat) (v : Value) : Option jx_L := if i < n then some ((jx_cl l i).set i (some v)) else none
def jx_s2 (n : Nat) (l : jx_L) (i : Nat) (v : Value) : Option jx_L := if i + 1 < n then some (((jx_cl l i).set i (some v)).set (i + 1) none) else none
/-- the known places, with the machine's addresses -/
def jx_p (g : Nat → Nat) (l : jx_L) : List (Nat × Value) := (List.range l.length).filterMap fun i => (jx_ld l i).map fun v => (i, jx_v g v)
theorem jx_ld_iff {l : jx_L} {i : Nat} {v : Value} : jx_ld l i = some v ↔ l[i]? = some (some v) := by
  unfold jx_ld
  split
  · rename_i w h
    rw [h]; simp
  · rename_i h
    constructor
    · intro q; cases q
    · intro q; exact absurd q (h v)
theorem jx_p_mem {g : Nat → Nat} {l : jx_L} {q : Nat × Value} : q ∈ jx_p g l ↔ ∃ v, jx_ld l q.1 = some v ∧ q.2 = jx_v g v := by
  unfold jx_p
  rw [List.mem_filterMap]
  constructor
  · rintro ⟨i, -, h⟩
    obtain ⟨v, hv, he⟩ := Option.map_eq_some_iff.mp h
    subst he
    exact ⟨v, hv, rfl⟩
  · rintro ⟨v, hv, he⟩
    refine ⟨q.1, ?_, ?_⟩
    · rw [List.mem_range]
      exact (List.getElem?_eq_some_iff.mp (jx_ld_iff.mp hv)).1
    · rw [hv]
      show some (q.1, jx_v g v) = some q
      rw [← he]
/-- what of a list is known still holds of fewer -/
theorem jx_has_sub {ls : Array Slot} {n : Nat} {a b : List (Nat × Value)} (h : lv_has ls n a) (hs : ∀ q ∈ b, q ∈ a) : lv_has ls n b := ⟨h.1, h.2.1, fun q hq => h.2.2 q (hs q hq)⟩
theorem jx_at {g : Nat → Nat} {ls : Array Slot} {n : Nat} {l : jx_L} (h : lv_has ls n (jx_p g l)) {i : Nat} {v : Value} (hv : jx_ld l i = some v) : ls[i]? = some (.val (jx_v g v)) := h.2.2 (i, jx_v g v) (jx_p_mem.mpr ⟨v, hv, rfl⟩)
theorem jx_cl_ld {l : jx_L} {i j : Nat} {v : Value} (h : jx_ld (jx_cl l i) j = some v) : jx_ld l j = some v ∧ (j + 1 = i → v.category ≠ 2) := by
  unfold jx_cl at h
  split at h
  · exact ⟨h, fun q => by omega⟩
  · rename_i k
    split at h
    · rename_i w hw
      split at h
      · rename_i hc
        rw [jx_ld_iff] at h
        by_cases hj : j = k
        · subst hj
          rw [List.getElem?_set_self (List.getElem?_eq_some_iff.mp (jx_ld_iff.mp hw)).1] at h
          cases h
        · rw [List.getElem?_set_ne (Ne.symm hj)] at h
          exact ⟨jx_ld_iff.mpr h, fun q => by omega⟩
      · rename_i hc
        refine ⟨h, fun q => ?_⟩
        have hj : j = k := by omega
        subst hj
        rw [hw] at h; cases h
        exact hc
    · rename_i hw
      refine ⟨h, fun q => ?_⟩
      have hj : j = k := by omega
      subst hj
      rw [hw] at h; cases h
/-- behind a store of one slot -/
theorem jx_s1_has {g : Nat → Nat} {ls : Array Slot} {n : Nat} {l l' : jx_L} {i : Nat} {v : Value} (hs : jx_s1 n l i v = some l')
    (h : lv_has ls n ((i, jx_v g v) :: (jx_p g l).filter (fun q => !(q.1 == i) && !(q.1 + 1 == i && q.2.category == 2)))) : lv_has ls n (jx_p g l') := by
  unfold jx_s1 at hs
  split at hs
  · cases hs
    refine jx_has_sub h fun q hq => ?_
    obtain ⟨w, hw, he⟩ := jx_p_mem.mp hq
    obtain ⟨j, z⟩ := q
    dsimp only at hw he
    by_cases hj : j = i
    · subst hj
      have hlt : j < (jx_cl l j).length := by
        have := (List.getElem?_eq_some_iff.mp (jx_ld_iff.mp hw)).1
        simpa using this
      rw [jx_ld_iff, List.getElem?_set_self hlt] at hw
      cases hw
      rw [he]; exact List.mem_cons_self
    · rw [jx_ld_iff, List.getElem?_set_ne (Ne.symm hj), ← jx_ld_iff] at hw
      obtain ⟨h1, h2⟩ := jx_cl_ld hw
      refine List.mem_cons_of_mem _ (List.mem_filter.mpr ⟨jx_p_mem.mpr ⟨w, h1, he⟩, ?_⟩)
      have h3 : (j == i) = false := by simpa using hj
      simp only [h3, Bool.not_false, Bool.true_and, Bool.not_eq_true', Bool.and_eq_false_iff, beq_eq_false_iff_ne]
      by_cases h4 : j + 1 = i
      · right; rw [he, jx_v_cat]; exact h2 h4
      · left; exact h4
  · cases hs
/-- behind a store of two slots -/
theorem jx_s2_has {g : Nat → Nat} {ls : Array Slot} {n : Nat} {l l' : jx_L} {i : Nat} {v : Value} (hs : jx_s2 n l i v = some l')
    (h : lv_has ls n ((i, jx_v g v) :: (jx_p g l).filter (fun q => !(q.1 == i) && (!(q.1 == i + 1) && !(q.1 + 1 == i && q.2.category == 2))))) : lv_has ls n (jx_p g l') := by
  unfold jx_s2 at hs
  split at hs
  · cases hs
    refine jx_has_sub h fun q hq => ?_
    obtain ⟨w, hw, he⟩ := jx_p_mem.mp hq
    obtain ⟨j, z⟩ := q
    dsimp only at hw he
    by_cases hj1 : j = i + 1
    · subst hj1
      have hlt : i + 1 < ((jx_cl l i).set i (some v)).length := by
        have := (List.getElem?_eq_some_iff.mp (jx_ld_iff.mp hw)).1
        simpa using this
      rw [jx_ld_iff, List.getElem?_set_self hlt] at hw
      cases hw
    · rw [jx_ld_iff, List.getElem?_set_ne (Ne.symm hj1)] at hw
      by_cases hj : j = i
      · subst hj
        have hlt : j < (jx_cl l j).length := by
          have := (List.getElem?_eq_some_iff.mp hw).1
          simpa using this
        rw [List.getElem?_set_self hlt] at hw
        cases hw
        rw [he]; exact List.mem_cons_self
      · rw [List.getElem?_set_ne (Ne.symm hj), ← jx_ld_iff] at hw
        obtain ⟨h1, h2⟩ := jx_cl_ld hw
        refine List.mem_cons_of_mem _ (List.mem_filter.mpr ⟨jx_p_mem.mpr ⟨w, h1, he⟩, ?_⟩)
        have h3 : (j == i) = false := by simpa using hj
        have h5 : (j == i + 1) = false := by simpa using hj1
        simp only [h3, h5, Bool.not_false, Bool.true_and, Bool.not_eq_true', Bool.and_eq_false_iff, beq_eq_false_iff_ne]
        by_cases h4 : j + 1 = i
        · right; rw [he, jx_v_cat]; exact h2 h4
        · left; exact h4
  · cases hs
theorem jx_s1_lt {n : Nat} {l l' : jx_L} {i : Nat} {v : Value} (hs : jx_s1 n l i v = some l') : i < n := by
  unfold jx_s1 at hs; split at hs
  · assumption
  · cases hs
theorem jx_s2_lt {n : Nat} {l l' : jx_L} {i : Nat} {v : Value} (hs : jx_s2 n l i v = some l') : i + 1 < n := by
  unfold jx_s2 at hs; split at hs
  · assumption
  · cases hs
def jx_ldI (l : jx_L) (i : Nat) : Option Int32 := match jx_ld l i with
  | some (.int n) => some n
  | _ => none
def jx_ldL (l : jx_L) (i : Nat) : Option Int64 := match jx_ld l i with
  | some (.long n) => some n
  | _ => none
def jx_ldD (l : jx_L) (i : Nat) : Option UInt64 := match jx_ld l i with
  | some (.double n) => some n
  | _ => none
/-- a reference (its place) or null (none) -/
def jx_ldA (l : jx_L) (i : Nat) : Option (Option Nat) := match jx_ld l i with
  | some (.ref a) => some (some a)
  | some .null => some none
  | _ => none
theorem jx_ldI_eq {l : jx_L} {i : Nat} {n : Int32} (h : jx_ldI l i = some n) : jx_ld l i = some (.int n) := by
  unfold jx_ldI at h; split at h
  · rename_i hw; cases h; exact hw
  · cases h
theorem jx_ldL_eq {l : jx_L} {i : Nat} {n : Int64} (h : jx_ldL l i = some n) : jx_ld l i = some (.long n) := by
  unfold jx_ldL at h; split at h
  · rename_i hw; cases h; exact hw
  · cases h
theorem jx_ldD_eq {l : jx_L} {i : Nat} {n : UInt64} (h : jx_ldD l i = some n) : jx_ld l i = some (.double n) := by
  unfold jx_ldD at h; split at h
  · rename_i hw; cases h; exact hw
  · cases h
def jx_rf : Option Nat → Value
  | some a => .ref a
  | none => .null
theorem jx_ldA_eq {l : jx_L} {i : Nat} {o : Option Nat} (h : jx_ldA l i = some o) : jx_ld l i = some (jx_rf o) := by
  unfold jx_ldA at h; split at h
  · rename_i hw; cases h; exact hw
  · rename_i hw; cases h; exact hw
  · cases h
/-- a reference or null on top -/
def jx_1O : List Value → Option (Option Nat × List Value)
  | .ref a :: r => some (some a, r)
  | .null :: r => some (none, r)
  | _ => none
theorem jx_1O_eq {st : List Value} {q : Option Nat × List Value} (h : jx_1O st = some q) : st = jx_rf q.1 :: q.2 := by
  unfold jx_1O at h; split at h <;> cases h <;> rfl
/-! instructions on locals -/
def jx_Lo (n : Nat) (i : Instr) (l : jx_L) (st : List Value) : Option (jx_L × List Value) := match i with
  | .iload k => (jx_ldI l k).map fun v => (l, .int v :: st)
  | .iload_n k => (jx_ldI l (k : Nat)).map fun v => (l, .int v :: st)
  | .lload k => (jx_ldL l k).map fun v => (l, .long v :: st)
  | .lload_n k => (jx_ldL l (k : Nat)).map fun v => (l, .long v :: st)
  | .dload k => (jx_ldD l k).map fun v => (l, .double v :: st)
  | .dload_n k => (jx_ldD l (k : Nat)).map fun v => (l, .double v :: st)
  | .aload k => (jx_ldA l k).map fun v => (l, jx_rf v :: st)
  | .aload_n k => (jx_ldA l (k : Nat)).map fun v => (l, jx_rf v :: st)
  | .istore k => (jx_1I st).bind fun q => (jx_s1 n l k (.int q.1)).map fun l' => (l', q.2)
  | .istore_n k => (jx_1I st).bind fun q => (jx_s1 n l (k : Nat) (.int q.1)).map fun l' => (l', q.2)
  | .lstore k => (jx_1L st).bind fun q => (jx_s2 n l k (.long q.1)).map fun l' => (l', q.2)
  | .lstore_n k => (jx_1L st).bind fun q => (jx_s2 n l (k : Nat) (.long q.1)).map fun l' => (l', q.2)
  | .dstore k => (jx_1D st).bind fun q => (jx_s2 n l k (.double q.1)).map fun l' => (l', q.2)
  | .dstore_n k => (jx_1D st).bind fun q => (jx_s2 n l (k : Nat) (.double q.1)).map fun l' => (l', q.2)
  | .astore k => (jx_1O st).bind fun q => (jx_s1 n l k (jx_rf q.1)).map fun l' => (l', q.2)
  | .astore_n k => (jx_1O st).bind fun q => (jx_s1 n l (k : Nat) (jx_rf q.1)).map fun l' => (l', q.2)
  | .iinc k d => (jx_ldI l k).bind fun v => (jx_s1 n l k (.int (v + Int32.ofInt d))).map fun l' => (l', st)
  | _ => none
/-! jumps -/
def jx_J (pc : Nat) (i : Instr) (st : List Value) : Option (Nat × List Value) := match i with
  | .goto off => (jx_j pc off).map fun t => (t, st)
  | .ifCond .eq off => (jx_1I st).bind fun q => (jx_j pc off).map fun t => (if q.1 = 0 then t else pc + 3, q.2)
  | .ifCond .ne off => (jx_1I st).bind fun q => (jx_j pc off).map fun t => (if ¬ q.1 = 0 then t else pc + 3, q.2)
  | .ifCond .lt off => (jx_1I st).bind fun q => (jx_j pc off).map fun t => (if q.1 < 0 then t else pc + 3, q.2)
  | .ifCond .ge off => (jx_1I st).bind fun q => (jx_j pc off).map fun t => (if 0 ≤ q.1 then t else pc + 3, q.2)
  | .ifCond .gt off => (jx_1I st).bind fun q => (jx_j pc off).map fun t => (if 0 < q.1 then t else pc + 3, q.2)
  | .ifCond .le off => (jx_1I st).bind fun q => (jx_j pc off).map fun t => (if q.1 ≤ 0 then t else pc + 3, q.2)
  | .if_icmp .eq off => (jx_2I st).bind fun q => (jx_j pc off).map fun t => (if q.1 = q.2.1 then t else pc + 3, q.2.2)
  | .if_icmp .ne off => (jx_2I st).bind fun q => (jx_j pc off).map fun t => (if ¬ q.1 = q.2.1 then t else pc + 3, q.2.2)
  | .if_icmp .lt off => (jx_2I st).bind fun q => (jx_j pc off).map fun t => (if q.1 < q.2.1 then t else pc + 3, q.2.2)
  | .if_icmp .ge off => (jx_2I st).bind fun q => (jx_j pc off).map fun t => (if q.2.1 ≤ q.1 then t else pc + 3, q.2.2)
  | .if_icmp .gt off => (jx_2I st).bind fun q => (jx_j pc off).map fun t => (if q.2.1 < q.1 then t else pc + 3, q.2.2)
  | .if_icmp .le off => (jx_2I st).bind fun q => (jx_j pc off).map fun t => (if q.1 ≤ q.2.1 then t else pc + 3, q.2.2)
  | .ifnull off => (jx_1O st).bind fun q => (jx_j pc off).map fun t => (if q.1 = none then t else pc + 3, q.2)
  | .ifnonnull off => (jx_1O st).bind fun q => (jx_j pc off).map fun t => (if q.1 = none then pc + 3 else t, q.2)
  | _ => none
/-- switches: they may be of any length -/
def jx_W (pc : Nat) (i : Instr) (st : List Value) : Option (Nat × List Value) := match i with
  | .tableswitch dflt lo hi offs => (jx_1I st).bind fun q => (jx_j pc (if q.1.toInt < lo ∨ hi < q.1.toInt then dflt else (offs[(q.1.toInt - lo).toNat]?).getD dflt)).bind fun t => if q.1.toInt < lo ∨ hi < q.1.toInt ∨ (q.1.toInt - lo).toNat < offs.size then some (t, q.2) else none
  | .lookupswitch dflt ps => (jx_1I st).bind fun q => (jx_j pc (Op.lookupswitch.offset ps.toList dflt q.1.toInt)).bind fun t => if (ps.toList.zip (ps.toList.drop 1)).all (fun (a, next) => a.1 < next.1) = true then some (t, q.2) else none
  | _ => none
section JXL
variable {p : Program} {l : Launch} {e : Env} {R : Room} {s : State} {m : MethodId} {args : Array Value} {below : List Frame} {meth : Method} {c : Code} {H : Heap} {locs : List Loc} {cells slots : Nat} {Q : State → Prop} {cc : ByteArray} {pc : Nat} {ls : Array Slot} {g : Nat → Nat}
theorem jx_Lo_ok (hx : p.tables.exec = Jvm.exec) (hb : c.code = cc) {i : Instr} {n : Nat} {lo lo' : jx_L} {st st' : List Value} (hd : decode cc pc = .ok (i, jx_len i)) (h : jx_Lo n i lo st = some (lo', st')) (hl : lv_has ls n (jx_p g lo))
    (k : ∀ ls' : Array Slot, lv_has ls' n (jx_p g lo') → W p l e R s m args below meth c H locs cells slots Q (F0 m (pc + jx_len i) ls' (st'.map (jx_v g)))) : W p l e R s m args below meth c H locs cells slots Q (F0 m pc ls (st.map (jx_v g))) := by
  cases i with
  | iload j =>
    obtain ⟨v, hv, he⟩ := Option.map_eq_some_iff.mp (show Option.map _ _ = _ from h)
    cases he
    exact lv_iload hx hb hd (jx_at hl (jx_ldI_eq hv)) (k ls hl)
  | iload_n j =>
    obtain ⟨v, hv, he⟩ := Option.map_eq_some_iff.mp (show Option.map _ _ = _ from h)
    cases he
    exact lv_iload_n hx hb hd rfl (jx_at hl (jx_ldI_eq hv)) (k ls hl)
  | lload j =>
    obtain ⟨v, hv, he⟩ := Option.map_eq_some_iff.mp (show Option.map _ _ = _ from h)
    cases he
    exact lv_lload hx hb hd (jx_at hl (jx_ldL_eq hv)) (k ls hl)
  | lload_n j =>
    obtain ⟨v, hv, he⟩ := Option.map_eq_some_iff.mp (show Option.map _ _ = _ from h)
    cases he
    exact lv_lload_n hx hb hd rfl (jx_at hl (jx_ldL_eq hv)) (k ls hl)
  | dload j =>
    obtain ⟨v, hv, he⟩ := Option.map_eq_some_iff.mp (show Option.map _ _ = _ from h)
    cases he
    exact lv_dload hx hb hd (jx_at hl (jx_ldD_eq hv)) (k ls hl)
  | dload_n j =>
    obtain ⟨v, hv, he⟩ := Option.map_eq_some_iff.mp (show Option.map _ _ = _ from h)
    cases he
    exact lv_dload_n hx hb hd rfl (jx_at hl (jx_ldD_eq hv)) (k ls hl)
  | aload j =>
    obtain ⟨v, hv, he⟩ := Option.map_eq_some_iff.mp (show Option.map _ _ = _ from h)
    cases he
    have ha := jx_at hl (jx_ldA_eq hv)
    cases v with
    | some a => exact lv_aload hx hb hd ha (k ls hl)
    | none => exact lv_aloadN hx hb hd ha (k ls hl)
  | aload_n j =>
    obtain ⟨v, hv, he⟩ := Option.map_eq_some_iff.mp (show Option.map _ _ = _ from h)
    cases he
    have ha := jx_at hl (jx_ldA_eq hv)
    cases v with
    | some a => exact lv_aload_n hx hb hd rfl ha (k ls hl)
    | none => exact lv_aload_nN hx hb hd rfl ha (k ls hl)
  | istore j =>
    obtain ⟨q, hq, h1⟩ := Option.bind_eq_some_iff.mp (show Option.bind _ _ = _ from h)
    obtain ⟨l2, h2, he⟩ := Option.map_eq_some_iff.mp h1
    cases he
    rw [jx_1I_eq hq]
    exact lv_istore hx hb hd hl (jx_s1_lt h2) rfl (fun ls' h3 => k ls' (jx_s1_has h2 h3))
  | istore_n j =>
    obtain ⟨q, hq, h1⟩ := Option.bind_eq_some_iff.mp (show Option.bind _ _ = _ from h)
    obtain ⟨l2, h2, he⟩ := Option.map_eq_some_iff.mp h1
    cases he
    rw [jx_1I_eq hq]
    exact lv_istore_n hx hb hd rfl hl (jx_s1_lt h2) rfl (fun ls' h3 => k ls' (jx_s1_has h2 h3))
  | lstore j =>
    obtain ⟨q, hq, h1⟩ := Option.bind_eq_some_iff.mp (show Option.bind _ _ = _ from h)
    obtain ⟨l2, h2, he⟩ := Option.map_eq_some_iff.mp h1
    cases he
    rw [jx_1L_eq hq]
    exact lv_lstore hx hb hd hl (jx_s2_lt h2) rfl (fun ls' h3 => k ls' (jx_s2_has h2 h3))
  | lstore_n j =>
    obtain ⟨q, hq, h1⟩ := Option.bind_eq_some_iff.mp (show Option.bind _ _ = _ from h)
    obtain ⟨l2, h2, he⟩ := Option.map_eq_some_iff.mp h1
    cases he
    rw [jx_1L_eq hq]
    exact lv_lstore_n hx hb hd rfl hl (jx_s2_lt h2) rfl (fun ls' h3 => k ls' (jx_s2_has h2 h3))
  | dstore j =>
    obtain ⟨q, hq, h1⟩ := Option.bind_eq_some_iff.mp (show Option.bind _ _ = _ from h)
    obtain ⟨l2, h2, he⟩ := Option.map_eq_some_iff.mp h1
    cases he
    rw [jx_1D_eq hq]
    exact lv_dstore hx hb hd hl (jx_s2_lt h2) rfl (fun ls' h3 => k ls' (jx_s2_has h2 h3))
  | dstore_n j =>
    obtain ⟨q, hq, h1⟩ := Option.bind_eq_some_iff.mp (show Option.bind _ _ = _ from h)
    obtain ⟨l2, h2, he⟩ := Option.map_eq_some_iff.mp h1
    cases he
    rw [jx_1D_eq hq]
    exact lv_dstore_n hx hb hd rfl hl (jx_s2_lt h2) rfl (fun ls' h3 => k ls' (jx_s2_has h2 h3))
  | astore j =>
    obtain ⟨q, hq, h1⟩ := Option.bind_eq_some_iff.mp (show Option.bind _ _ = _ from h)
    obtain ⟨l2, h2, he⟩ := Option.map_eq_some_iff.mp h1
    cases he
    rw [jx_1O_eq hq]
    obtain ⟨o, r⟩ := q
    cases o with
    | some a => exact lv_astore hx hb hd hl (jx_s1_lt h2) rfl (fun ls' h3 => k ls' (jx_s1_has h2 h3))
    | none => exact lv_astoreN hx hb hd hl (jx_s1_lt h2) rfl (fun ls' h3 => k ls' (jx_s1_has h2 h3))
  | astore_n j =>
    obtain ⟨q, hq, h1⟩ := Option.bind_eq_some_iff.mp (show Option.bind _ _ = _ from h)
    obtain ⟨l2, h2, he⟩ := Option.map_eq_some_iff.mp h1
    cases he
    rw [jx_1O_eq hq]
    obtain ⟨o, r⟩ := q
    cases o with
    | some a => exact lv_astore_n hx hb hd rfl hl (jx_s1_lt h2) rfl (fun ls' h3 => k ls' (jx_s1_has h2 h3))
    | none => exact lv_astore_nN hx hb hd rfl hl (jx_s1_lt h2) rfl (fun ls' h3 => k ls' (jx_s1_has h2 h3))
  | iinc j d =>
    obtain ⟨v, hv, h1⟩ := Option.bind_eq_some_iff.mp (show Option.bind _ _ = _ from h)
    obtain ⟨l2, h2, he⟩ := Option.map_eq_some_iff.mp h1
    cases he
    obtain ⟨z, hz⟩ := List.getElem?_of_mem (jx_p_mem (g := g) (q := (j, .int v)).mpr ⟨.int v, jx_ldI_eq hv, rfl⟩)
    exact lv_iinc hx hb hd hl hz rfl (jx_s1_lt h2) rfl (fun ls' h3 => k ls' (jx_s1_has h2 h3))
  | _ => exact Option.noConfusion (show (none : Option (jx_L × List Value)) = some (lo', st') from h)
theorem jx_J_ok (hx : p.tables.exec = Jvm.exec) (hb : c.code = cc) {i : Instr} {t : Nat} {st st' : List Value} (hd : decode cc pc = .ok (i, jx_len i)) (h : jx_J pc i st = some (t, st'))
    (k : W p l e R s m args below meth c H locs cells slots Q (F0 m t ls (st'.map (jx_v g)))) : W p l e R s m args below meth c H locs cells slots Q (F0 m pc ls (st.map (jx_v g))) := by
  cases i with
  | goto off =>
    obtain ⟨v, hv, he⟩ := Option.map_eq_some_iff.mp (show Option.map _ _ = _ from h)
    cases he
    exact lv_goto hx hb hd (jx_j_ok hv) k
  | ifCond cd off =>
    cases cd with
    | eq =>
      obtain ⟨q, hq, h1⟩ := Option.bind_eq_some_iff.mp (show Option.bind _ _ = _ from h)
      obtain ⟨t2, h2, he⟩ := Option.map_eq_some_iff.mp h1
      cases he
      rw [jx_1I_eq hq]
      exact lv_if_eq hx hb hd (jx_j_ok h2) (fun hc => by rw [if_pos hc] at k; exact k) (fun hc => by rw [if_neg hc] at k; exact k)
    | ne =>
      obtain ⟨q, hq, h1⟩ := Option.bind_eq_some_iff.mp (show Option.bind _ _ = _ from h)
      obtain ⟨t2, h2, he⟩ := Option.map_eq_some_iff.mp h1
      cases he
      rw [jx_1I_eq hq]
      exact lv_if_ne hx hb hd (jx_j_ok h2) (fun hc => by rw [if_pos hc] at k; exact k) (fun hc => by rw [if_neg (fun z => z hc)] at k; exact k)
    | lt =>
      obtain ⟨q, hq, h1⟩ := Option.bind_eq_some_iff.mp (show Option.bind _ _ = _ from h)
      obtain ⟨t2, h2, he⟩ := Option.map_eq_some_iff.mp h1
      cases he
      rw [jx_1I_eq hq]
      exact lv_if_lt hx hb hd (jx_j_ok h2) (fun hc => by rw [if_pos hc] at k; exact k) (fun hc => by rw [if_neg hc] at k; exact k)
    | ge =>
      obtain ⟨q, hq, h1⟩ := Option.bind_eq_some_iff.mp (show Option.bind _ _ = _ from h)
      obtain ⟨t2, h2, he⟩ := Option.map_eq_some_iff.mp h1
      cases he
      rw [jx_1I_eq hq]
      exact lv_if_ge hx hb hd (jx_j_ok h2) (fun hc => by rw [if_pos hc] at k; exact k) (fun hc => by rw [if_neg hc] at k; exact k)
    | gt =>
      obtain ⟨q, hq, h1⟩ := Option.bind_eq_some_iff.mp (show Option.bind _ _ = _ from h)
      obtain ⟨t2, h2, he⟩ := Option.map_eq_some_iff.mp h1
      cases he
      rw [jx_1I_eq hq]
      exact lv_if_gt hx hb hd (jx_j_ok h2) (fun hc => by rw [if_pos hc] at k; exact k) (fun hc => by rw [if_neg hc] at k; exact k)
    | le =>
      obtain ⟨q, hq, h1⟩ := Option.bind_eq_some_iff.mp (show Option.bind _ _ = _ from h)
      obtain ⟨t2, h2, he⟩ := Option.map_eq_some_iff.mp h1
      cases he
      rw [jx_1I_eq hq]
      exact lv_if_le hx hb hd (jx_j_ok h2) (fun hc => by rw [if_pos hc] at k; exact k) (fun hc => by rw [if_neg hc] at k; exact k)
  | if_icmp cd off =>
    cases cd with
    | eq =>
      obtain ⟨q, hq, h1⟩ := Option.bind_eq_some_iff.mp (show Option.bind _ _ = _ from h)
      obtain ⟨t2, h2, he⟩ := Option.map_eq_some_iff.mp h1
      cases he
      rw [jx_2I_eq hq]
      exact lv_icmp_eq hx hb hd (jx_j_ok h2) (fun hc => by rw [if_pos hc] at k; exact k) (fun hc => by rw [if_neg hc] at k; exact k)
    | ne =>
      obtain ⟨q, hq, h1⟩ := Option.bind_eq_some_iff.mp (show Option.bind _ _ = _ from h)
      obtain ⟨t2, h2, he⟩ := Option.map_eq_some_iff.mp h1
      cases he
      rw [jx_2I_eq hq]
      exact lv_icmp_ne hx hb hd (jx_j_ok h2) (fun hc => by rw [if_pos hc] at k; exact k) (fun hc => by rw [if_neg (fun z => z hc)] at k; exact k)
    | lt =>
      obtain ⟨q, hq, h1⟩ := Option.bind_eq_some_iff.mp (show Option.bind _ _ = _ from h)
      obtain ⟨t2, h2, he⟩ := Option.map_eq_some_iff.mp h1
      cases he
      rw [jx_2I_eq hq]
      exact lv_icmp_lt hx hb hd (jx_j_ok h2) (fun hc => by rw [if_pos hc] at k; exact k) (fun hc => by rw [if_neg hc] at k; exact k)
    | ge =>
      obtain ⟨q, hq, h1⟩ := Option.bind_eq_some_iff.mp (show Option.bind _ _ = _ from h)
      obtain ⟨t2, h2, he⟩ := Option.map_eq_some_iff.mp h1
      cases he
      rw [jx_2I_eq hq]
      exact lv_icmp_ge hx hb hd (jx_j_ok h2) (fun hc => by rw [if_pos hc] at k; exact k) (fun hc => by rw [if_neg hc] at k; exact k)
    | gt =>
      obtain ⟨q, hq, h1⟩ := Option.bind_eq_some_iff.mp (show Option.bind _ _ = _ from h)
      obtain ⟨t2, h2, he⟩ := Option.map_eq_some_iff.mp h1
      cases he
      rw [jx_2I_eq hq]
      exact lv_icmp_gt hx hb hd (jx_j_ok h2) (fun hc => by rw [if_pos hc] at k; exact k) (fun hc => by rw [if_neg hc] at k; exact k)
    | le =>
      obtain ⟨q, hq, h1⟩ := Option.bind_eq_some_iff.mp (show Option.bind _ _ = _ from h)
      obtain ⟨t2, h2, he⟩ := Option.map_eq_some_iff.mp h1
      cases he
      rw [jx_2I_eq hq]
      exact lv_icmp_le hx hb hd (jx_j_ok h2) (fun hc => by rw [if_pos hc] at k; exact k) (fun hc => by rw [if_neg hc] at k; exact k)
  | ifnull off =>
    obtain ⟨q, hq, h1⟩ := Option.bind_eq_some_iff.mp (show Option.bind _ _ = _ from h)
    obtain ⟨t2, h2, he⟩ := Option.map_eq_some_iff.mp h1
    cases he
    rw [jx_1O_eq hq]
    obtain ⟨o, r⟩ := q
    cases o with
    | some a => exact lv_ifnull hx hb hd k
    | none => exact lv_ifnullN hx hb hd (jx_j_ok h2) k
  | ifnonnull off =>
    obtain ⟨q, hq, h1⟩ := Option.bind_eq_some_iff.mp (show Option.bind _ _ = _ from h)
    obtain ⟨t2, h2, he⟩ := Option.map_eq_some_iff.mp h1
    cases he
    rw [jx_1O_eq hq]
    obtain ⟨o, r⟩ := q
    cases o with
    | some a => exact lv_ifnonnull hx hb hd (jx_j_ok h2) k
    | none => exact lv_ifnonnullN hx hb hd k
  | _ => exact Option.noConfusion (show (none : Option (Nat × List Value)) = some (t, st') from h)
theorem jx_W_ok (hx : p.tables.exec = Jvm.exec) (hb : c.code = cc) {i : Instr} {len t : Nat} {st st' : List Value} (hd : decode cc pc = .ok (i, len)) (h : jx_W pc i st = some (t, st'))
    (k : W p l e R s m args below meth c H locs cells slots Q (F0 m t ls (st'.map (jx_v g)))) : W p l e R s m args below meth c H locs cells slots Q (F0 m pc ls (st.map (jx_v g))) := by
  cases i with
  | tableswitch dflt lo hi offs =>
    obtain ⟨q, hq, h1⟩ := Option.bind_eq_some_iff.mp (show Option.bind _ _ = _ from h)
    obtain ⟨t2, h2, h3⟩ := Option.bind_eq_some_iff.mp h1
    split at h3
    · rename_i hc
      cases h3
      rw [jx_1I_eq hq]
      by_cases ho : q.1.toInt < lo ∨ hi < q.1.toInt
      · rw [if_pos ho] at h2
        exact lv_tableOut hx hb hd ho (jx_j_ok h2) k
      · rw [if_neg ho] at h2
        have h4 : (q.1.toInt - lo).toNat < offs.size := by
          rcases hc with hc | hc | hc
          · exact absurd (Or.inl hc) ho
          · exact absurd (Or.inr hc) ho
          · exact hc
        have h5 : offs[(q.1.toInt - lo).toNat]? = some offs[(q.1.toInt - lo).toNat] := Array.getElem?_eq_getElem h4
        rw [h5] at h2
        exact lv_tableIn hx hb hd (fun z => ho (Or.inl z)) (fun z => ho (Or.inr z)) h5 (jx_j_ok h2) k
    · cases h3
  | lookupswitch dflt ps =>
    obtain ⟨q, hq, h1⟩ := Option.bind_eq_some_iff.mp (show Option.bind _ _ = _ from h)
    obtain ⟨t2, h2, h3⟩ := Option.bind_eq_some_iff.mp h1
    split at h3
    · rename_i hc
      cases h3
      rw [jx_1I_eq hq]
      exact lv_lookup hx hb hd hc rfl (jx_j_ok h2) k
    · cases h3
  | _ => exact Option.noConfusion (show (none : Option (Nat × List Value)) = some (t, st') from h)
end JXL
