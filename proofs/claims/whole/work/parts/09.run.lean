/-! CALLS, ENDS, AND THE RUN OF A FRAME -/
def jx_ml (own : String) (idx : Nat) : Option MethodName := jx_g.findSome? fun w => match w with
  | .methodLink a j r => if a = own ∧ j = idx then some r else none
  | _ => none
def jx_mx (own : String) (idx : Nat) : Option (MethodName × String) := jx_nm.findSome? fun q => if q.1 = own ∧ q.2.1 = idx then some q.2.2 else none
def jx_find (y : MethodName) : Option jx_M := jx_g.findSome? fun w => match w with
  | .code z b n r => if z = y then some (z, b, n, r) else none
  | _ => none
theorem jx_ml_ok {own : String} {idx : Nat} {q : MethodName} (h : jx_ml own idx = some q) : Cond.methodLink own idx q ∈ jx_g := by
  obtain ⟨w, hw, hf⟩ := List.exists_of_findSome?_eq_some h
  split at hf
  · split at hf
    · rename_i hc
      cases hf
      rw [← hc.1, ← hc.2]; exact hw
    · cases hf
  · cases hf
theorem jx_mx_ok {own : String} {idx : Nat} {q : MethodName × String} (h : jx_mx own idx = some q) : (own, idx, q.1, q.2) ∈ jx_nm := by
  obtain ⟨w, hw, hf⟩ := List.exists_of_findSome?_eq_some h
  split at hf
  · rename_i hc
    cases hf
    rw [← hc.1, ← hc.2]; exact hw
  · cases hf
theorem jx_find_ok {y : MethodName} {M : jx_M} (h : jx_find y = some M) : M.1 = y ∧ Cond.code y M.2.1 M.2.2.1 M.2.2.2 ∈ jx_g := by
  obtain ⟨w, hw, hf⟩ := List.exists_of_findSome?_eq_some h
  split at hf
  · split at hf
    · rename_i hc
      cases hf
      subst hc
      exact ⟨rfl, hw⟩
    · cases hf
  · cases hf
def jx_np (y : MethodName) : Option Nat := (parseMethodDescriptor y.desc).map fun d => d.parameters.length
def jx_okM (M : jx_M) : Prop := plainName M.1.cls = true ∧ M.1.cls ≠ "java/lang/invoke/MethodHandle" ∧ M.1.cls ≠ "java/lang/invoke/VarHandle" ∧ Cond.initialized M.1.cls ∈ jx_g ∧ M.2.2.1 ≤ 23
def jx_cats (st : List Value) : Nat := (st.map fun v => v.category).sum
/-- the locals at a method's start -/
def jx_fl (vs : List Value) : jx_L := vs.flatMap fun v => if v.category = 2 then [some v, none] else [some v]
def jx_ent (n : Nat) (vs : List Value) : jx_L := jx_fl vs ++ List.replicate (n - (jx_fl vs).length) none
def jx_tgt (own : String) (idx : Nat) : Option MethodName := match jx_ml own idx with
  | some y => some y
  | none => (jx_mx own idx).map fun q => q.1
/-- a call: the callee, its arguments, the stack below them -/
def jx_call (own : String) (i : Instr) (st : List Value) (h : List jx_C) : Option (jx_M × List Value × List Value) := match i with
  | .invokestatic idx => (jx_tgt own idx).bind fun y => (jx_find y).bind fun M => (jx_np y).bind fun n => if (plainName M.1.cls = true ∧ M.1.cls ≠ "java/lang/invoke/MethodHandle" ∧ M.1.cls ≠ "java/lang/invoke/VarHandle" ∧ Cond.initialized M.1.cls ∈ jx_g ∧ M.2.2.1 ≤ 23) ∧ Cond.static y ∈ jx_g ∧ n ≤ st.length ∧ jx_cats (st.drop n) ≤ 8 ∧ (jx_fl (st.take n).reverse).length ≤ M.2.2.1 then some (M, (st.take n).reverse, st.drop n) else none
  | .invokespecial idx => (jx_tgt own idx).bind fun y => (jx_find y).bind fun M => (jx_np y).bind fun n => (jx_1R (st.drop n)).bind fun q => if (plainName M.1.cls = true ∧ M.1.cls ≠ "java/lang/invoke/MethodHandle" ∧ M.1.cls ≠ "java/lang/invoke/VarHandle" ∧ Cond.initialized M.1.cls ∈ jx_g ∧ M.2.2.1 ≤ 23) ∧ y.name = "<init>" ∧ Cond.instanceMethod y ∈ jx_g ∧ M.2.2.2 = none ∧ jx_cats q.2 ≤ 8 ∧ (jx_fl (.ref q.1 :: (st.take n).reverse)).length ≤ M.2.2.1 then some (M, .ref q.1 :: (st.take n).reverse, q.2) else none
  | .invokevirtual idx => (jx_ml own idx).bind fun y => (jx_find y).bind fun M => (jx_np y).bind fun n => (jx_1R (st.drop n)).bind fun q => (jx_ob h q.1).bind fun ob => (vwCl[ob.1]?).bind fun cl => if (plainName M.1.cls = true ∧ M.1.cls ≠ "java/lang/invoke/MethodHandle" ∧ M.1.cls ≠ "java/lang/invoke/VarHandle" ∧ Cond.initialized M.1.cls ∈ jx_g ∧ M.2.2.1 ≤ 23) ∧ Cond.instanceMethod y ∈ jx_g ∧ Cond.selects cl.1 y y ∈ jx_g ∧ jx_cats q.2 ≤ 8 ∧ (jx_fl (.ref q.1 :: (st.take n).reverse)).length ≤ M.2.2.1 then some (M, .ref q.1 :: (st.take n).reverse, q.2) else none
  | _ => none
/-- an end: what is answered -/
def jx_ret (ret : Option FieldType) (i : Instr) (st : List Value) : Option (Option Value) := match i with
  | .return_ => match ret, st with
    | none, [] => some none
    | _, _ => none
  | .ireturn => match ret, st with
    | some ty, [.int v] => if narrow ty (.int v) = .int v then some (some (.int v)) else none
    | _, _ => none
  | .lreturn => match ret, st with
    | some .long, [.long v] => some (some (.long v))
    | _, _ => none
  | .dreturn => match ret, st with
    | some .double, [.double v] => some (some (.double v))
    | _, _ => none
  | .areturn => match ret, st with
    | some (.object _), [.ref v] => some (some (.ref v))
    | some (.object _), [.null] => some (some .null)
    | _, _ => none
  | _ => none
/-- references compared: of places behind the outer rows, or null -/
def jx_2O : List Value → Option (Option Nat × Option Nat × List Value)
  | .ref b :: .ref a :: r => some (some a, some b, r)
  | .null :: .ref a :: r => some (some a, none, r)
  | .ref b :: .null :: r => some (none, some b, r)
  | .null :: .null :: r => some (none, none, r)
  | _ => none
theorem jx_2O_eq {st : List Value} {q : Option Nat × Option Nat × List Value} (h : jx_2O st = some q) : st = jx_rf q.2.1 :: jx_rf q.1 :: q.2.2 := by
  unfold jx_2O at h; split at h <;> cases h <;> rfl
def jx_far : Option Nat → Bool
  | none => true
  | some a => decide (3 ≤ a)
def jx_Q (pc : Nat) (i : Instr) (st : List Value) : Option (Nat × List Value) := match i with
  | .if_acmp .eq off => (jx_2O st).bind fun q => (jx_j pc off).bind fun t => if jx_far q.1 = true ∧ jx_far q.2.1 = true then some (if q.1 = q.2.1 then t else pc + 3, q.2.2) else none
  | .if_acmp .ne off => (jx_2O st).bind fun q => (jx_j pc off).bind fun t => if jx_far q.1 = true ∧ jx_far q.2.1 = true then some (if q.1 = q.2.1 then pc + 3 else t, q.2.2) else none
  | _ => none
/-- copied from one list into another -/
def jx_cpl (src dst : List Value) (sp dp n : Nat) : List Value := (List.range dst.length).map fun k => if dp ≤ k ∧ k < dp + n then src.getD (sp + (k - dp)) .null else dst.getD k .null
def jx_cp (h : List jx_C) (ty : FieldType) (a0 : Nat) (sp : Int32) (a : Nat) (dp n : Int32) : Option (List jx_C) := (jx_ar h a0).bind fun c0 => (jx_ar h a).bind fun c1 => if c0.1 = ty ∧ c1.1 = ty ∧ ¬ sp < 0 ∧ ¬ dp < 0 ∧ ¬ n < 0 ∧ sp.toNatClampNeg + n.toNatClampNeg ≤ c0.2.length ∧ dp.toNatClampNeg + n.toNatClampNeg ≤ c1.2.length ∧ 3 ≤ a0 ∧ 3 ≤ a then some (h.set a (.inl (ty, jx_cpl c0.2 c1.2 sp.toNatClampNeg dp.toNatClampNeg n.toNatClampNeg))) else none
def jx_5 : List Value → Option (Int32 × Int32 × Nat × Int32 × Nat × List Value)
  | .int n :: .int dp :: .ref a :: .int sp :: .ref a0 :: r => some (n, dp, a, sp, a0, r)
  | _ => none
theorem jx_5_eq {st : List Value} {q : Int32 × Int32 × Nat × Int32 × Nat × List Value} (h : jx_5 st = some q) : st = .int q.1 :: .int q.2.1 :: .ref q.2.2.1 :: .int q.2.2.2.1 :: .ref q.2.2.2.2.1 :: q.2.2.2.2.2 := by
  unfold jx_5 at h; split at h <;> cases h; rfl
/-- natives, and Object's constructor -/
def jx_N (own : String) (i : Instr) (st : List Value) (h : List jx_C) : Option (List Value × List jx_C) := match i with
  | .invokespecial idx => (jx_ml own idx).bind fun y => (jx_1R st).bind fun q => if y = objectInit ∧ jx_cats q.2 ≤ 8 then some (q.2, h) else none
  | .invokestatic idx => (jx_ml own idx).bind fun y =>
    if y = ⟨"java/lang/Double", "longBitsToDouble", "(J)D"⟩ then (jx_1L st).bind fun q => if vn_snl2d q.1 = false ∧ jx_cats q.2 ≤ 8 then some (.double q.1.toUInt64 :: q.2, h) else none
    else if y = ⟨"java/lang/Double", "doubleToRawLongBits", "(D)J"⟩ then (jx_1D st).bind fun q => if jx_cats q.2 ≤ 8 then some (.long q.1.toInt64 :: q.2, h) else none
    else if y = arraycopyName then (jx_5 st).bind fun q => if jx_cats q.2.2.2.2.2 ≤ 8 then match jx_cp h .int q.2.2.2.2.1 q.2.2.2.1 q.2.2.1 q.2.1 q.1 with
        | some h' => some (q.2.2.2.2.2, h')
        | none => (jx_cp h .long q.2.2.2.2.1 q.2.2.2.1 q.2.2.1 q.2.1 q.1).map fun h' => (q.2.2.2.2.2, h')
      else none
    else none
  | _ => none
/-- an instruction that is neither a call nor an end -/
def jx_step (M : jx_M) (pc : Nat) (i : Instr) (lo : jx_L) (st : List Value) (h : List jx_C) : Option (Nat × jx_L × List Value × List jx_C) := match jx_S i st with
  | some st' => some (pc + jx_len i, lo, st', h)
  | none => match jx_Lo M.2.2.1 i lo st with
    | some q => some (pc + jx_len i, q.1, q.2, h)
    | none => match jx_J pc i st with
      | some q => some (q.1, lo, q.2, h)
      | none => match jx_Q pc i st with
        | some q => some (q.1, lo, q.2, h)
        | none => (jx_B M.1 i st h).map fun q => (pc + jx_len i, lo, q.1, q.2)
/-- the run of a frame, with calls at most d deep: what it answers, and the heap behind it -/
def jx_run : Nat → Nat → jx_M → Nat → jx_L → List Value → List jx_C → Option (Option Value × List jx_C)
  | 0, _, _, _, _, _, _ => none
  | n + 1, d, M, pc, lo, st, h => match decode M.2.1 pc with
    | .error _ => none
    | .ok (i, len) => match jx_W pc i st with
      | some q => jx_run n d M q.1 lo q.2 h
      | none => if len = jx_len i then match jx_step M pc i lo st h with
          | some q => jx_run n d M q.1 q.2.1 q.2.2.1 q.2.2.2
          | none => match jx_ret M.2.2.2 i st with
            | some r => some (r, h)
            | none => match d with
              | 0 => none
              | d' + 1 => match jx_N M.1.cls i st h with
                | some q => jx_run n (d' + 1) M (pc + 3) lo q.1 q.2
                | none => match jx_call M.1.cls i st h with
                  | some q => match jx_run n d' q.1 0 (jx_ent q.1.2.2.1 q.2.1) [] h with
                    | some z => jx_run n (d' + 1) M (pc + 3) lo (z.1.toList ++ q.2.2) z.2
                    | none => none
                  | none => none
        else none
theorem jx_cp_ok {h h' : List jx_C} {ty : FieldType} {a0 a : Nat} {sp dp n : Int32} (q : jx_cp h ty a0 sp a dp n = some h') : ∃ v0 v1, h[a0]? = some (.inl (ty, v0)) ∧ h[a]? = some (.inl (ty, v1)) ∧ ¬ sp < 0 ∧ ¬ dp < 0 ∧ ¬ n < 0 ∧ sp.toNatClampNeg + n.toNatClampNeg ≤ v0.length ∧ dp.toNatClampNeg + n.toNatClampNeg ≤ v1.length ∧ 3 ≤ a0 ∧ 3 ≤ a ∧ h' = h.set a (.inl (ty, jx_cpl v0 v1 sp.toNatClampNeg dp.toNatClampNeg n.toNatClampNeg)) := by
  obtain ⟨⟨t0, v0⟩, hc0, h1⟩ := Option.bind_eq_some_iff.mp q
  obtain ⟨⟨t1, v1⟩, hc1, h2⟩ := Option.bind_eq_some_iff.mp h1
  split at h2
  · rename_i hh
    obtain ⟨rfl, rfl, g1, g2, g3, g4, g5, g6, g7⟩ := hh
    cases h2
    exact ⟨v0, v1, jx_ar_eq hc0, jx_ar_eq hc1, g1, g2, g3, g4, g5, g6, g7, rfl⟩
  · cases h2
theorem jx_N_heap {own : String} {i : Instr} {st st' : List Value} {h h' : List jx_C} (hB : jx_N own i st h = some (st', h')) : h' = h ∨ (∃ a c d, 3 ≤ a ∧ h[a]? = some d ∧ jx_c1 c = jx_c1 d ∧ h' = h.set a c) := by
  have cp : ∀ {ty : FieldType} {a0 a : Nat} {sp dp n : Int32} {h2 : List jx_C}, jx_cp h ty a0 sp a dp n = some h2 → ∃ a c d, 3 ≤ a ∧ h[a]? = some d ∧ jx_c1 c = jx_c1 d ∧ h2 = h.set a c := by
    intro ty a0 a sp dp n h2 q
    obtain ⟨v0, v1, -, g2, -, -, -, -, -, -, g9, g10⟩ := jx_cp_ok q
    exact ⟨a, _, _, g9, g2, by simp [jx_c1, jx_cpl], g10⟩
  cases i with
  | invokespecial idx =>
    obtain ⟨y, hy, h1⟩ := Option.bind_eq_some_iff.mp (show Option.bind _ _ = _ from hB)
    obtain ⟨q, hq, h2⟩ := Option.bind_eq_some_iff.mp h1
    split at h2
    · cases h2; exact Or.inl rfl
    · cases h2
  | invokestatic idx =>
    obtain ⟨y, hy, h1⟩ := Option.bind_eq_some_iff.mp (show Option.bind _ _ = _ from hB)
    split at h1
    · obtain ⟨q, hq, h2⟩ := Option.bind_eq_some_iff.mp h1
      split at h2
      · cases h2; exact Or.inl rfl
      · cases h2
    · split at h1
      · obtain ⟨q, hq, h2⟩ := Option.bind_eq_some_iff.mp h1
        split at h2
        · cases h2; exact Or.inl rfl
        · cases h2
      · split at h1
        · obtain ⟨q, hq, h2⟩ := Option.bind_eq_some_iff.mp h1
          split at h2
          · split at h2
            · rename_i hz
              cases h2; exact Or.inr (cp hz)
            · obtain ⟨h3, hz, he⟩ := Option.map_eq_some_iff.mp h2
              cases he; exact Or.inr (cp hz)
          · cases h2
        · cases h1
  | _ => exact Option.noConfusion (show (none : Option (List Value × List jx_C)) = some (st', h') from hB)
/-- what a run leaves: the outer rows in front, no fewer cells, fields and elements -/
def jx_mono (o : List (List Value)) (h h' : List jx_C) : Prop := jx_o3 o h' ∧ h.length ≤ h'.length ∧ jx_sz h ≤ jx_sz h'
theorem jx_mono.trans {o : List (List Value)} {a b c : List jx_C} (h1 : jx_mono o a b) (h2 : jx_mono o b c) : jx_mono o a c := ⟨h2.1, Nat.le_trans h1.2.1 h2.2.1, Nat.le_trans h1.2.2 h2.2.2⟩
theorem jx_N_mono {own : String} {i : Instr} {st st' : List Value} {h h' : List jx_C} {o : List (List Value)} (ho : jx_o3 o h) (hB : jx_N own i st h = some (st', h')) : jx_mono o h h' := by
  rcases jx_N_heap hB with rfl | ⟨a, c, d, h1, h2, h3, rfl⟩
  · exact ⟨ho, Nat.le_refl _, Nat.le_refl _⟩
  · exact ⟨ho.set h1 c, by simp, by rw [jx_sz_set h a c d h2 h3]; exact Nat.le_refl _⟩
theorem jx_step_mono {M : jx_M} {pc : Nat} {i : Instr} {lo : jx_L} {st : List Value} {h : List jx_C} {q : Nat × jx_L × List Value × List jx_C} {o : List (List Value)} (ho : jx_o3 o h) (hB : jx_step M pc i lo st h = some q) : jx_mono o h q.2.2.2 := by
  have rfl' : jx_mono o h h := ⟨ho, Nat.le_refl _, Nat.le_refl _⟩
  unfold jx_step at hB
  split at hB
  · cases hB; exact rfl'
  · split at hB
    · cases hB; exact rfl'
    · split at hB
      · cases hB; exact rfl'
      · split at hB
        · cases hB; exact rfl'
        · obtain ⟨z, hz, he⟩ := Option.map_eq_some_iff.mp hB
          cases he
          exact ⟨jx_B_o3 ho hz, jx_B_mono ho hz⟩
theorem jx_run_mono {o : List (List Value)} : ∀ (n d : Nat) (M : jx_M) (pc : Nat) (lo : jx_L) (st : List Value) (h : List jx_C) (z : Option Value × List jx_C), jx_o3 o h → jx_run n d M pc lo st h = some z → jx_mono o h z.2 := by
  intro n
  induction n with
  | zero => intro d M pc lo st h z ho hr; cases hr
  | succ n ih =>
    intro d M pc lo st h z ho hr
    unfold jx_run at hr
    split at hr
    · cases hr
    · split at hr
      · exact ih _ _ _ _ _ _ _ ho hr
      · split at hr
        · split at hr
          · rename_i q hq
            have h1 := jx_step_mono ho hq
            exact h1.trans (ih _ _ _ _ _ _ _ h1.1 hr)
          · split at hr
            · cases hr; exact ⟨ho, Nat.le_refl _, Nat.le_refl _⟩
            · split at hr
              · cases hr
              · split at hr
                · rename_i q hq
                  have h1 := jx_N_mono (o := o) (st' := q.1) (h' := q.2) ho hq
                  exact h1.trans (ih _ _ _ _ _ _ _ h1.1 hr)
                · split at hr
                  · split at hr
                    · rename_i z1 hz1
                      have h1 := ih _ _ _ _ _ _ _ ho hz1
                      exact h1.trans (ih _ _ _ _ _ _ _ h1.1 hr)
                    · cases hr
                  · cases hr
        · cases hr
