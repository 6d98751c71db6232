/-! INSTRUCTIONS ON THE HEAP -/
def jx_wl (own : String) (idx : Nat) : Option (String × String × String) := jx_g.findSome? fun w => match w with
  | .fieldLink a j r n d => if a = own ∧ j = idx then some (r, n, d) else none
  | _ => none
def jx_cn (own : String) (idx : Nat) : Option String := jx_g.findSome? fun w => match w with
  | .classLink a j r => if a = own ∧ j = idx then some r else none
  | _ => none
def jx_kI (own : String) (idx : Nat) : Option Int32 := jx_g.findSome? fun w => match w with
  | .constant a j v => if a = own ∧ j = idx then some v else none
  | _ => none
def jx_kL (own : String) (idx : Nat) : Option Int64 := jx_g.findSome? fun w => match w with
  | .constantLong a j v => if a = own ∧ j = idx then some v else none
  | _ => none
def jx_kD (own : String) (idx : Nat) : Option UInt64 := jx_g.findSome? fun w => match w with
  | .constantDouble a j v => if a = own ∧ j = idx then some v else none
  | _ => none
theorem jx_wl_ok {own : String} {idx : Nat} {q : String × String × String} (h : jx_wl own idx = some q) : Cond.fieldLink own idx q.1 q.2.1 q.2.2 ∈ jx_g := by
  obtain ⟨w, hw, hf⟩ := List.exists_of_findSome?_eq_some h
  split at hf
  · split at hf
    · rename_i hc
      cases hf
      rw [← hc.1, ← hc.2]; exact hw
    · cases hf
  · cases hf
theorem jx_cn_ok {own : String} {idx : Nat} {q : String} (h : jx_cn own idx = some q) : Cond.classLink own idx q ∈ jx_g := by
  obtain ⟨w, hw, hf⟩ := List.exists_of_findSome?_eq_some h
  split at hf
  · split at hf
    · rename_i hc
      cases hf
      rw [← hc.1, ← hc.2]; exact hw
    · cases hf
  · cases hf
theorem jx_kI_ok {own : String} {idx : Nat} {q : Int32} (h : jx_kI own idx = some q) : Cond.constant own idx q ∈ jx_g := by
  obtain ⟨w, hw, hf⟩ := List.exists_of_findSome?_eq_some h
  split at hf
  · split at hf
    · rename_i hc
      cases hf
      rw [← hc.1, ← hc.2]; exact hw
    · cases hf
  · cases hf
theorem jx_kL_ok {own : String} {idx : Nat} {q : Int64} (h : jx_kL own idx = some q) : Cond.constantLong own idx q ∈ jx_g := by
  obtain ⟨w, hw, hf⟩ := List.exists_of_findSome?_eq_some h
  split at hf
  · split at hf
    · rename_i hc
      cases hf
      rw [← hc.1, ← hc.2]; exact hw
    · cases hf
  · cases hf
theorem jx_kD_ok {own : String} {idx : Nat} {q : UInt64} (h : jx_kD own idx = some q) : Cond.constantDouble own idx q ∈ jx_g := by
  obtain ⟨w, hw, hf⟩ := List.exists_of_findSome?_eq_some h
  split at hf
  · split at hf
    · rename_i hc
      cases hf
      rw [← hc.1, ← hc.2]; exact hw
    · cases hf
  · cases hf
/-- the slot of a field in the objects of class ci -/
def jx_k (ci : Nat) (q : String × String × String) : Option Nat := (vwCl[ci]?).bind fun c => (List.range c.2.2).find? fun k => decide ((c.2.1 k).2.1 = q.2.1 ∧ (c.2.1 k).2.2.1 = q.2.2 ∧ ((c.2.1 k).1 = q.1 ∨ Cond.sameField q.1 (c.2.1 k).1 q.2.1 q.2.2 ∈ jx_g))
theorem jx_k_ok {ci k : Nat} {q : String × String × String} (h : jx_k ci q = some k) : ∃ c, vwCl[ci]? = some c ∧ k < c.2.2 ∧ (c.2.1 k).2.1 = q.2.1 ∧ (c.2.1 k).2.2.1 = q.2.2 ∧ ((c.2.1 k).1 = q.1 ∨ Cond.sameField q.1 (c.2.1 k).1 q.2.1 q.2.2 ∈ jx_g) := by
  obtain ⟨c, hc, h1⟩ := Option.bind_eq_some_iff.mp h
  have h2 := List.find?_some h1
  have h3 := List.mem_of_find?_eq_some h1
  rw [decide_eq_true_eq] at h2
  exact ⟨c, hc, List.mem_range.mp h3, h2⟩
def jx_fk (own : String) (idx ci : Nat) : Option Nat := (jx_wl own idx).bind fun q => jx_k ci q
def jx_ob (h : List jx_C) (a : Nat) : Option (Nat × List Value) := match h[a]? with
  | some (.inr o) => some o
  | _ => none
def jx_ar (h : List jx_C) (a : Nat) : Option (FieldType × List Value) := match h[a]? with
  | some (.inl o) => some o
  | _ => none
theorem jx_ob_eq {h : List jx_C} {a : Nat} {o : Nat × List Value} (q : jx_ob h a = some o) : h[a]? = some (.inr o) := by
  unfold jx_ob at q; split at q
  · rename_i z; cases q; exact z
  · cases q
theorem jx_ar_eq {h : List jx_C} {a : Nat} {o : FieldType × List Value} (q : jx_ar h a = some o) : h[a]? = some (.inl o) := by
  unfold jx_ar at q; split at q
  · rename_i z; cases q; exact z
  · cases q
/-- may a method put v into field k of an object of class ci? -/
def jx_may (y : MethodName) (ci k : Nat) (v : Value) : Bool := match vwCl[ci]? with
  | some c => decide (narrow (jx_fty (c.2.1 k).2.2.1) v = v) && fits (jx_fty (c.2.1 k).2.2.1) v && ((c.2.1 k).2.2.2 == false || (decide (y.name = "<init>") && decide ((c.2.1 k).1 = y.cls)))
  | none => false
def jx_IR : List Value → Option (Int32 × Nat × List Value)
  | .int j :: .ref a :: r => some (j, a, r)
  | _ => none
theorem jx_IR_eq {st : List Value} {q : Int32 × Nat × List Value} (h : jx_IR st = some q) : st = .int q.1 :: .ref q.2.1 :: q.2.2 := by
  unfold jx_IR at h; split at h <;> cases h; rfl
/-- a value, an index, an array -/
def jx_VIR : List Value → Option (Value × Int32 × Nat × List Value)
  | v :: .int j :: .ref a :: r => some (v, j, a, r)
  | _ => none
theorem jx_VIR_eq {st : List Value} {q : Value × Int32 × Nat × List Value} (h : jx_VIR st = some q) : st = q.1 :: .int q.2.1 :: .ref q.2.2.1 :: q.2.2.2 := by
  unfold jx_VIR at h; split at h <;> cases h; rfl
def jx_VR : List Value → Option (Value × Nat × List Value)
  | v :: .ref a :: r => some (v, a, r)
  | _ => none
theorem jx_VR_eq {st : List Value} {q : Value × Nat × List Value} (h : jx_VR st = some q) : st = q.1 :: .ref q.2.1 :: q.2.2 := by
  unfold jx_VR at h; split at h <;> cases h; rfl
/-- an element of an array of a type, at an index that is within -/
def jx_el (h : List jx_C) (ty : FieldType) (a : Nat) (j : Int32) : Option Value := (jx_ar h a).bind fun c => if c.1 = ty ∧ ¬ j < 0 then c.2[j.toNatClampNeg]? else none
theorem jx_el_ok {h : List jx_C} {ty : FieldType} {a : Nat} {j : Int32} {v : Value} (q : jx_el h ty a j = some v) : ∃ vs, h[a]? = some (.inl (ty, vs)) ∧ vp_in j vs.length ∧ vs[j.toNatClampNeg]? = some v := by
  obtain ⟨⟨ty', vs⟩, hc, h1⟩ := Option.bind_eq_some_iff.mp q
  split at h1
  · rename_i hh
    obtain ⟨rfl, h2⟩ := hh
    have hlt : j.toNatClampNeg < vs.length := (List.getElem?_eq_some_iff.mp h1).1
    exact ⟨vs, jx_ar_eq hc, fun z => z.elim h2 (fun z => by omega), h1⟩
  · cases h1
/-- an array with another element -/
def jx_up (h : List jx_C) (ty : FieldType) (a : Nat) (j : Int32) (v : Value) : Option (List jx_C) := (jx_ar h a).bind fun c => if c.1 = ty ∧ ¬ j < 0 ∧ j.toNatClampNeg < c.2.length ∧ 3 ≤ a then some (h.set a (.inl (c.1, c.2.set j.toNatClampNeg v))) else none
theorem jx_up_ok {h h' : List jx_C} {ty : FieldType} {a : Nat} {j : Int32} {v : Value} (q : jx_up h ty a j v = some h') : ∃ vs, h[a]? = some (.inl (ty, vs)) ∧ vp_in j vs.length ∧ j.toNatClampNeg < vs.length ∧ 3 ≤ a ∧ h' = h.set a (.inl (ty, vs.set j.toNatClampNeg v)) := by
  obtain ⟨⟨ty', vs⟩, hc, h1⟩ := Option.bind_eq_some_iff.mp q
  split at h1
  · rename_i hh
    obtain ⟨rfl, h2, h3, h4⟩ := hh
    cases h1
    dsimp only at h3
    exact ⟨vs, jx_ar_eq hc, fun z => z.elim h2 (fun z => by omega), h3, h4, rfl⟩
  · cases h1
def jx_ty? : ArrayType → Option FieldType
  | .int => some .int
  | .long => some .long
  | .char => some .char
  | .boolean => some .boolean
  | .double => some .double
  | _ => none
def jx_ci (C : String) : Option Nat := vwCl.findIdx? fun c => c.1 == C
/-- instructions on the heap: the stack and the heap behind them -/
def jx_B (y : MethodName) (i : Instr) (st : List Value) (h : List jx_C) : Option (List Value × List jx_C) := match i with
  | .getfield idx => (jx_1R st).bind fun q => (jx_ob h q.1).bind fun o => (jx_fk y.cls idx o.1).bind fun k => (o.2[k]?).map fun v => (v :: q.2, h)
  | .putfield idx => (jx_VR st).bind fun q => (jx_ob h q.2.1).bind fun o => (jx_fk y.cls idx o.1).bind fun k => if jx_may y o.1 k q.1 = true ∧ k < o.2.length then some (q.2.2, h.set q.2.1 (.inr (o.1, o.2.set k q.1))) else none
  | .iaload => (jx_IR st).bind fun q => (jx_el h .int q.2.1 q.1).bind fun v => match v with
    | .int n => some (.int n :: q.2.2, h)
    | _ => none
  | .laload => (jx_IR st).bind fun q => (jx_el h .long q.2.1 q.1).bind fun v => match v with
    | .long n => if 3 ≤ q.2.1 then some (.long n :: q.2.2, h) else none
    | _ => none
  | .caload => (jx_IR st).bind fun q => (jx_el h .char q.2.1 q.1).bind fun v => match v with
    | .int n => if 3 ≤ q.2.1 then some (.int n :: q.2.2, h) else none
    | _ => none
  | .baload => (jx_IR st).bind fun q => (jx_el h .boolean q.2.1 q.1).bind fun v => match v with
    | .int n => if 3 ≤ q.2.1 then some (.int n :: q.2.2, h) else none
    | _ => none
  | .daload => (jx_IR st).bind fun q => (jx_el h .double q.2.1 q.1).bind fun v => match v with
    | .double n => if 3 ≤ q.2.1 then some (.double n :: q.2.2, h) else none
    | _ => none
  | .aaload => (jx_IR st).bind fun q => (jx_el h (.object "RaceHouse$Thing") q.2.1 q.1).bind fun v => match v with
    | .ref n => if 3 ≤ q.2.1 then some (.ref n :: q.2.2, h) else none
    | .null => if 3 ≤ q.2.1 then some (.null :: q.2.2, h) else none
    | _ => none
  | .iastore => (jx_VIR st).bind fun q => match q.1 with
    | .int n => (jx_up h .int q.2.2.1 q.2.1 (.int n)).map fun h' => (q.2.2.2, h')
    | _ => none
  | .lastore => (jx_VIR st).bind fun q => match q.1 with
    | .long n => (jx_up h .long q.2.2.1 q.2.1 (.long n)).map fun h' => (q.2.2.2, h')
    | _ => none
  | .castore => (jx_VIR st).bind fun q => match q.1 with
    | .int n => (jx_up h .char q.2.2.1 q.2.1 (.int (vp_nar .char n))).map fun h' => (q.2.2.2, h')
    | _ => none
  | .bastore => (jx_VIR st).bind fun q => match q.1 with
    | .int n => (jx_up h .boolean q.2.2.1 q.2.1 (.int (vp_nar .boolean n))).map fun h' => (q.2.2.2, h')
    | _ => none
  | .dastore => (jx_VIR st).bind fun q => match q.1 with
    | .double n => (jx_up h .double q.2.2.1 q.2.1 (.double n)).map fun h' => (q.2.2.2, h')
    | _ => none
  | .aastore => (jx_VIR st).bind fun q => match q.1 with
    | .null => (jx_up h (.object "RaceHouse$Thing") q.2.2.1 q.2.1 .null).map fun h' => (q.2.2.2, h')
    | .ref v => (jx_ob h v).bind fun o => (vwCl[o.1]?).bind fun cl => if (cl.1, "RaceHouse$Thing") ∈ jx_nk then (jx_up h (.object "RaceHouse$Thing") q.2.2.1 q.2.1 (.ref v)).map fun h' => (q.2.2.2, h') else none
    | _ => none
  | .arraylength => (jx_1R st).bind fun q => (jx_ar h q.1).bind fun c => if 3 ≤ q.1 ∨ c.1 = .int then if c.1 ∈ ([.int, .long, .char, .boolean, .double, .object "RaceHouse$Thing"] : List FieldType) then some (.int (Int32.ofNat c.2.length) :: q.2, h) else none else none
  | .new idx => (jx_cn y.cls idx).bind fun C => (jx_ci C).bind fun ci => (vwCl[ci]?).bind fun c => if c.1 = C then some (.ref h.length :: st, h ++ [.inr (ci, (List.range c.2.2).map fun k => defaultValue (jx_fty (c.2.1 k).2.2.1))]) else none
  | .newarray at_ => (jx_1I st).bind fun q => (jx_ty? at_).bind fun ty => if ¬ q.1 < 0 ∧ q.1.toNatClampNeg ≤ 60000 then some (.ref h.length :: q.2, h ++ [.inl (ty, List.replicate q.1.toNatClampNeg (defaultValue ty))]) else none
  | .anewarray idx => (jx_1I st).bind fun q => (jx_cn y.cls idx).bind fun C => if C = "RaceHouse$Thing" ∧ ¬ q.1 < 0 ∧ q.1.toNatClampNeg ≤ 60000 then some (.ref h.length :: q.2, h ++ [.inl (.object "RaceHouse$Thing", List.replicate q.1.toNatClampNeg .null)]) else none
  | .checkcast idx => (jx_1O st).bind fun q => match q.1 with
    | none => some (.null :: q.2, h)
    | some a => (jx_ob h a).bind fun o => (vwCl[o.1]?).bind fun c => (jx_cn y.cls idx).bind fun C => if (c.1, C) ∈ jx_nk then some (.ref a :: q.2, h) else none
  | .instanceof idx => (jx_1O st).bind fun q => match q.1 with
    | none => some (.int 0 :: q.2, h)
    | some a => (jx_ob h a).bind fun o => (vwCl[o.1]?).bind fun c => (jx_cn y.cls idx).bind fun C => if (c.1, C) ∈ jx_nk then some (.int 1 :: q.2, h) else if (c.1, C) ∈ jx_nc then some (.int 0 :: q.2, h) else none
  | .getstatic idx => (jx_wl y.cls idx).bind fun q => if q = ("RaceHouse", "FIELD_TYPES", "[I") then some (.ref 1 :: st, h) else if q = ("RaceHouse", "ASK_TYPES", "[I") then some (.ref 2 :: st, h) else none
  | .ldc idx => (jx_kI y.cls idx).map fun v => (.int v :: st, h)
  | .ldc_w idx => (jx_kI y.cls idx).map fun v => (.int v :: st, h)
  | .ldc2_w idx => match jx_kL y.cls idx with
    | some v => some (.long v :: st, h)
    | none => (jx_kD y.cls idx).map fun v => (.double v :: st, h)
  | _ => none
