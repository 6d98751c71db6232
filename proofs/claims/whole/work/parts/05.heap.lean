/-! THE HEAP: cells side by side from an address on -/
/-- the address of a place: 0, 1, 2 are given rows; the others lie side by side from base on -/
def jx_ad (t : Nat → Nat) (base : Nat) (k : Nat) : Nat := if k < 3 then t k else base + (k - 3)
def jx_iv : Value → Int32
  | .int n => n
  | _ => 0
def jx_lv : Value → Int64
  | .long n => n
  | _ => 0
def jx_dv : Value → UInt64
  | .double n => n
  | _ => 0
def jx_rv (g : Nat → Nat) : Value → Option Nat
  | .ref a => some (g a)
  | _ => none
/-- an array's contents, as the kit has them -/
def jx_co (g : Nat → Nat) (ty : FieldType) (vs : List Value) : vp_A := match ty with
  | .long => (vs.length, .inr (.inl fun i => jx_lv (vs.getD i .null)))
  | .double => (vs.length, .inr (.inr (.inr (.inl fun i => jx_dv (vs.getD i .null)))))
  | .object _ => (vs.length, .inr (.inr (.inr (.inr fun i => jx_rv g (vs.getD i .null)))))
  | _ => (vs.length, .inl fun i => jx_iv (vs.getD i .null))
def jx_e (g : Nat → Nat) (dA : FieldType → ClassId) : jx_C → va_E
  | .inl c => .inl (dA c.1, jx_co g c.1 c.2)
  | .inr o => .inr (o.1, o.2.map (jx_v g))
def jx_w (g : Nat → Nat) (dA : FieldType → ClassId) : Nat → List jx_C → va_W
  | _, [] => []
  | a, c :: r => (a, jx_e g dA c) :: jx_w g dA (a + 1) r
theorem jx_w_get {g : Nat → Nat} {dA : FieldType → ClassId} : ∀ {h : List jx_C} {a k : Nat} {c : jx_C}, h[k]? = some c → (jx_w g dA a h)[k]? = some (a + k, jx_e g dA c)
  | [], a, k, c, h => by simp at h
  | d :: r, a, 0, c, h => by simp at h; subst h; rfl
  | d :: r, a, k + 1, c, h => by
    rw [List.getElem?_cons_succ] at h
    show (jx_w g dA (a + 1) r)[k]? = _
    rw [jx_w_get h]
    congr 2
    omega
theorem jx_w_inv {g : Nat → Nat} {dA : FieldType → ClassId} : ∀ {h : List jx_C} {a k : Nat} {q : Nat × va_E}, (jx_w g dA a h)[k]? = some q → ∃ c, h[k]? = some c ∧ q = (a + k, jx_e g dA c)
  | [], a, k, q, h => by simp [jx_w] at h
  | d :: r, a, 0, q, h => by
    simp [jx_w] at h
    exact ⟨d, rfl, by rw [← h]; rfl⟩
  | d :: r, a, k + 1, q, h => by
    have h1 : (jx_w g dA (a + 1) r)[k]? = some q := h
    obtain ⟨c, h2, h3⟩ := jx_w_inv h1
    exact ⟨c, by rw [List.getElem?_cons_succ]; exact h2, by rw [h3]; congr 1; omega⟩
theorem jx_w_len {g : Nat → Nat} {dA : FieldType → ClassId} : ∀ (h : List jx_C) (a : Nat), (jx_w g dA a h).length = h.length
  | [], _ => rfl
  | _ :: r, a => by simp [jx_w, jx_w_len r (a + 1)]
theorem jx_w_set {g : Nat → Nat} {dA : FieldType → ClassId} : ∀ (h : List jx_C) (a k : Nat) (c : jx_C), jx_w g dA a (h.set k c) = (jx_w g dA a h).set k (a + k, jx_e g dA c)
  | [], a, k, c => rfl
  | d :: r, a, 0, c => rfl
  | d :: r, a, k + 1, c => by
    show (a, jx_e g dA d) :: jx_w g dA (a + 1) (r.set k c) = (a, jx_e g dA d) :: (jx_w g dA (a + 1) r).set k (a + (k + 1), jx_e g dA c)
    rw [jx_w_set r (a + 1) k c]
    congr 3
    omega
theorem jx_w_app {g : Nat → Nat} {dA : FieldType → ClassId} : ∀ (h : List jx_C) (a : Nat) (c : jx_C), jx_w g dA a (h ++ [c]) = jx_w g dA a h ++ [(a + h.length, jx_e g dA c)]
  | [], a, c => rfl
  | d :: r, a, c => by
    show (a, jx_e g dA d) :: jx_w g dA (a + 1) (r ++ [c]) = (a, jx_e g dA d) :: (jx_w g dA (a + 1) r ++ [(a + (r.length + 1), jx_e g dA c)])
    rw [jx_w_app r (a + 1) c]
    congr 4
    omega
theorem jx_w_D (g : Nat → Nat) (dA : FieldType → ClassId) (a : Nat) (h : List jx_C) : va_D (fun q => a ≤ q) (jx_w g dA a h) := by
  refine ⟨fun i j p q hi hj e => ?_, fun k q hk => ?_⟩
  · obtain ⟨c, -, h1⟩ := jx_w_inv hi
    obtain ⟨d, -, h2⟩ := jx_w_inv hj
    rw [h1, h2] at e
    have e' : a + i = a + j := e
    omega
  · obtain ⟨c, -, h1⟩ := jx_w_inv hk
    rw [h1]
    exact Nat.le_add_right a k
/-- how many fields and elements there are -/
def jx_c1 : jx_C → Nat
  | .inl c => c.2.length
  | .inr o => o.2.length
def jx_sz (h : List jx_C) : Nat := (h.map jx_c1).sum
theorem jx_sz_app (h : List jx_C) (c : jx_C) : jx_sz (h ++ [c]) = jx_sz h + jx_c1 c := by simp [jx_sz]
theorem jx_sz_set : ∀ (h : List jx_C) (k : Nat) (c d : jx_C), h[k]? = some d → jx_c1 c = jx_c1 d → jx_sz (h.set k c) = jx_sz h
  | [], k, c, d, hk, _ => by simp at hk
  | z :: r, 0, c, d, hk, e => by
    simp at hk; subst hk
    simp [jx_sz, e]
  | z :: r, k + 1, c, d, hk, e => by
    rw [List.getElem?_cons_succ] at hk
    have := jx_sz_set r k c d hk e
    simp only [jx_sz, List.set_cons_succ, List.map_cons, List.sum_cons] at this ⊢
    omega
/-- the class ids of the array classes that are used -/
def jx_tys (dA : FieldType → ClassId) : List (ClassId × FieldType) := [(dA .int, .int), (dA .long, .long), (dA .char, .char), (dA .boolean, .boolean), (dA .double, .double), (dA (.object "RaceHouse$Thing"), .object "RaceHouse$Thing")]
def jx_nm : List (String × Nat × MethodName × String) := tables_1.filterMap fun w => match w with
  | .methodLinkNest a i y h => some (a, i, y, h)
  | _ => none
def jx_nk : List (String × String) := tables_1.filterMap fun w => match w with
  | .castable a b => some (a, b)
  | _ => none
def jx_nc : List (String × String) := [("RaceHouse", "RaceHouse$Row"), ("RaceHouse$Acts", "RaceHouse$Row"), ("RaceHouse$Plan", "RaceHouse$Row"), ("RaceHouse$Clocks", "RaceHouse$Row"), ("RaceHouse$Course", "RaceHouse$Row"), ("RaceHouse$Fit", "RaceHouse$Row"), ("RaceHouse$Pages", "RaceHouse$Row"), ("RaceHouseModel", "RaceHouse$Row"), ("RaceHouse$Rack", "RaceHouse$Row"), ("RaceHouse$Member", "RaceHouse$Row"), ("RaceHouse", "RaceHouse$Rack"), ("RaceHouse$Acts", "RaceHouse$Rack"), ("RaceHouse$Plan", "RaceHouse$Rack"), ("RaceHouse$Clocks", "RaceHouse$Rack"), ("RaceHouse$Course", "RaceHouse$Rack"), ("RaceHouse$Fit", "RaceHouse$Rack"), ("RaceHouse$Pages", "RaceHouse$Rack"), ("RaceHouseModel", "RaceHouse$Rack"), ("RaceHouse$Row", "RaceHouse$Rack"), ("RaceHouse$Member", "RaceHouse$Rack"), ("RaceHouse", "RaceHouse$Member"), ("RaceHouse$Acts", "RaceHouse$Member"), ("RaceHouse$Plan", "RaceHouse$Member"), ("RaceHouse$Clocks", "RaceHouse$Member"), ("RaceHouse$Course", "RaceHouse$Member"), ("RaceHouse$Fit", "RaceHouse$Member"), ("RaceHouse$Pages", "RaceHouse$Member"), ("RaceHouseModel", "RaceHouse$Member"), ("RaceHouse$Row", "RaceHouse$Member"), ("RaceHouse$Rack", "RaceHouse$Member")]
/-- what the tables and the outer rows are at a method's start -/
def jx_K (D : va_G) (dA : FieldType → ClassId) (t : Nat → Nat) (base : Nat) (o : List (List Value)) (s : State) : Prop :=
  va_K D vwCl (jx_tys dA) s ∧ (∀ q ∈ jx_nm, va_Nw (.methodLinkNest q.1 q.2.1 q.2.2.1 q.2.2.2) s) ∧ (∀ q ∈ jx_nk, va_Nw (.castable q.1 q.2) s) ∧ (∀ q ∈ jx_nc, va_Nc q.1 q.2 s) ∧ va_AO "RaceHouse$Thing" s ∧
  (∀ (k : Nat) (vs : List Value), o[k]? = some vs → va_T .int (t k) vs.length (fun j => vs.getD j .null) (fun q => base ≤ q) s s.heap) ∧
  va_Z "RaceHouse" "FIELD_TYPES" "[I" (.ref (t 1)) (fun q => base ≤ q) s s.heap ∧ va_Z "RaceHouse" "ASK_TYPES" "[I" (.ref (t 2)) (fun q => base ≤ q) s s.heap ∧ o.length = 3
theorem jx_K.moved {D : va_G} {dA : FieldType → ClassId} {t : Nat → Nat} {base : Nat} {o : List (List Value)} {s U : State} (h : jx_K D dA t base o s) (hW : s.WarmedH U.vm) (hS : ∀ a : Nat, a < s.heap.size → ¬ base ≤ a → U.heap[a]? = s.heap[a]?) : jx_K D dA t base o U := by
  obtain ⟨h1, h2, h3, h4, h5, h6, h7, h8, h9⟩ := h
  exact ⟨h1.moved hW.alike, fun q hq => (h2 q hq).warmM hW, fun q hq => (h3 q hq).warmC hW, fun q hq => (h4 q hq).moved hW.alike, h5.moved hW.alike, fun k vs hk => ((h6 k vs hk).kept hS).moved hW.alike, (h7.kept hS).moved hW.alike, (h8.kept hS).moved hW.alike, h9⟩
/-- the heap of the machine holds the list's cells (those behind the three outer rows) -/
def jx_P (D : va_G) (dA : FieldType → ClassId) (t : Nat → Nat) (base : Nat) (h : List jx_C) (H : Heap) : Prop := va_P D vwCl (jx_w (jx_ad t base) dA base (h.drop 3)) H
/-- the three outer rows stand in front -/
def jx_o3 (o : List (List Value)) (h : List jx_C) : Prop := ∀ k, k < 3 → ∃ vs, o[k]? = some vs ∧ h[k]? = some (.inl (.int, vs))
theorem jx_o3.set {o : List (List Value)} {h : List jx_C} (q : jx_o3 o h) {a : Nat} (ha : 3 ≤ a) (c : jx_C) : jx_o3 o (h.set a c) := fun k hk => by
  obtain ⟨vs, h1, h2⟩ := q k hk
  exact ⟨vs, h1, by rw [List.getElem?_set_ne (by omega)]; exact h2⟩
theorem jx_o3.app {o : List (List Value)} {h : List jx_C} (q : jx_o3 o h) (c : jx_C) : jx_o3 o (h ++ [c]) := fun k hk => by
  obtain ⟨vs, h1, h2⟩ := q k hk
  exact ⟨vs, h1, by rw [List.getElem?_append_left (List.getElem?_eq_some_iff.mp h2).1]; exact h2⟩
theorem jx_o3.len {o : List (List Value)} {h : List jx_C} (q : jx_o3 o h) : 3 ≤ h.length := by
  obtain ⟨vs, -, h2⟩ := q 2 (by omega)
  exact (List.getElem?_eq_some_iff.mp h2).1
/-- an object's place lies behind the outer rows -/
theorem jx_o3.big {o : List (List Value)} {h : List jx_C} (q : jx_o3 o h) {a : Nat} {x : Nat × List Value} (ha : h[a]? = some (.inr x)) : 3 ≤ a := by
  rcases Nat.lt_or_ge a 3 with h1 | h1
  · obtain ⟨vs, -, h2⟩ := q a h1
    rw [h2] at ha; cases ha
  · exact h1
theorem jx_ad_big {t : Nat → Nat} {base a : Nat} (h : 3 ≤ a) : jx_ad t base a = base + (a - 3) := by
  unfold jx_ad; rw [if_neg (by omega)]
/-- a cell at its address -/
theorem jx_cell {g : Nat → Nat} {t : Nat → Nat} {base : Nat} {dA : FieldType → ClassId} {h : List jx_C} {a : Nat} {c : jx_C} (ha : h[a]? = some c) (h3 : 3 ≤ a) : (jx_w g dA base (h.drop 3))[a - 3]? = some (jx_ad t base a, jx_e g dA c) := by
  rw [jx_ad_big h3]
  refine jx_w_get ?_
  rw [List.getElem?_drop, show 3 + (a - 3) = a by omega]
  exact ha
theorem jx_drop_set (h : List jx_C) {a : Nat} (h3 : 3 ≤ a) (c : jx_C) : (h.set a c).drop 3 = (h.drop 3).set (a - 3) c := by
  rw [List.drop_set, if_neg (by omega)]
theorem jx_drop_app {h : List jx_C} (h3 : 3 ≤ h.length) (c : jx_C) : (h ++ [c]).drop 3 = h.drop 3 ++ [c] := List.drop_append_of_le_length h3
/-- behind a write -/
theorem jx_P.put {D : va_G} {dA : FieldType → ClassId} {t : Nat → Nat} {base : Nat} {h : List jx_C} {H1 : Heap} {a : Nat} {c : jx_C} (h3 : 3 ≤ a) (hP : va_P D vwCl ((jx_w (jx_ad t base) dA base (h.drop 3)).set (a - 3) (jx_ad t base a, jx_e (jx_ad t base) dA c)) H1) : jx_P D dA t base (h.set a c) H1 := by
  unfold jx_P
  rw [jx_drop_set h h3, jx_w_set, ← jx_ad_big (t := t) h3]
  exact hP
theorem jx_getD_set {vs : List Value} {i : Nat} (hi : i < vs.length) (w : Value) (j : Nat) : (vs.set i w).getD j .null = if j = i then w else vs.getD j .null := by
  by_cases hj : j = i
  · subst hj
    rw [if_pos rfl, List.getD_eq_getElem?_getD, List.getElem?_set_self hi]; rfl
  · rw [if_neg hj, List.getD_eq_getElem?_getD, List.getElem?_set_ne (Ne.symm hj), ← List.getD_eq_getElem?_getD]
theorem jx_getD_at {vs : List Value} {i : Nat} {w : Value} (h : vs[i]? = some w) : vs.getD i .null = w := by
  rw [List.getD_eq_getElem?_getD, h]; rfl
section JXT
variable {p : Program} {l : Launch} {e : Env} {R : Room} {s : State} {m : MethodId} {args : Array Value} {below : List Frame} {meth : Method} {c : Code} {H : Heap} {locs : List Loc} {cells slots : Nat} {Q : State → Prop} {pc : Nat} {ls : Array Slot}
theorem jx_top {v w : Value} {rest : List Value} (e1 : v = w) (k : W p l e R s m args below meth c H locs cells slots Q (F0 m pc ls (w :: rest))) : W p l e R s m args below meth c H locs cells slots Q (F0 m pc ls (v :: rest)) := by rw [e1]; exact k
theorem jx_size {f : JFrame} (k : H.size ≤ s.heap.size + cells → W p l e R s m args below meth c H locs cells slots Q f) : W p l e R s m args below meth c H locs cells slots Q f := fun T hT X => k (by rw [← hT]; exact X.heapSize) T hT X
end JXT
