theorem jx_nar {g : Nat → Nat} {ty : FieldType} {v : Value} (h : narrow ty v = v) : narrow ty (jx_v g v) = jx_v g v := by
  cases v with
  | ref a => cases ty <;> rfl
  | _ => exact h
theorem jx_fit {g : Nat → Nat} {ty : FieldType} {v : Value} (h : fits ty v = true) : fits ty (jx_v g v) = true := by
  cases v with
  | ref a => cases ty <;> first | exact h | rfl
  | _ => exact h
theorem jx_dflt (g : Nat → Nat) (ty : FieldType) : jx_v g (defaultValue ty) = defaultValue ty := by cases ty <;> rfl
theorem jx_upI (g : Nat → Nat) (dA : FieldType → ClassId) (ty : FieldType) (ht : ty = .int ∨ ty = .char ∨ ty = .boolean) {vs : List Value} {i : Nat} (hi : i < vs.length) (n : Int32) : jx_e g dA (.inl (ty, vs.set i (.int n))) = .inl (dA ty, vs.length, .inl (upd (fun j => jx_iv (vs.getD j .null)) i n)) := by
  have e : (fun j => jx_iv ((vs.set i (.int n)).getD j .null)) = upd (fun j => jx_iv (vs.getD j .null)) i n := by
    funext j
    rw [jx_getD_set hi]
    unfold upd
    split <;> rfl
  rcases ht with rfl | rfl | rfl
  all_goals
    show Sum.inl (dA _, (vs.set i (.int n)).length, Sum.inl (fun j => jx_iv ((vs.set i (.int n)).getD j .null))) = _
    rw [e, List.length_set]
theorem jx_upL (g : Nat → Nat) (dA : FieldType → ClassId) {vs : List Value} {i : Nat} (hi : i < vs.length) (n : Int64) : jx_e g dA (.inl (.long, vs.set i (.long n))) = .inl (dA .long, vs.length, .inr (.inl (vp_updL (fun j => jx_lv (vs.getD j .null)) i n))) := by
  have e : (fun j => jx_lv ((vs.set i (.long n)).getD j .null)) = vp_updL (fun j => jx_lv (vs.getD j .null)) i n := by
    funext j
    rw [jx_getD_set hi]
    unfold vp_updL
    split <;> rfl
  show Sum.inl (dA _, (vs.set i (.long n)).length, Sum.inr (Sum.inl (fun j => jx_lv ((vs.set i (.long n)).getD j .null)))) = _
  rw [e, List.length_set]
theorem jx_upD (g : Nat → Nat) (dA : FieldType → ClassId) {vs : List Value} {i : Nat} (hi : i < vs.length) (n : UInt64) : jx_e g dA (.inl (.double, vs.set i (.double n))) = .inl (dA .double, vs.length, .inr (.inr (.inr (.inl (vf_upd (fun j => jx_dv (vs.getD j .null)) i n))))) := by
  have e : (fun j => jx_dv ((vs.set i (.double n)).getD j .null)) = vf_upd (fun j => jx_dv (vs.getD j .null)) i n := by
    funext j
    rw [jx_getD_set hi]
    unfold vf_upd
    split <;> rfl
  show Sum.inl (dA _, (vs.set i (.double n)).length, Sum.inr (Sum.inr (Sum.inr (Sum.inl (fun j => jx_dv ((vs.set i (.double n)).getD j .null)))))) = _
  rw [e, List.length_set]
theorem jx_upA (g : Nat → Nat) (dA : FieldType → ClassId) (C : String) {vs : List Value} {i : Nat} (hi : i < vs.length) (v : Value) : jx_e g dA (.inl (.object C, vs.set i v)) = .inl (dA (.object C), vs.length, .inr (.inr (.inr (.inr (va_up (fun j => jx_rv g (vs.getD j .null)) i (jx_rv g v)))))) := by
  have e : (fun j => jx_rv g ((vs.set i v).getD j .null)) = va_up (fun j => jx_rv g (vs.getD j .null)) i (jx_rv g v) := by
    funext j
    rw [jx_getD_set hi]
    unfold va_up
    split <;> rfl
  show Sum.inl (dA _, (vs.set i v).length, Sum.inr (Sum.inr (Sum.inr (Sum.inr (fun j => jx_rv g ((vs.set i v).getD j .null)))))) = _
  rw [e, List.length_set]
theorem jx_rep_getD (n : Nat) (v w : Value) (j : Nat) : (List.replicate n v).getD j w = if j < n then v else w := by
  rw [List.getD_eq_getElem?_getD, List.getElem?_replicate]
  split <;> rfl
/-- a new array's contents -/
theorem jx_newco (g : Nat → Nat) (ty : FieldType) (ht : ty = .int ∨ ty = .long ∨ ty = .char ∨ ty = .boolean ∨ ty = .double) (n : Nat) (cA : ClassId) : vp_cell cA (jx_co g ty (List.replicate n (defaultValue ty))) = arrV cA n (fun _ => defaultValue ty) := by
  have eI : (fun j => Value.int (jx_iv ((List.replicate n (Value.int 0)).getD j .null))) = fun _ => Value.int 0 := by
    funext j; rw [jx_rep_getD]; split <;> rfl
  have eL : (fun j => Value.long (jx_lv ((List.replicate n (Value.long 0)).getD j .null))) = fun _ => Value.long 0 := by
    funext j; rw [jx_rep_getD]; split <;> rfl
  have eD : (fun j => Value.double (jx_dv ((List.replicate n (Value.double 0)).getD j .null))) = fun _ => Value.double 0 := by
    funext j; rw [jx_rep_getD]; split <;> rfl
  rcases ht with rfl | rfl | rfl | rfl | rfl
  · show arrV cA (List.replicate n (Value.int 0)).length (fun j => Value.int (jx_iv ((List.replicate n (Value.int 0)).getD j .null))) = arrV cA n (fun _ => Value.int 0)
    rw [eI, List.length_replicate]
  · show arrV cA (List.replicate n (Value.long 0)).length (fun j => Value.long (jx_lv ((List.replicate n (Value.long 0)).getD j .null))) = arrV cA n (fun _ => Value.long 0)
    rw [eL, List.length_replicate]
  · show arrV cA (List.replicate n (Value.int 0)).length (fun j => Value.int (jx_iv ((List.replicate n (Value.int 0)).getD j .null))) = arrV cA n (fun _ => Value.int 0)
    rw [eI, List.length_replicate]
  · show arrV cA (List.replicate n (Value.int 0)).length (fun j => Value.int (jx_iv ((List.replicate n (Value.int 0)).getD j .null))) = arrV cA n (fun _ => Value.int 0)
    rw [eI, List.length_replicate]
  · show arrV cA (List.replicate n (Value.double 0)).length (fun j => Value.double (jx_dv ((List.replicate n (Value.double 0)).getD j .null))) = arrV cA n (fun _ => Value.double 0)
    rw [eD, List.length_replicate]
/-- what an instruction on the heap does to the list -/
theorem jx_B_heap {y : MethodName} {i : Instr} {st st' : List Value} {h h' : List jx_C} {o : List (List Value)} (ho : jx_o3 o h) (hB : jx_B y i st h = some (st', h')) : h' = h ∨ (∃ a c d, 3 ≤ a ∧ h[a]? = some d ∧ jx_c1 c = jx_c1 d ∧ h' = h.set a c) ∨ ∃ c, h' = h ++ [c] := by
  have up : ∀ {ty : FieldType} {a : Nat} {j : Int32} {v : Value} {h2 : List jx_C}, jx_up h ty a j v = some h2 → ∃ a c d, 3 ≤ a ∧ h[a]? = some d ∧ jx_c1 c = jx_c1 d ∧ h2 = h.set a c := by
    intro ty a j v h2 q
    obtain ⟨vs, h1, -, -, h4, h5⟩ := jx_up_ok q
    exact ⟨a, _, _, h4, h1, by simp [jx_c1], h5⟩
  cases i with
  | getfield idx =>
    obtain ⟨q, hq, h1⟩ := Option.bind_eq_some_iff.mp (show Option.bind _ _ = _ from hB)
    obtain ⟨ob, hob, h2⟩ := Option.bind_eq_some_iff.mp h1
    obtain ⟨k, hk, h3⟩ := Option.bind_eq_some_iff.mp h2
    obtain ⟨v, hv, he⟩ := Option.map_eq_some_iff.mp h3
    cases he; exact Or.inl rfl
  | putfield idx =>
    obtain ⟨q, hq, h1⟩ := Option.bind_eq_some_iff.mp (show Option.bind _ _ = _ from hB)
    obtain ⟨ob, hob, h2⟩ := Option.bind_eq_some_iff.mp h1
    obtain ⟨k, hk, h3⟩ := Option.bind_eq_some_iff.mp h2
    split at h3
    · cases h3
      exact Or.inr (Or.inl ⟨_, _, _, ho.big (jx_ob_eq hob), jx_ob_eq hob, by simp [jx_c1], rfl⟩)
    · cases h3
  | iaload =>
    obtain ⟨q, hq, h1⟩ := Option.bind_eq_some_iff.mp (show Option.bind _ _ = _ from hB)
    obtain ⟨v, hv, h2⟩ := Option.bind_eq_some_iff.mp h1
    split at h2
    · cases h2; exact Or.inl rfl
    · cases h2
  | laload =>
    obtain ⟨q, hq, h1⟩ := Option.bind_eq_some_iff.mp (show Option.bind _ _ = _ from hB)
    obtain ⟨v, hv, h2⟩ := Option.bind_eq_some_iff.mp h1
    split at h2
    · split at h2
      · cases h2; exact Or.inl rfl
      · cases h2
    · cases h2
  | caload =>
    obtain ⟨q, hq, h1⟩ := Option.bind_eq_some_iff.mp (show Option.bind _ _ = _ from hB)
    obtain ⟨v, hv, h2⟩ := Option.bind_eq_some_iff.mp h1
    split at h2
    · split at h2
      · cases h2; exact Or.inl rfl
      · cases h2
    · cases h2
  | baload =>
    obtain ⟨q, hq, h1⟩ := Option.bind_eq_some_iff.mp (show Option.bind _ _ = _ from hB)
    obtain ⟨v, hv, h2⟩ := Option.bind_eq_some_iff.mp h1
    split at h2
    · split at h2
      · cases h2; exact Or.inl rfl
      · cases h2
    · cases h2
  | daload =>
    obtain ⟨q, hq, h1⟩ := Option.bind_eq_some_iff.mp (show Option.bind _ _ = _ from hB)
    obtain ⟨v, hv, h2⟩ := Option.bind_eq_some_iff.mp h1
    split at h2
    · split at h2
      · cases h2; exact Or.inl rfl
      · cases h2
    · cases h2
  | aaload =>
    obtain ⟨q, hq, h1⟩ := Option.bind_eq_some_iff.mp (show Option.bind _ _ = _ from hB)
    obtain ⟨v, hv, h2⟩ := Option.bind_eq_some_iff.mp h1
    split at h2
    · split at h2
      · cases h2; exact Or.inl rfl
      · cases h2
    · split at h2
      · cases h2; exact Or.inl rfl
      · cases h2
    · cases h2
  | iastore =>
    obtain ⟨q, hq, h1⟩ := Option.bind_eq_some_iff.mp (show Option.bind _ _ = _ from hB)
    split at h1
    · obtain ⟨h2, h3, he⟩ := Option.map_eq_some_iff.mp h1
      cases he; exact Or.inr (Or.inl (up h3))
    · cases h1
  | lastore =>
    obtain ⟨q, hq, h1⟩ := Option.bind_eq_some_iff.mp (show Option.bind _ _ = _ from hB)
    split at h1
    · obtain ⟨h2, h3, he⟩ := Option.map_eq_some_iff.mp h1
      cases he; exact Or.inr (Or.inl (up h3))
    · cases h1
  | castore =>
    obtain ⟨q, hq, h1⟩ := Option.bind_eq_some_iff.mp (show Option.bind _ _ = _ from hB)
    split at h1
    · obtain ⟨h2, h3, he⟩ := Option.map_eq_some_iff.mp h1
      cases he; exact Or.inr (Or.inl (up h3))
    · cases h1
  | bastore =>
    obtain ⟨q, hq, h1⟩ := Option.bind_eq_some_iff.mp (show Option.bind _ _ = _ from hB)
    split at h1
    · obtain ⟨h2, h3, he⟩ := Option.map_eq_some_iff.mp h1
      cases he; exact Or.inr (Or.inl (up h3))
    · cases h1
  | dastore =>
    obtain ⟨q, hq, h1⟩ := Option.bind_eq_some_iff.mp (show Option.bind _ _ = _ from hB)
    split at h1
    · obtain ⟨h2, h3, he⟩ := Option.map_eq_some_iff.mp h1
      cases he; exact Or.inr (Or.inl (up h3))
    · cases h1
  | aastore =>
    obtain ⟨q, hq, h1⟩ := Option.bind_eq_some_iff.mp (show Option.bind _ _ = _ from hB)
    split at h1
    · obtain ⟨h2, h3, he⟩ := Option.map_eq_some_iff.mp h1
      cases he; exact Or.inr (Or.inl (up h3))
    · obtain ⟨ob, hob, h4⟩ := Option.bind_eq_some_iff.mp h1
      obtain ⟨cl, hcl, h5⟩ := Option.bind_eq_some_iff.mp h4
      split at h5
      · obtain ⟨h2, h3, he⟩ := Option.map_eq_some_iff.mp h5
        cases he; exact Or.inr (Or.inl (up h3))
      · cases h5
    · cases h1
  | arraylength =>
    obtain ⟨q, hq, h1⟩ := Option.bind_eq_some_iff.mp (show Option.bind _ _ = _ from hB)
    obtain ⟨v, hv, h2⟩ := Option.bind_eq_some_iff.mp h1
    split at h2
    · split at h2
      · cases h2; exact Or.inl rfl
      · cases h2
    · cases h2
  | new idx =>
    obtain ⟨C, hC, h1⟩ := Option.bind_eq_some_iff.mp (show Option.bind _ _ = _ from hB)
    obtain ⟨ci, hci, h2⟩ := Option.bind_eq_some_iff.mp h1
    obtain ⟨cl, hcl, h3⟩ := Option.bind_eq_some_iff.mp h2
    split at h3
    · cases h3; exact Or.inr (Or.inr ⟨_, rfl⟩)
    · cases h3
  | newarray at_ =>
    obtain ⟨q, hq, h1⟩ := Option.bind_eq_some_iff.mp (show Option.bind _ _ = _ from hB)
    obtain ⟨ty, hty, h2⟩ := Option.bind_eq_some_iff.mp h1
    split at h2
    · cases h2; exact Or.inr (Or.inr ⟨_, rfl⟩)
    · cases h2
  | anewarray idx =>
    obtain ⟨q, hq, h1⟩ := Option.bind_eq_some_iff.mp (show Option.bind _ _ = _ from hB)
    obtain ⟨ty, hty, h2⟩ := Option.bind_eq_some_iff.mp h1
    split at h2
    · cases h2; exact Or.inr (Or.inr ⟨_, rfl⟩)
    · cases h2
  | checkcast idx =>
    obtain ⟨q, hq, h1⟩ := Option.bind_eq_some_iff.mp (show Option.bind _ _ = _ from hB)
    split at h1
    · cases h1; exact Or.inl rfl
    · obtain ⟨ob, hob, h4⟩ := Option.bind_eq_some_iff.mp h1
      obtain ⟨cl, hcl, h5⟩ := Option.bind_eq_some_iff.mp h4
      obtain ⟨C, hC, h6⟩ := Option.bind_eq_some_iff.mp h5
      split at h6
      · cases h6; exact Or.inl rfl
      · cases h6
  | instanceof idx =>
    obtain ⟨q, hq, h1⟩ := Option.bind_eq_some_iff.mp (show Option.bind _ _ = _ from hB)
    split at h1
    · cases h1; exact Or.inl rfl
    · obtain ⟨ob, hob, h4⟩ := Option.bind_eq_some_iff.mp h1
      obtain ⟨cl, hcl, h5⟩ := Option.bind_eq_some_iff.mp h4
      obtain ⟨C, hC, h6⟩ := Option.bind_eq_some_iff.mp h5
      split at h6
      · cases h6; exact Or.inl rfl
      · split at h6
        · cases h6; exact Or.inl rfl
        · cases h6
  | getstatic idx =>
    obtain ⟨q, hq, h1⟩ := Option.bind_eq_some_iff.mp (show Option.bind _ _ = _ from hB)
    split at h1
    · cases h1; exact Or.inl rfl
    · split at h1
      · cases h1; exact Or.inl rfl
      · cases h1
  | ldc idx =>
    obtain ⟨v, hv, he⟩ := Option.map_eq_some_iff.mp (show Option.map _ _ = _ from hB)
    cases he; exact Or.inl rfl
  | ldc_w idx =>
    obtain ⟨v, hv, he⟩ := Option.map_eq_some_iff.mp (show Option.map _ _ = _ from hB)
    cases he; exact Or.inl rfl
  | ldc2_w idx =>
    simp only [jx_B] at hB
    split at hB
    · cases hB; exact Or.inl rfl
    · obtain ⟨v, hv, he⟩ := Option.map_eq_some_iff.mp hB
      cases he; exact Or.inl rfl
  | _ => exact Option.noConfusion (show (none : Option (List Value × List jx_C)) = some (st', h') from hB)
theorem jx_B_o3 {y : MethodName} {i : Instr} {st st' : List Value} {h h' : List jx_C} {o : List (List Value)} (ho : jx_o3 o h) (hB : jx_B y i st h = some (st', h')) : jx_o3 o h' := by
  rcases jx_B_heap ho hB with rfl | ⟨a, c, d, h1, -, -, rfl⟩ | ⟨c, rfl⟩
  · exact ho
  · exact ho.set h1 c
  · exact ho.app c
theorem jx_B_mono {y : MethodName} {i : Instr} {st st' : List Value} {h h' : List jx_C} {o : List (List Value)} (ho : jx_o3 o h) (hB : jx_B y i st h = some (st', h')) : h.length ≤ h'.length ∧ jx_sz h ≤ jx_sz h' := by
  rcases jx_B_heap ho hB with rfl | ⟨a, c, d, h1, h2, h3, rfl⟩ | ⟨c, rfl⟩
  · exact ⟨Nat.le_refl _, Nat.le_refl _⟩
  · exact ⟨by simp, by rw [jx_sz_set h a c d h2 h3]; exact Nat.le_refl _⟩
  · exact ⟨by simp, by rw [jx_sz_app]; exact Nat.le_add_right _ _⟩
