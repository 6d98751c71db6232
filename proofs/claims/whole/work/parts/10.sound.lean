/-! WHAT THE RUN SAYS HOLDS OF THE MACHINE -/
theorem jx_fl_sl (g : Nat → Nat) (vs : List Value) : (lg_sl (vs.map (jx_v g))).length = (jx_fl vs).length := by
  induction vs with
  | nil => rfl
  | cons v r ih =>
    simp only [lg_sl, jx_fl, List.map_cons, List.flatMap_cons, List.length_append] at ih ⊢
    rw [ih, jx_v_cat]
    split <;> rfl
theorem jx_fl_args (g : Nat → Nat) : ∀ (vs : List Value) (k i m : Nat) (v : Value), jx_ld (jx_fl vs ++ List.replicate m none) i = some v → (k + i, jx_v g v) ∈ lv_args k (vs.map (jx_v g))
  | [], k, i, m, v, h => by
    rw [jx_ld_iff] at h
    simp only [jx_fl, List.flatMap_nil, List.nil_append, List.getElem?_replicate] at h
    split at h <;> cases h
  | w :: r, k, i, m, v, h => by
    have hc : (jx_v g w).category = w.category := jx_v_cat g w
    show (k + i, jx_v g v) ∈ (k, jx_v g w) :: lv_args (if (jx_v g w).category = 2 then k + 2 else k + 1) (r.map (jx_v g))
    rw [hc]
    rw [jx_ld_iff] at h
    by_cases h2 : w.category = 2
    · rw [if_pos h2]
      have e : jx_fl (w :: r) ++ List.replicate m none = some w :: none :: (jx_fl r ++ List.replicate m none) := by simp [jx_fl, h2]
      rw [e] at h
      match i, h with
      | 0, h => cases h; exact List.mem_cons_self
      | 1, h => cases h
      | j + 2, h =>
        have h1 : jx_ld (jx_fl r ++ List.replicate m none) j = some v := jx_ld_iff.mpr h
        have h3 := jx_fl_args g r (k + 2) j m v h1
        rw [show k + (j + 2) = k + 2 + j by omega]
        exact List.mem_cons_of_mem _ h3
    · rw [if_neg h2]
      have e : jx_fl (w :: r) ++ List.replicate m none = some w :: (jx_fl r ++ List.replicate m none) := by simp [jx_fl, h2]
      rw [e] at h
      match i, h with
      | 0, h => cases h; exact List.mem_cons_self
      | j + 1, h =>
        have h1 : jx_ld (jx_fl r ++ List.replicate m none) j = some v := jx_ld_iff.mpr h
        have h3 := jx_fl_args g r (k + 1) j m v h1
        rw [show k + (j + 1) = k + 1 + j by omega]
        exact List.mem_cons_of_mem _ h3
theorem jx_ent_has {g : Nat → Nat} {ls : Array Slot} {n : Nat} {vs : List Value} (h : lv_has ls n (lv_args 0 (vs.map (jx_v g)))) : lv_has ls n (jx_p g (jx_ent n vs)) := by
  refine jx_has_sub h fun q hq => ?_
  obtain ⟨v, hv, he⟩ := jx_p_mem.mp hq
  have h1 := jx_fl_args g vs 0 q.1 _ v hv
  rw [Nat.zero_add, ← he] at h1
  exact h1
theorem jx_K.same {D : va_G} {dA : FieldType → ClassId} {t : Nat → Nat} {base : Nat} {o : List (List Value)} {s U : State} (h : jx_K D dA t base o s) (hvm : s.vm = U.vm) (hh : s.heap = U.heap) : jx_K D dA t base o U := by
  obtain ⟨h1, h2, h3, h4, h5, h6, h7, h8, h9⟩ := h
  have ha : s.vm.Alike U.vm := by rw [hvm]; exact Vm.Alike.refl _
  rw [hh] at h6 h7 h8
  exact ⟨h1.moved ha, fun q hq => (h2 q hq).same rfl hvm, fun q hq => (h3 q hq).same rfl hvm, fun q hq => (h4 q hq).moved ha, h5.moved ha, fun k vs hk => (h6 k vs hk).moved ha, h7.moved ha, h8.moved ha, h9⟩
/-- what holds of the state at a method's start -/
def jx_U (D : va_G) (dA : FieldType → ClassId) (t : Nat → Nat) (base : Nat) (o : List (List Value)) (h : List jx_C) (U : State) : Prop := jx_K D dA t base o U ∧ jx_o3 o h ∧ jx_P D dA t base h U.heap ∧ U.heap.size = base + (h.length - 3)
def jx_Qc (D : va_G) (dA : FieldType → ClassId) (t : Nat → Nat) (base : Nat) (r : Option Value) (h' : List jx_C) : Array Value → State → Outcome → State → Prop := fun _ st oc u => oc = .returned (r.map (jx_v (jx_ad t base))) ∧ jx_P D dA t base h' u.heap ∧ va_F (fun q => base ≤ q) st u
theorem jx_blind {D : va_G} {dA : FieldType → ClassId} {t : Nat → Nat} {base : Nat} {o : List (List Value)} {h : List jx_C} {av : List Value} : FrameBlind (va_Pc av (jx_U D dA t base o h)) := by
  intro a U g mk q
  obtain ⟨q1, q2, q3, q4, q5⟩ := q
  exact ⟨q1, q2.same rfl rfl, q3, q4, q5⟩
section JXC
variable {p : Program} {l : Launch} {e : Env} {R : Room} {s : State} {m : MethodId} {args : Array Value} {below : List Frame} {meth : Method} {c : Code} {H : Heap} {locs : List Loc} {cells slots mc ms : Nat} {Q : State → Prop} {pc : Nat} {ls : Array Slot} {rest st0 : List Value} {a : Array Value}
variable {D : va_G} {dA : FieldType → ClassId} {t : Nat → Nat} {base : Nat}
theorem jx_callW {r : Option Value} {h1 : List jx_C} (hr : va_Run p l e R s m args below meth c H locs cells slots mc ms (F0 m pc ls st0) rest (jx_Qc D dA t base r h1 a) (fun q => base ≤ q)) (hS : va_S (fun q => base ≤ q) s.heap H locs)
    (kk : ∀ (H1 : Heap) (locs1 : List Loc), jx_P D dA t base h1 H1 → va_S (fun q => base ≤ q) s.heap H1 locs1 → W p l e R s m args below meth c H1 locs1 (cells + mc) (slots + ms) Q (F0 m (pc + 3) ls ((r.map (jx_v (jx_ad t base))).toList ++ rest))) : W p l e R s m args below meth c H locs cells slots Q (F0 m pc ls st0) := by
  intro T hT X
  obtain ⟨v, st₀, u, T', L, h0, X', hL, e1, e2, ⟨hv, hp, hz, hk⟩, st⟩ := hr T hT X
  cases hv
  rw [h0] at hz hk
  obtain ⟨t2, a1, b1⟩ := kk T'.heap (locs ++ L) (by rw [e1]; exact hp)
    ⟨Nat.le_trans hS.1 (by rw [e1]; exact hz), fun q g1 g2 => by rw [e1, hk q (Nat.lt_of_lt_of_le g1 hS.1) g2]; exact hS.2.1 q g1 g2, fun q hq => by
      rcases List.mem_append.mp hq with g | g
      · exact hS.2.2 q g
      · exact hL q g⟩ T' rfl X'
  exact ⟨t2, st t2 a1, b1⟩
end JXC
/-- a run of n steps says what holds of the machine -/
def jx_Good (l : Launch) (D : va_G) (dA : FieldType → ClassId) (t : Nat → Nat) (base : Nat) (o : List (List Value)) (n : Nat) : Prop :=
  ∀ (d : Nat) (M : jx_M) (pc : Nat) (lo : jx_L) (st : List Value) (h : List jx_C) (r : Option Value) (h' : List jx_C), jx_run n d M pc lo st h = some (r, h') →
  ∀ (p : Program) (e : Env) (R : Room) (s : State) (m : MethodId) (args : Array Value) (below : List Frame) (meth : Method) (c : Code) (H : Heap) (locs : List Loc) (Q : State → Prop) (ls : Array Slot) (n0 z0 : Nat),
  p.tables.exec = Jvm.exec → c.code = M.2.1 → c.maxLocals = M.2.2.1 → s.vm.findClass M.1.cls = some m.cls → (∀ w ∈ jx_g, w.before args s = true) → meth.name = M.1.name →
  jx_K D dA t base o s → jx_P D dA t base h H → jx_o3 o h → va_S (fun q => base ≤ q) s.heap H locs → base ≤ s.heap.size → n0 ≤ h.length → z0 ≤ jx_sz h → 3 ≤ n0 → s.heap.size = base + (n0 - 3) → lv_has ls M.2.2.1 (jx_p (jx_ad t base) lo) →
  d ≤ R.frames → 42 * d ≤ R.locals → h'.length - n0 ≤ R.cells → jx_sz h' - z0 ≤ R.slots →
  (∀ (pc' : Nat) (i : Instr) (ls' : Array Slot) (st2 : List Value) (H1 : Heap) (locs1 : List Loc), decode M.2.1 pc' = .ok (i, 1) → jx_ret M.2.2.2 i st2 = some r → jx_P D dA t base h' H1 → va_S (fun q => base ≤ q) s.heap H1 locs1 → W p l e R s m args below meth c H1 locs1 (h'.length - n0) (jx_sz h' - z0) Q (F0 m pc' ls' (st2.map (jx_v (jx_ad t base))))) →
  W p l e R s m args below meth c H locs (h.length - n0) (jx_sz h - z0) Q (F0 m pc ls (st.map (jx_v (jx_ad t base))))
/-- the end of a method -/
theorem jx_end {p : Program} {l : Launch} {e : Env} {R : Room} {s : State} {m : MethodId} {args : Array Value} {below : List Frame} {meth : Method} {c : Code} {H : Heap} {locs : List Loc} {cells slots : Nat} {cc : ByteArray} {pc : Nat} {ls : Array Slot} {Qc : Array Value → State → Outcome → State → Prop} {free : Addr → Prop} {ret : Option FieldType} {i : Instr} {st : List Value} {r : Option Value} {g : Nat → Nat}
    (hx : p.tables.exec = Jvm.exec) (hb : c.code = cc) (hr : meth.sig.returnType = ret) (hlocks : meth.locks = false) (hd : decode cc pc = .ok (i, 1)) (hret : jx_ret ret i st = some r) (hq : ∀ u : State, u.heap = H → s.WarmedH u.vm → Qc args s (.returned (r.map (jx_v g))) u) (hf : ∀ q ∈ locs, free q.base) :
    W p l e R s m args below meth c H locs cells slots (MQ below Qc args s cells slots free) (F0 m pc ls (st.map (jx_v g))) := by
  cases i with
  | return_ =>
    simp only [jx_ret] at hret
    split at hret
    · cases hret; exact W.vret hx hb hr hq hf hd hlocks
    · cases hret
  | ireturn =>
    simp only [jx_ret] at hret
    split at hret
    · split at hret
      · rename_i hn
        cases hret; exact W.zret hx hb hr hn hq hf hd hlocks
      · cases hret
    · cases hret
  | lreturn =>
    simp only [jx_ret] at hret
    split at hret
    · cases hret; exact W.lret hx hb hr hq hf hd hlocks
    · cases hret
  | dreturn =>
    simp only [jx_ret] at hret
    split at hret
    · cases hret; exact W.dret hx hb hr hq hf hd hlocks
    · cases hret
  | areturn =>
    simp only [jx_ret] at hret
    split at hret
    · cases hret; exact W.aret hx hb hr (Or.inl ⟨_, rfl⟩) (Or.inr ⟨_, rfl⟩) hq hf hd hlocks
    · cases hret; exact W.aret hx hb hr (Or.inl ⟨_, rfl⟩) (Or.inl rfl) hq hf hd hlocks
    · cases hret
  | _ => exact Option.noConfusion (show (none : Option (Option Value)) = some r from hret)
/-- a method's contract out of a run -/
theorem jx_met {l : Launch} {D : va_G} {dA : FieldType → ClassId} {t : Nat → Nat} {base : Nat} {o : List (List Value)} {n : Nat} (hG : jx_Good l D dA t base o n) {d : Nat} {M : jx_M} {as : List Value} {h : List jx_C} {r : Option Value} {h' : List jx_C} (hrun : jx_run n d M 0 (jx_ent M.2.2.1 as) [] h = some (r, h')) (hpl : plainName M.1.cls = true) (hfl : (jx_fl as).length ≤ M.2.2.1) :
    Met l M.1 (Cond.code M.1 M.2.1 M.2.2.1 M.2.2.2 :: jx_g) { frames := d, cells := h'.length - h.length, slots := jx_sz h' - jx_sz h, locals := 42 * d } (va_Pc (as.map (jx_v (jx_ad t base))) (jx_U D dA t base o h)) (jx_Qc D dA t base r h') (h'.length - h.length) (jx_sz h' - jx_sz h) (fun q => base ≤ q) := by
  refine Met.ofW (cc := M.2.1) (maxL := M.2.2.1) (ret := M.2.2.2) hpl rfl ?_
  intro p e s m args below meth c s₁ B hml hv
  obtain ⟨rfl, hK, ho, hP, hsz⟩ := hv
  have hts0 := atoms_spec (ws := Cond.code M.1 M.2.1 M.2.2.1 M.2.2.2 :: jx_g) B.pre
  have hts : ∀ w ∈ jx_g, w.before _ s = true := fun w hw => hts0 w (List.mem_cons_of_mem _ hw)
  have hown : s.vm.findClass M.1.cls = some m.cls := findClass_of_methodNamed B.named
  have hmn : meth.name = M.1.name := (name_of_methodNamed B.named B.method).1
  have hl := lv_entry (as.map (jx_v (jx_ad t base))) (n := M.2.2.1) (by rw [jx_fl_sl]; exact hfl)
  have hlk := B.notSynchronized
  rw [lg_entry_eq]
  have w := hG d M 0 _ [] h r h' hrun p e (headSpec (Cond.code M.1 M.2.1 M.2.2.1 M.2.2.2 :: jx_g) { frames := d, cells := h'.length - h.length, slots := jx_sz h' - jx_sz h, locals := 42 * d }).room s m _ below meth c s.heap [] (MQ below (jx_Qc D dA t base r h') _ s (h'.length - h.length) (jx_sz h' - jx_sz h) (fun q => base ≤ q)) _ h.length (jx_sz h) B.exec B.bytes hml hown hts hmn hK hP ho va_S.rf (by omega) (Nat.le_refl _) (Nat.le_refl _) ho.len hsz (jx_ent_has hl) (Nat.le_refl _) (Nat.le_refl _) (Nat.le_refl _) (Nat.le_refl _)
    (fun pc' i ls' st2 H1 locs1 hd hret hP1 hS1 => jx_end B.exec B.bytes B.returns hlk hd hret (fun u hu _ => ⟨rfl, by rw [hu]; exact hP1, hS1.F hu⟩) (fun q hq => hS1.2.2 q hq))
  rw [Nat.sub_self, Nat.sub_self] at w
  exact w
