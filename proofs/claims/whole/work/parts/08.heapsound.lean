theorem jx_ac_i : Cond.arrayClass .int ∈ jx_g := jx_g_of (by decide +kernel) rfl
theorem jx_ac_l : Cond.arrayClass .long ∈ jx_g := jx_g_of (by decide +kernel) rfl
theorem jx_ac_c : Cond.arrayClass .char ∈ jx_g := jx_g_of (by decide +kernel) rfl
theorem jx_ac_z : Cond.arrayClass .boolean ∈ jx_g := jx_g_of (by decide +kernel) rfl
theorem jx_ac_d : Cond.arrayClass .double ∈ jx_g := jx_g_of (by decide +kernel) rfl
section JXB
variable {p : Program} {l : Launch} {e : Env} {R : Room} {s : State} {m : MethodId} {args : Array Value} {below : List Frame} {meth : Method} {c : Code} {H : Heap} {locs : List Loc} {Q : State → Prop} {cc : ByteArray} {pc : Nat} {ls : Array Slot}
variable {D : va_G} {dA : FieldType → ClassId} {t : Nat → Nat} {base : Nat} {o : List (List Value)} {y : MethodName} {h h' : List jx_C} {st st' : List Value} {n0 z0 : Nat}
/-- a new cell lies behind the last one -/
theorem jx_fresh {q : Nat} {H1 : Heap} {x : va_E} (h3 : 3 ≤ h.length) (hP1 : va_P D vwCl (jx_w (jx_ad t base) dA base (h.drop 3) ++ [(q, x)]) H1) (hD1 : va_D (fun z => base ≤ z) (jx_w (jx_ad t base) dA base (h.drop 3) ++ [(q, x)])) (hz : H1.size ≤ base + (h.length - 3) + 1) : q = jx_ad t base h.length := by
  have hl : (jx_w (jx_ad t base) dA base (h.drop 3)).length = h.length - 3 := by rw [jx_w_len]; simp
  have hlast : (jx_w (jx_ad t base) dA base (h.drop 3) ++ [(q, x)])[h.length - 3]? = some (q, x) := by
    rw [List.getElem?_append_right (by omega), hl, Nat.sub_self]; rfl
  have h1 : q < H1.size := (hP1 _ _ hlast).lt
  have h2 : base ≤ q := hD1.2 _ _ hlast
  rw [jx_ad_big h3]
  rcases Nat.lt_or_ge (q - base) (h.length - 3) with h4 | h4
  · exfalso
    have h5 : q - base < (h.drop 3).length := by simp; omega
    have h6 := jx_w_get (g := jx_ad t base) (dA := dA) (a := base) (List.getElem?_eq_getElem h5)
    have h7 : (jx_w (jx_ad t base) dA base (h.drop 3) ++ [(q, x)])[q - base]? = some (base + (q - base), jx_e (jx_ad t base) dA (h.drop 3)[q - base]) := by
      rw [List.getElem?_append_left (by omega)]; exact h6
    have h8 := hD1.1 _ _ _ _ h7 hlast (by show base + (q - base) = q; omega)
    omega
  · omega
/-- behind a new cell -/
theorem jx_P.push {q : Nat} {H1 : Heap} {x : jx_C} (h3 : 3 ≤ h.length) (hq : q = jx_ad t base h.length) (hP1 : va_P D vwCl (jx_w (jx_ad t base) dA base (h.drop 3) ++ [(q, jx_e (jx_ad t base) dA x)]) H1) : jx_P D dA t base (h ++ [x]) H1 := by
  unfold jx_P
  rw [jx_drop_app h3, jx_w_app, show base + (h.drop 3).length = q by rw [hq, jx_ad_big h3]; simp]
  exact hP1
theorem jx_arrId {cA : ClassId} {ty : FieldType} {k : Nat} (hk : (jx_tys dA)[k]? = some (dA ty, ty)) (hn : ∀ C, ty ≠ .object C) (hK : va_K D vwCl (jx_tys dA) s) (hK1 : va_K D vwCl (jx_tys dA ++ [(cA, ty)]) s) : cA = dA ty := by
  have h1 := (hK.2 k _ hk).2
  have h2 := (hK1.2 (jx_tys dA).length (cA, ty) (by rw [List.getElem?_append_right (Nat.le_refl _), Nat.sub_self]; rfl)).2
  cases ty with
  | object C => exact absurd rfl (hn C)
  | _ => exact Option.some.inj ((show s.vm.findClass _ = some _ from h2).symm.trans (show s.vm.findClass _ = some _ from h1))
theorem jx_arrIdO {cA : ClassId} {C : String} {k : Nat} (hk : (jx_tys dA)[k]? = some (dA (.object C), .object C)) (hK : va_K D vwCl (jx_tys dA) s) (hK1 : va_K D vwCl (jx_tys dA ++ [(cA, .object C)]) s) : cA = dA (.object C) := by
  obtain ⟨-, -, -, -, -, h1⟩ := (hK.2 k _ hk).2
  obtain ⟨-, -, -, -, -, h2⟩ := (hK1.2 (jx_tys dA).length (cA, .object C) (by rw [List.getElem?_append_right (Nat.le_refl _), Nat.sub_self]; rfl)).2
  exact Option.some.inj (h2.symm.trans h1)
set_option maxHeartbeats 4000000 in
theorem jx_B_ok (hx : p.tables.exec = Jvm.exec) (hb : c.code = cc) (hown : s.vm.findClass y.cls = some m.cls) (hts : ∀ w ∈ jx_g, w.before args s = true) (hmn : meth.name = y.name) (hK : jx_K D dA t base o s) (hP : jx_P D dA t base h H) (ho : jx_o3 o h) (hS : va_S (fun q => base ≤ q) s.heap H locs) (hbs : base ≤ s.heap.size)
    (hn0 : n0 ≤ h.length) (hz0 : z0 ≤ jx_sz h) (h3n : 3 ≤ n0) (hn3 : s.heap.size = base + (n0 - 3)) {i : Instr} (hd : decode cc pc = .ok (i, jx_len i)) (hB : jx_B y i st h = some (st', h')) (hrc : h'.length - n0 ≤ R.cells) (hrs : jx_sz h' - z0 ≤ R.slots)
    (k : ∀ (H1 : Heap) (locs1 : List Loc), jx_P D dA t base h' H1 → va_S (fun q => base ≤ q) s.heap H1 locs1 → W p l e R s m args below meth c H1 locs1 (h'.length - n0) (jx_sz h' - z0) Q (F0 m (pc + jx_len i) ls (st'.map (jx_v (jx_ad t base))))) :
    W p l e R s m args below meth c H locs (h.length - n0) (jx_sz h - z0) Q (F0 m pc ls (st.map (jx_v (jx_ad t base)))) := by
  have hA : ∀ q, s.heap.size ≤ q → base ≤ q := fun q hq => Nat.le_trans hbs hq
  have h3h : 3 ≤ h.length := ho.len
  have hDw := jx_w_D (jx_ad t base) dA base (h.drop 3)
  have set_cs : ∀ {a : Nat} {cn d : jx_C} {H1 : Heap} {locs1 : List Loc} {f : JFrame}, h[a]? = some d → jx_c1 cn = jx_c1 d → W p l e R s m args below meth c H1 locs1 ((h.set a cn).length - n0) (jx_sz (h.set a cn) - z0) Q f → W p l e R s m args below meth c H1 locs1 (h.length - n0) (jx_sz h - z0) Q f := by
    intro a cn d H1 locs1 f h1 h2 w
    rw [jx_sz_set h a cn d h1 h2, List.length_set] at w
    exact w
  have outer : ∀ {a : Nat} {vs : List Value}, a < 3 → h[a]? = some (.inl (.int, vs)) → jx_ad t base a = t a ∧ va_T .int (t a) vs.length (fun j => vs.getD j .null) (fun q => base ≤ q) s s.heap := by
    intro a vs ha hv
    obtain ⟨ws, h1, h2⟩ := ho a ha
    rw [h2] at hv; cases hv
    exact ⟨by unfold jx_ad; rw [if_pos ha], hK.2.2.2.2.2.1 a _ h1⟩
  cases i with
  | getfield idx =>
    obtain ⟨q, hq, h1⟩ := Option.bind_eq_some_iff.mp (show Option.bind _ _ = _ from hB)
    obtain ⟨ob, hob, h2⟩ := Option.bind_eq_some_iff.mp h1
    obtain ⟨kk, hk, h3⟩ := Option.bind_eq_some_iff.mp h2
    obtain ⟨v, hv, he⟩ := Option.map_eq_some_iff.mp h3
    cases he
    rw [jx_1R_eq hq]
    obtain ⟨w, hw, hk2⟩ := Option.bind_eq_some_iff.mp (show Option.bind _ _ = _ from hk)
    obtain ⟨cq, hc, hlt, e1, e2, e3⟩ := jx_k_ok hk2
    have hcell := jx_cell (g := jx_ad t base) (t := t) (base := base) (dA := dA) (jx_ob_eq hob) (ho.big (jx_ob_eq hob))
    refine va_get (D := D) (ci := ob.1) (v := jx_v (jx_ad t base) v) (C := cq.1) (T := cq.2.1) (N := cq.2.2) (fs := ob.2.map (jx_v (jx_ad t base))) (ref := w.1) hx hb hts (jx_cls hc).1 hown hK.1 hP _ hcell hc kk hlt (by rw [e1, e2]; exact hts _ (jx_wl_ok hw)) (fun z hz => ?_) (by rw [List.getElem?_map, hv]; rfl) hd (k H locs hP hS)
    rw [e1, e2] at hz ⊢
    rcases e3 with e3 | e3
    · rw [← e3]; exact hz
    · exact u_same (hts _ e3) z hz
  | putfield idx =>
    obtain ⟨q, hq, h1⟩ := Option.bind_eq_some_iff.mp (show Option.bind _ _ = _ from hB)
    obtain ⟨ob, hob, h2⟩ := Option.bind_eq_some_iff.mp h1
    obtain ⟨kk, hk, h3⟩ := Option.bind_eq_some_iff.mp h2
    split at h3
    · rename_i hm
      cases h3
      rw [jx_VR_eq hq]
      obtain ⟨w, hw, hk2⟩ := Option.bind_eq_some_iff.mp (show Option.bind _ _ = _ from hk)
      obtain ⟨cq, hc, hlt, e1, e2, e3⟩ := jx_k_ok hk2
      have h3a := ho.big (jx_ob_eq hob)
      have hcell := jx_cell (g := jx_ad t base) (t := t) (base := base) (dA := dA) (jx_ob_eq hob) h3a
      obtain ⟨hm1, hm2⟩ := hm
      unfold jx_may at hm1
      rw [hc] at hm1
      simp only [Bool.and_eq_true, decide_eq_true_eq, Bool.or_eq_true, beq_iff_eq] at hm1
      obtain ⟨⟨m1, m2⟩, m3⟩ := hm1
      have same : ∀ x, s.fieldFound? (cq.2.1 kk).1 (cq.2.1 kk).2.1 (cq.2.1 kk).2.2.1 = some x → s.fieldFound? w.1 (cq.2.1 kk).2.1 (cq.2.1 kk).2.2.1 = some x := by
        intro z hz
        rw [e1, e2] at hz ⊢
        rcases e3 with e3 | e3
        · rw [← e3]; exact hz
        · exact u_same (hts _ e3) z hz
      have fin : ∀ (H1 : Heap) (locs1 : List Loc), va_P D vwCl ((jx_w (jx_ad t base) dA base (h.drop 3)).set (q.2.1 - 3) (jx_ad t base q.2.1, .inr (ob.1, (ob.2.map (jx_v (jx_ad t base))).set kk (jx_v (jx_ad t base) q.1)))) H1 → va_D (fun z => base ≤ z) ((jx_w (jx_ad t base) dA base (h.drop 3)).set (q.2.1 - 3) (jx_ad t base q.2.1, .inr (ob.1, (ob.2.map (jx_v (jx_ad t base))).set kk (jx_v (jx_ad t base) q.1)))) → va_S (fun q => base ≤ q) s.heap H1 locs1 → W p l e R s m args below meth c H1 locs1 (h.length - n0) (jx_sz h - z0) Q (F0 m (pc + 3) ls (q.2.2.map (jx_v (jx_ad t base)))) := by
        intro H1 locs1 hP1 _ hS1
        rw [← List.map_set] at hP1
        exact set_cs (cn := .inr (ob.1, ob.2.set kk q.1)) (jx_ob_eq hob) (by simp [jx_c1]) (k H1 locs1 (jx_P.put h3a hP1) hS1)
      by_cases m0 : (cq.2.1 kk).2.2.2 = false
      · exact va_put (D := D) (ci := ob.1) (v := jx_v (jx_ad t base) q.1) (ty := jx_fty (cq.2.1 kk).2.2.1) (C := cq.1) (T := cq.2.1) (N := cq.2.2) (fs := ob.2.map (jx_v (jx_ad t base))) (ref := w.1) hx hb hts (jx_cls hc).1 (fun z => jx_fty (cq.2.1 z).2.2.1) (jx_cls hc).2.1 (jx_cls hc).2.2.1 hown hK.1 hP hDw hS _ hcell hc kk hlt (by rw [e1, e2]; exact hts _ (jx_wl_ok hw)) same m0 ((jx_cls hc).2.1 kk hlt) (jx_nar m1) (jx_fit m2) (by simpa using hm2) hd fin
      · obtain ⟨m3, m4⟩ := m3.resolve_left m0
        exact va_putF (D := D) (ci := ob.1) (v := jx_v (jx_ad t base) q.1) (ty := jx_fty (cq.2.1 kk).2.2.1) (C := cq.1) (T := cq.2.1) (N := cq.2.2) (fs := ob.2.map (jx_v (jx_ad t base))) (ref := w.1) hx hb hts (jx_cls hc).1 (fun z => jx_fty (cq.2.1 z).2.2.1) (jx_cls hc).2.1 (jx_cls hc).2.2.1 hown hK.1 hP hDw hS _ hcell hc kk hlt (by rw [e1, e2]; exact hts _ (jx_wl_ok hw)) same (by simpa using m0) (hmn.trans m3) m4 ((jx_cls hc).2.1 kk hlt) (jx_nar m1) (jx_fit m2) (by simpa using hm2) hd fin
    · cases h3
  | iaload =>
    obtain ⟨q, hq, h1⟩ := Option.bind_eq_some_iff.mp (show Option.bind _ _ = _ from hB)
    obtain ⟨v, hv, h2⟩ := Option.bind_eq_some_iff.mp h1
    split at h2
    · rename_i n
      cases h2
      rw [jx_IR_eq hq]
      obtain ⟨vs, v1, v2, v3⟩ := jx_el_ok hv
      have hz : jx_iv (vs.getD q.1.toNatClampNeg .null) = n := by rw [jx_getD_at v3]; rfl
      rcases Nat.lt_or_ge q.2.1 3 with h3 | h3
      · obtain ⟨e1, hT⟩ := outer h3 v1
        show W p l e R s m args below meth c H locs _ _ Q (F0 m pc ls (.int q.1 :: .ref (jx_ad t base q.2.1) :: q.2.2.map (jx_v (jx_ad t base))))
        rw [e1]
        exact va_ti hx hb hT hS v2 (v := .int n) (jx_getD_at v3) hd (k H locs hP hS)
      · exact va_iald (f := fun i => jx_iv (vs.getD i .null)) hx hb hK.1 hP (q.2.1 - 3) 0 (jx_cell v1 h3) rfl v2 hd (jx_top (w := .int n) (congrArg Value.int hz) (k H locs hP hS))
    · cases h2
  | laload =>
    obtain ⟨q, hq, h1⟩ := Option.bind_eq_some_iff.mp (show Option.bind _ _ = _ from hB)
    obtain ⟨v, hv, h2⟩ := Option.bind_eq_some_iff.mp h1
    split at h2
    · rename_i n
      split at h2
      · rename_i h3
        cases h2
        rw [jx_IR_eq hq]
        obtain ⟨vs, v1, v2, v3⟩ := jx_el_ok hv
        have hz : jx_lv (vs.getD q.1.toNatClampNeg .null) = n := by rw [jx_getD_at v3]; rfl
        exact va_lald (f := fun i => jx_lv (vs.getD i .null)) hx hb hK.1 hP (q.2.1 - 3) 1 (jx_cell v1 h3) rfl v2 hd (jx_top (w := .long n) (congrArg Value.long hz) (k H locs hP hS))
      · cases h2
    · cases h2
  | caload =>
    obtain ⟨q, hq, h1⟩ := Option.bind_eq_some_iff.mp (show Option.bind _ _ = _ from hB)
    obtain ⟨v, hv, h2⟩ := Option.bind_eq_some_iff.mp h1
    split at h2
    · rename_i n
      split at h2
      · rename_i h3
        cases h2
        rw [jx_IR_eq hq]
        obtain ⟨vs, v1, v2, v3⟩ := jx_el_ok hv
        have hz : jx_iv (vs.getD q.1.toNatClampNeg .null) = n := by rw [jx_getD_at v3]; rfl
        exact va_cald (f := fun i => jx_iv (vs.getD i .null)) hx hb hK.1 hP (q.2.1 - 3) 2 (jx_cell v1 h3) rfl v2 hd (jx_top (w := .int n) (congrArg Value.int hz) (k H locs hP hS))
      · cases h2
    · cases h2
  | baload =>
    obtain ⟨q, hq, h1⟩ := Option.bind_eq_some_iff.mp (show Option.bind _ _ = _ from hB)
    obtain ⟨v, hv, h2⟩ := Option.bind_eq_some_iff.mp h1
    split at h2
    · rename_i n
      split at h2
      · rename_i h3
        cases h2
        rw [jx_IR_eq hq]
        obtain ⟨vs, v1, v2, v3⟩ := jx_el_ok hv
        have hz : jx_iv (vs.getD q.1.toNatClampNeg .null) = n := by rw [jx_getD_at v3]; rfl
        exact va_zald (f := fun i => jx_iv (vs.getD i .null)) hx hb hK.1 hP (q.2.1 - 3) 3 (jx_cell v1 h3) rfl v2 hd (jx_top (w := .int n) (congrArg Value.int hz) (k H locs hP hS))
      · cases h2
    · cases h2
  | daload =>
    obtain ⟨q, hq, h1⟩ := Option.bind_eq_some_iff.mp (show Option.bind _ _ = _ from hB)
    obtain ⟨v, hv, h2⟩ := Option.bind_eq_some_iff.mp h1
    split at h2
    · rename_i n
      split at h2
      · rename_i h3
        cases h2
        rw [jx_IR_eq hq]
        obtain ⟨vs, v1, v2, v3⟩ := jx_el_ok hv
        have hz : jx_dv (vs.getD q.1.toNatClampNeg .null) = n := by rw [jx_getD_at v3]; rfl
        exact va_dald (f := fun i => jx_dv (vs.getD i .null)) hx hb hK.1 hP (q.2.1 - 3) 4 (jx_cell v1 h3) rfl v2 hd (jx_top (w := .double n) (congrArg Value.double hz) (k H locs hP hS))
      · cases h2
    · cases h2
  | aaload =>
    obtain ⟨q, hq, h1⟩ := Option.bind_eq_some_iff.mp (show Option.bind _ _ = _ from hB)
    obtain ⟨v, hv, h2⟩ := Option.bind_eq_some_iff.mp h1
    obtain ⟨vs, v1, v2, v3⟩ := jx_el_ok hv
    split at h2
    · rename_i n
      split at h2
      · rename_i h3
        cases h2
        rw [jx_IR_eq hq]
        have hz : va_rf (jx_rv (jx_ad t base) (vs.getD q.1.toNatClampNeg .null)) = .ref (jx_ad t base n) := by rw [jx_getD_at v3]; rfl
        exact va_aldq (f := fun i => jx_rv (jx_ad t base) (vs.getD i .null)) hx hb hK.1 hP (q.2.1 - 3) 5 (jx_cell v1 h3) rfl v2 hd (jx_top hz (k H locs hP hS))
      · cases h2
    · split at h2
      · rename_i h3
        cases h2
        rw [jx_IR_eq hq]
        have hz : va_rf (jx_rv (jx_ad t base) (vs.getD q.1.toNatClampNeg .null)) = .null := by rw [jx_getD_at v3]; rfl
        exact va_aldq (f := fun i => jx_rv (jx_ad t base) (vs.getD i .null)) hx hb hK.1 hP (q.2.1 - 3) 5 (jx_cell v1 h3) rfl v2 hd (jx_top hz (k H locs hP hS))
      · cases h2
    · cases h2
  | iastore =>
    obtain ⟨q, hq, h1⟩ := Option.bind_eq_some_iff.mp (show Option.bind _ _ = _ from hB)
    split at h1
    · rename_i n hn
      obtain ⟨h2, h3, he⟩ := Option.map_eq_some_iff.mp h1
      cases he
      rw [jx_VIR_eq hq, hn]
      obtain ⟨vs, v1, v2, v3, v4, rfl⟩ := jx_up_ok h3
      exact va_iast (x := n) (f := fun i => jx_iv (vs.getD i .null)) hx hb hK.1 hP hDw hS (q.2.2.1 - 3) 0 (jx_cell v1 v4) rfl v2 hd (fun H1 locs1 hP1 _ hS1 => set_cs v1 (by simp [jx_c1]) (k H1 locs1 (jx_P.put v4 (by rw [jx_upI _ _ _ (Or.inl rfl) v3]; exact hP1)) hS1))
    · cases h1
  | lastore =>
    obtain ⟨q, hq, h1⟩ := Option.bind_eq_some_iff.mp (show Option.bind _ _ = _ from hB)
    split at h1
    · rename_i n hn
      obtain ⟨h2, h3, he⟩ := Option.map_eq_some_iff.mp h1
      cases he
      rw [jx_VIR_eq hq, hn]
      obtain ⟨vs, v1, v2, v3, v4, rfl⟩ := jx_up_ok h3
      exact va_last (x := n) (f := fun i => jx_lv (vs.getD i .null)) hx hb hK.1 hP hDw hS (q.2.2.1 - 3) 1 (jx_cell v1 v4) rfl v2 hd (fun H1 locs1 hP1 _ hS1 => set_cs v1 (by simp [jx_c1]) (k H1 locs1 (jx_P.put v4 (by rw [jx_upL _ _ v3]; exact hP1)) hS1))
    · cases h1
  | castore =>
    obtain ⟨q, hq, h1⟩ := Option.bind_eq_some_iff.mp (show Option.bind _ _ = _ from hB)
    split at h1
    · rename_i n hn
      obtain ⟨h2, h3, he⟩ := Option.map_eq_some_iff.mp h1
      cases he
      rw [jx_VIR_eq hq, hn]
      obtain ⟨vs, v1, v2, v3, v4, rfl⟩ := jx_up_ok h3
      exact va_cast (x := n) (f := fun i => jx_iv (vs.getD i .null)) hx hb hK.1 hP hDw hS (q.2.2.1 - 3) 2 (jx_cell v1 v4) rfl v2 hd (fun H1 locs1 hP1 _ hS1 => set_cs v1 (by simp [jx_c1]) (k H1 locs1 (jx_P.put v4 (by rw [jx_upI _ _ _ (Or.inr (Or.inl rfl)) v3]; exact hP1)) hS1))
    · cases h1
  | bastore =>
    obtain ⟨q, hq, h1⟩ := Option.bind_eq_some_iff.mp (show Option.bind _ _ = _ from hB)
    split at h1
    · rename_i n hn
      obtain ⟨h2, h3, he⟩ := Option.map_eq_some_iff.mp h1
      cases he
      rw [jx_VIR_eq hq, hn]
      obtain ⟨vs, v1, v2, v3, v4, rfl⟩ := jx_up_ok h3
      exact va_zast (x := n) (f := fun i => jx_iv (vs.getD i .null)) hx hb hK.1 hP hDw hS (q.2.2.1 - 3) 3 (jx_cell v1 v4) rfl v2 hd (fun H1 locs1 hP1 _ hS1 => set_cs v1 (by simp [jx_c1]) (k H1 locs1 (jx_P.put v4 (by rw [jx_upI _ _ _ (Or.inr (Or.inr rfl)) v3]; exact hP1)) hS1))
    · cases h1
  | dastore =>
    obtain ⟨q, hq, h1⟩ := Option.bind_eq_some_iff.mp (show Option.bind _ _ = _ from hB)
    split at h1
    · rename_i n hn
      obtain ⟨h2, h3, he⟩ := Option.map_eq_some_iff.mp h1
      cases he
      rw [jx_VIR_eq hq, hn]
      obtain ⟨vs, v1, v2, v3, v4, rfl⟩ := jx_up_ok h3
      exact va_dast (x := n) (f := fun i => jx_dv (vs.getD i .null)) hx hb hK.1 hP hDw hS (q.2.2.1 - 3) 4 (jx_cell v1 v4) rfl v2 hd (fun H1 locs1 hP1 _ hS1 => set_cs v1 (by simp [jx_c1]) (k H1 locs1 (jx_P.put v4 (by rw [jx_upD _ _ v3]; exact hP1)) hS1))
    · cases h1
  | aastore =>
    obtain ⟨q, hq, h1⟩ := Option.bind_eq_some_iff.mp (show Option.bind _ _ = _ from hB)
    split at h1
    · rename_i hn
      obtain ⟨h2, h3, he⟩ := Option.map_eq_some_iff.mp h1
      cases he
      rw [jx_VIR_eq hq, hn]
      obtain ⟨vs, v1, v2, v3, v4, rfl⟩ := jx_up_ok h3
      exact va_astqN (f := fun i => jx_rv (jx_ad t base) (vs.getD i .null)) hx hb hK.1 hP hDw hS (q.2.2.1 - 3) 5 (jx_cell v1 v4) rfl v2 hd (fun H1 locs1 hP1 _ hS1 => set_cs v1 (by simp [jx_c1]) (k H1 locs1 (jx_P.put v4 (by rw [jx_upA _ _ _ v3]; exact hP1)) hS1))
    · rename_i v hn
      obtain ⟨ob, hob, h4⟩ := Option.bind_eq_some_iff.mp h1
      obtain ⟨cl, hcl, h5⟩ := Option.bind_eq_some_iff.mp h4
      split at h5
      · rename_i hk
        obtain ⟨h2, h3, he⟩ := Option.map_eq_some_iff.mp h5
        cases he
        rw [jx_VIR_eq hq, hn]
        obtain ⟨vs, v1, v2, v3, v4, rfl⟩ := jx_up_ok h3
        have hov := jx_cell (g := jx_ad t base) (t := t) (base := base) (dA := dA) (jx_ob_eq hob) (ho.big (jx_ob_eq hob))
        exact va_astqO (f := fun i => jx_rv (jx_ad t base) (vs.getD i .null)) hx hb hK.1 hP hDw hS (q.2.2.1 - 3) 5 (v - 3) ob.1 (jx_cell v1 v4) rfl (hK.2.2.1 _ hk) hov hcl v2 hd (fun H1 locs1 hP1 _ hS1 => set_cs v1 (by simp [jx_c1]) (k H1 locs1 (jx_P.put v4 (by rw [jx_upA _ _ _ v3]; exact hP1)) hS1))
      · cases h5
    · cases h1
  | arraylength =>
    obtain ⟨q, hq, h1⟩ := Option.bind_eq_some_iff.mp (show Option.bind _ _ = _ from hB)
    obtain ⟨⟨ty, vs⟩, hv, h2⟩ := Option.bind_eq_some_iff.mp h1
    have v1 := jx_ar_eq hv
    split at h2
    · rename_i h3
      split at h2
      · rename_i hty
        cases h2
        rw [jx_1R_eq hq]
        rcases Nat.lt_or_ge q.1 3 with h5 | h5
        · have h6 : ty = .int := h3.resolve_left (by omega)
          subst h6
          obtain ⟨e1, hT⟩ := outer h5 v1
          show W p l e R s m args below meth c H locs _ _ Q (F0 m pc ls (.ref (jx_ad t base q.1) :: q.2.map (jx_v (jx_ad t base))))
          rw [e1]
          exact va_tlen hx hb hT hS rfl hd (k H locs hP hS)
        · simp only [List.mem_cons, List.not_mem_nil, or_false] at hty
          rcases hty with rfl | rfl | rfl | rfl | rfl | rfl
          · exact va_alen hx hb hK.1 hP (q.1 - 3) 0 (jx_cell v1 h5) rfl rfl hd (k H locs hP hS)
          · exact va_alen hx hb hK.1 hP (q.1 - 3) 1 (jx_cell v1 h5) rfl rfl hd (k H locs hP hS)
          · exact va_alen hx hb hK.1 hP (q.1 - 3) 2 (jx_cell v1 h5) rfl rfl hd (k H locs hP hS)
          · exact va_alen hx hb hK.1 hP (q.1 - 3) 3 (jx_cell v1 h5) rfl rfl hd (k H locs hP hS)
          · exact va_alen hx hb hK.1 hP (q.1 - 3) 4 (jx_cell v1 h5) rfl rfl hd (k H locs hP hS)
          · exact va_alen hx hb hK.1 hP (q.1 - 3) 5 (jx_cell v1 h5) rfl rfl hd (k H locs hP hS)
      · cases h2
    · cases h2
  | new idx =>
    obtain ⟨C, hC, h1⟩ := Option.bind_eq_some_iff.mp (show Option.bind _ _ = _ from hB)
    obtain ⟨ci, hci, h2⟩ := Option.bind_eq_some_iff.mp h1
    obtain ⟨cl, hcl, h3⟩ := Option.bind_eq_some_iff.mp h2
    split at h3
    · rename_i hcC
      cases h3
      have hok := jx_cls hcl
      have hlen : (h ++ [(.inr (ci, (List.range cl.2.2).map fun k => defaultValue (jx_fty (cl.2.1 k).2.2.1)) : jx_C)]).length - n0 = h.length - n0 + 1 := by rw [List.length_append, List.length_singleton]; omega
      have hslo : jx_sz (h ++ [(.inr (ci, (List.range cl.2.2).map fun k => defaultValue (jx_fty (cl.2.1 k).2.2.1)) : jx_C)]) - z0 = jx_sz h - z0 + cl.2.2 := by rw [jx_sz_app]; simp only [jx_c1, List.length_map, List.length_range]; omega
      refine va_new (D := D) (ci := ci) (fs := ((List.range cl.2.2).map fun k => defaultValue (jx_fty (cl.2.1 k).2.2.1)).map (jx_v (jx_ad t base))) (C := cl.1) (T := cl.2.1) (N := cl.2.2) hx hb hts hok.1 (fun z => jx_fty (cl.2.1 z).2.2.1) hok.2.1 hown (by rw [hcC]; exact hts _ (jx_cn_ok hC)) (hts _ hok.2.2.2.1) (hts _ hok.2.2.2.2) hK.1 hP hDw hS hA hcl (fun j hj => ?_) (by omega) (by omega) hd (fun q H1 hP1 hD1 hS1 => ?_)
      · show defaultValue (jx_fty (cl.2.1 j).2.2.1) = List.getD _ j .null
        rw [List.getD_eq_getElem?_getD, List.getElem?_map, List.getElem?_map, List.getElem?_range hj]
        exact (jx_dflt _ _).symm
      · refine jx_size fun hz => ?_
        have hq := jx_fresh h3h hP1 hD1 (by omega)
        have w := k H1 locs (jx_P.push h3h hq hP1) hS1
        rw [hlen, hslo] at w
        rw [hq]
        exact w
    · cases h3
  | newarray at_ =>
    obtain ⟨q, hq, h1⟩ := Option.bind_eq_some_iff.mp (show Option.bind _ _ = _ from hB)
    obtain ⟨ty, hty, h2⟩ := Option.bind_eq_some_iff.mp h1
    split at h2
    · rename_i hn
      cases h2
      rw [jx_1I_eq hq]
      have hlen : (h ++ [(.inl (ty, List.replicate q.1.toNatClampNeg (defaultValue ty)) : jx_C)]).length - n0 = h.length - n0 + 1 := by rw [List.length_append, List.length_singleton]; omega
      have hslo : jx_sz (h ++ [(.inl (ty, List.replicate q.1.toNatClampNeg (defaultValue ty)) : jx_C)]) - z0 = jx_sz h - z0 + q.1.toNatClampNeg := by rw [jx_sz_app]; simp only [jx_c1, List.length_replicate]; omega
      have hcase : (ty = .int ∨ ty = .long ∨ ty = .char ∨ ty = .boolean ∨ ty = .double) ∧ newarray.typeOf at_ = ty ∧ (∃ j, (jx_tys dA)[j]? = some (dA ty, ty)) ∧ (Cond.arrayClass ty) ∈ jx_g ∧ componentBytes ty ≤ 8 := by
        cases at_ <;> cases hty
        · exact ⟨by simp, rfl, ⟨3, rfl⟩, jx_ac_z, by decide⟩
        · exact ⟨by simp, rfl, ⟨2, rfl⟩, jx_ac_c, by decide⟩
        · exact ⟨by simp, rfl, ⟨4, rfl⟩, jx_ac_d, by decide⟩
        · exact ⟨by simp, rfl, ⟨0, rfl⟩, jx_ac_i, by decide⟩
        · exact ⟨by simp, rfl, ⟨1, rfl⟩, jx_ac_l, by decide⟩
      obtain ⟨c1, c2, ⟨tj, c3⟩, c4, c5⟩ := hcase
      refine va_newa (a0 := jx_co (jx_ad t base) ty (List.replicate q.1.toNatClampNeg (defaultValue ty))) hx hb (by rw [c2]; exact hts _ c4) c2 hK.1 hP hDw hS hA (fun cA => jx_newco _ ty c1 _ cA) hn.1 rfl (Nat.le_trans (Nat.mul_le_mul hn.2 c5) (by decide)) (by omega) (by omega) hd (fun qa cA H1 hK1 hP1 hD1 hS1 => ?_)
      have hcA : cA = dA ty := jx_arrId c3 (fun C hC => by subst hC; simp at c1) hK.1 hK1
      subst hcA
      refine jx_size fun hz => ?_
      have hq2 := jx_fresh h3h hP1 hD1 (by omega)
      have w := k H1 locs (jx_P.push h3h hq2 hP1) hS1
      rw [hlen, hslo] at w
      rw [hq2]
      exact w
    · cases h2
  | anewarray idx =>
    obtain ⟨q, hq, h1⟩ := Option.bind_eq_some_iff.mp (show Option.bind _ _ = _ from hB)
    obtain ⟨C, hC, h2⟩ := Option.bind_eq_some_iff.mp h1
    split at h2
    · rename_i hn
      obtain ⟨rfl, hn1, hn2⟩ := hn
      cases h2
      rw [jx_1I_eq hq]
      have hlen : (h ++ [(.inl (.object "RaceHouse$Thing", List.replicate q.1.toNatClampNeg .null) : jx_C)]).length - n0 = h.length - n0 + 1 := by rw [List.length_append, List.length_singleton]; omega
      have hslo : jx_sz (h ++ [(.inl (.object "RaceHouse$Thing", List.replicate q.1.toNatClampNeg .null) : jx_C)]) - z0 = jx_sz h - z0 + q.1.toNatClampNeg := by rw [jx_sz_app]; simp only [jx_c1, List.length_replicate]; omega
      have e1 : (fun _ : Nat => (none : Option Nat)) = fun i => jx_rv (jx_ad t base) ((List.replicate q.1.toNatClampNeg Value.null).getD i .null) := by
        funext j; rw [jx_rep_getD]; split <;> rfl
      refine va_newq hx hb hown (hts _ (jx_cn_ok hC)) hK.2.2.2.2.1 hK.1 hP hDw hS hA hn1 rfl (Nat.le_trans (Nat.mul_le_mul_right 4 hn2) (by decide)) (by omega) (by omega) hd (fun qa cA H1 hK1 hP1 hD1 hS1 => ?_)
      have hcA : cA = dA (.object "RaceHouse$Thing") := jx_arrIdO (k := 5) rfl hK.1 hK1
      subst hcA
      have e2 : jx_e (jx_ad t base) dA (.inl (.object "RaceHouse$Thing", List.replicate q.1.toNatClampNeg .null)) = .inl (dA (.object "RaceHouse$Thing"), q.1.toNatClampNeg, .inr (.inr (.inr (.inr (fun _ => none))))) := by
        show Sum.inl (dA _, (List.replicate q.1.toNatClampNeg Value.null).length, Sum.inr (Sum.inr (Sum.inr (Sum.inr (fun i => jx_rv (jx_ad t base) ((List.replicate q.1.toNatClampNeg Value.null).getD i .null)))))) = _
        rw [← e1, List.length_replicate]
      rw [← e2] at hP1 hD1
      refine jx_size fun hz => ?_
      have hq2 := jx_fresh h3h hP1 hD1 (by omega)
      have w := k H1 locs (jx_P.push h3h hq2 hP1) hS1
      rw [hlen, hslo] at w
      rw [hq2]
      exact w
    · cases h2
  | checkcast idx =>
    obtain ⟨q, hq, h1⟩ := Option.bind_eq_some_iff.mp (show Option.bind _ _ = _ from hB)
    obtain ⟨ao, r⟩ := q
    cases ao with
    | none =>
      cases h1
      rw [jx_1O_eq hq]
      exact lv_castN hx hb hd (k H locs hP hS)
    | some a =>
      obtain ⟨ob, hob, h4⟩ := Option.bind_eq_some_iff.mp (show Option.bind _ _ = _ from h1)
      obtain ⟨cl, hcl, h5⟩ := Option.bind_eq_some_iff.mp h4
      obtain ⟨C, hC, h6⟩ := Option.bind_eq_some_iff.mp h5
      split at h6
      · rename_i hk
        cases h6
        rw [jx_1O_eq hq]
        have hov := jx_cell (g := jx_ad t base) (t := t) (base := base) (dA := dA) (jx_ob_eq hob) (ho.big (jx_ob_eq hob))
        exact va_castY hx hb hown (hts _ (jx_cn_ok hC)) (hK.2.2.1 _ hk) (va_recv hK.1 hP hcl hov) hd (k H locs hP hS)
      · cases h6
  | instanceof idx =>
    obtain ⟨q, hq, h1⟩ := Option.bind_eq_some_iff.mp (show Option.bind _ _ = _ from hB)
    obtain ⟨ao, r⟩ := q
    cases ao with
    | none =>
      cases h1
      rw [jx_1O_eq hq]
      exact lv_instN hx hb hd (k H locs hP hS)
    | some a =>
      obtain ⟨ob, hob, h4⟩ := Option.bind_eq_some_iff.mp (show Option.bind _ _ = _ from h1)
      obtain ⟨cl, hcl, h5⟩ := Option.bind_eq_some_iff.mp h4
      obtain ⟨C, hC, h6⟩ := Option.bind_eq_some_iff.mp h5
      have hov := jx_cell (g := jx_ad t base) (t := t) (base := base) (dA := dA) (jx_ob_eq hob) (ho.big (jx_ob_eq hob))
      split at h6
      · rename_i hk
        cases h6
        rw [jx_1O_eq hq]
        exact va_instY hx hb hown (hts _ (jx_cn_ok hC)) (hK.2.2.1 _ hk) (va_recv hK.1 hP hcl hov) hd (k H locs hP hS)
      · split at h6
        · rename_i hk
          cases h6
          rw [jx_1O_eq hq]
          exact va_instNo hx hb hown (hts _ (jx_cn_ok hC)) (hK.2.2.2.1 _ hk) (va_recv hK.1 hP hcl hov) hd (k H locs hP hS)
        · cases h6
  | getstatic idx =>
    obtain ⟨q, hq, h1⟩ := Option.bind_eq_some_iff.mp (show Option.bind _ _ = _ from hB)
    split at h1
    · rename_i hqe
      subst hqe
      cases h1
      exact va_gets hx hb hK.2.2.2.2.2.2.1 hS hown (hts _ (jx_wl_ok hq)) (fun _ z => z) hd (k H locs hP hS)
    · split at h1
      · rename_i hqe
        subst hqe
        cases h1
        exact va_gets hx hb hK.2.2.2.2.2.2.2.1 hS hown (hts _ (jx_wl_ok hq)) (fun _ z => z) hd (k H locs hP hS)
      · cases h1
  | ldc idx =>
    obtain ⟨v, hv, he⟩ := Option.map_eq_some_iff.mp (show Option.map _ _ = _ from hB)
    cases he
    exact lv_ldc hx hb hown (hts _ (jx_kI_ok hv)) hd (k H locs hP hS)
  | ldc_w idx =>
    obtain ⟨v, hv, he⟩ := Option.map_eq_some_iff.mp (show Option.map _ _ = _ from hB)
    cases he
    exact lv_ldcw hx hb hown (hts _ (jx_kI_ok hv)) hd (k H locs hP hS)
  | ldc2_w idx =>
    simp only [jx_B] at hB
    split at hB
    · rename_i v hv
      cases hB
      exact lv_ldc2 hx hb hown (hts _ (jx_kL_ok hv)) hd (k H locs hP hS)
    · obtain ⟨v, hv, he⟩ := Option.map_eq_some_iff.mp hB
      cases he
      exact lv_ldc2d hx hb hown (hts _ (jx_kD_ok hv)) hd (k H locs hP hS)
  | _ => exact Option.noConfusion (show (none : Option (List Value × List jx_C)) = some (st', h') from hB)
end JXB
