/-! THE RUN IS SOUND: by the number of its steps -/
theorem jx_cpl_getD (v0 v1 : List Value) {sp dp n : Nat} (h5 : dp + n ≤ v1.length) (k : Nat) : (jx_cpl v0 v1 sp dp n).getD k .null = if dp ≤ k ∧ k < dp + n then v0.getD (sp + (k - dp)) .null else v1.getD k .null := by
  unfold jx_cpl
  rw [List.getD_eq_getElem?_getD, List.getElem?_map]
  by_cases hk : k < v1.length
  · rw [List.getElem?_range hk]; rfl
  · have e1 : (List.range v1.length)[k]? = none := by rw [List.getElem?_eq_none_iff]; simp; omega
    rw [e1, if_neg (by omega), List.getD_eq_getElem?_getD, List.getElem?_eq_none_iff.mpr (by omega)]
    rfl
theorem jx_cplI (g : Nat → Nat) (dA : FieldType → ClassId) {v0 v1 : List Value} {sp dp n : Nat} (h5 : dp + n ≤ v1.length) : jx_e g dA (.inl (.int, jx_cpl v0 v1 sp dp n)) = .inl (dA .int, v1.length, .inl (va_cpy (fun j => jx_iv (v0.getD j .null)) (fun j => jx_iv (v1.getD j .null)) sp dp n)) := by
  have e : (fun j => jx_iv ((jx_cpl v0 v1 sp dp n).getD j .null)) = va_cpy (fun j => jx_iv (v0.getD j .null)) (fun j => jx_iv (v1.getD j .null)) sp dp n := by
    funext j
    rw [jx_cpl_getD v0 v1 h5]
    unfold va_cpy
    split <;> rfl
  show Sum.inl (dA _, (jx_cpl v0 v1 sp dp n).length, Sum.inl (fun j => jx_iv ((jx_cpl v0 v1 sp dp n).getD j .null))) = _
  rw [e, show (jx_cpl v0 v1 sp dp n).length = v1.length by simp [jx_cpl]]
theorem jx_cplL (g : Nat → Nat) (dA : FieldType → ClassId) {v0 v1 : List Value} {sp dp n : Nat} (h5 : dp + n ≤ v1.length) : jx_e g dA (.inl (.long, jx_cpl v0 v1 sp dp n)) = .inl (dA .long, v1.length, .inr (.inl (va_cpy (fun j => jx_lv (v0.getD j .null)) (fun j => jx_lv (v1.getD j .null)) sp dp n))) := by
  have e : (fun j => jx_lv ((jx_cpl v0 v1 sp dp n).getD j .null)) = va_cpy (fun j => jx_lv (v0.getD j .null)) (fun j => jx_lv (v1.getD j .null)) sp dp n := by
    funext j
    rw [jx_cpl_getD v0 v1 h5]
    unfold va_cpy
    split <;> rfl
  show Sum.inl (dA _, (jx_cpl v0 v1 sp dp n).length, Sum.inr (Sum.inl (fun j => jx_lv ((jx_cpl v0 v1 sp dp n).getD j .null)))) = _
  rw [e, show (jx_cpl v0 v1 sp dp n).length = v1.length by simp [jx_cpl]]
theorem jx_w_objInit : Cond.instanceMethod objectInit ∈ jx_g ∧ Cond.code objectInit ⟨#[0xb1]⟩ 1 none ∈ jx_g := ⟨jx_g_of (by decide +kernel) (by decide +kernel), jx_g_of (by decide +kernel) (by decide +kernel)⟩
theorem jx_w_copy : Cond.native arraycopyName ∈ jx_g ∧ Cond.static arraycopyName ∈ jx_g ∧ Cond.initialized "java/lang/System" ∈ jx_g := ⟨jx_g_of (by decide +kernel) (by decide +kernel), jx_g_of (by decide +kernel) (by decide +kernel), jx_g_of (by decide +kernel) (by decide +kernel)⟩
theorem jx_w_l2d : Cond.native ⟨"java/lang/Double", "longBitsToDouble", "(J)D"⟩ ∈ jx_g ∧ Cond.static ⟨"java/lang/Double", "longBitsToDouble", "(J)D"⟩ ∈ jx_g ∧ Cond.initialized "java/lang/Double" ∈ jx_g := ⟨jx_g_of (by decide +kernel) (by decide +kernel), jx_g_of (by decide +kernel) (by decide +kernel), jx_g_of (by decide +kernel) (by decide +kernel)⟩
theorem jx_w_d2l : Cond.native ⟨"java/lang/Double", "doubleToRawLongBits", "(D)J"⟩ ∈ jx_g ∧ Cond.static ⟨"java/lang/Double", "doubleToRawLongBits", "(D)J"⟩ ∈ jx_g := ⟨jx_g_of (by decide +kernel) (by decide +kernel), jx_g_of (by decide +kernel) (by decide +kernel)⟩
theorem jx_ad_inj {t : Nat → Nat} {base a b : Nat} (ha : 3 ≤ a) (hb : 3 ≤ b) (h : jx_ad t base a = jx_ad t base b) : a = b := by
  rw [jx_ad_big ha, jx_ad_big hb] at h; omega
/-- null or an address, as the kit has it -/
theorem jx_rf_va (g : Nat → Nat) (o : Option Nat) : jx_v g (jx_rf o) = va_rf (o.map g) := by cases o <;> rfl
theorem jx_far_eq {t : Nat → Nat} {base : Nat} {a b : Option Nat} (ha : jx_far a = true) (hb : jx_far b = true) : a.map (jx_ad t base) = b.map (jx_ad t base) ↔ a = b := by
  cases a with
  | none => cases b <;> simp
  | some a =>
    cases b with
    | none => simp
    | some b =>
      simp only [jx_far, decide_eq_true_eq] at ha hb
      simp only [Option.map_some, Option.some.injEq]
      exact ⟨jx_ad_inj ha hb, fun q => by rw [q]⟩
section JXN
variable {p : Program} {l : Launch} {e : Env} {R : Room} {s : State} {m : MethodId} {args : Array Value} {below : List Frame} {meth : Method} {c : Code} {H : Heap} {locs : List Loc} {cells slots : Nat} {Q : State → Prop} {cc : ByteArray} {pc : Nat} {ls : Array Slot}
variable {D : va_G} {dA : FieldType → ClassId} {t : Nat → Nat} {base : Nat} {o : List (List Value)} {y : MethodName} {h h' : List jx_C} {st st' : List Value} {n0 z0 : Nat}
theorem jx_Q_ok (hx : p.tables.exec = Jvm.exec) (hb : c.code = cc) {i : Instr} {u : Nat} (hd : decode cc pc = .ok (i, jx_len i)) (hq : jx_Q pc i st = some (u, st'))
    (k : W p l e R s m args below meth c H locs cells slots Q (F0 m u ls (st'.map (jx_v (jx_ad t base))))) : W p l e R s m args below meth c H locs cells slots Q (F0 m pc ls (st.map (jx_v (jx_ad t base)))) := by
  cases i with
  | if_acmp cd off =>
    cases cd with
    | eq =>
      obtain ⟨q, hq1, h1⟩ := Option.bind_eq_some_iff.mp (show Option.bind _ _ = _ from hq)
      obtain ⟨u2, h2, h3⟩ := Option.bind_eq_some_iff.mp h1
      split at h3
      · rename_i hf
        cases h3
        rw [jx_2O_eq hq1]
        show W p l e R s m args below meth c H locs cells slots Q (F0 m pc ls (jx_v (jx_ad t base) (jx_rf q.2.1) :: jx_v (jx_ad t base) (jx_rf q.1) :: q.2.2.map (jx_v (jx_ad t base))))
        rw [jx_rf_va, jx_rf_va]
        exact lv_acmp_eq hx hb hd (jx_j_ok h2) (fun hc => by rw [if_pos ((jx_far_eq hf.1 hf.2).mp hc)] at k; exact k) (fun hc => by rw [if_neg (fun z => hc ((jx_far_eq hf.1 hf.2).mpr z))] at k; exact k)
      · cases h3
    | ne =>
      obtain ⟨q, hq1, h1⟩ := Option.bind_eq_some_iff.mp (show Option.bind _ _ = _ from hq)
      obtain ⟨u2, h2, h3⟩ := Option.bind_eq_some_iff.mp h1
      split at h3
      · rename_i hf
        cases h3
        rw [jx_2O_eq hq1]
        show W p l e R s m args below meth c H locs cells slots Q (F0 m pc ls (jx_v (jx_ad t base) (jx_rf q.2.1) :: jx_v (jx_ad t base) (jx_rf q.1) :: q.2.2.map (jx_v (jx_ad t base))))
        rw [jx_rf_va, jx_rf_va]
        exact lv_acmp_ne hx hb hd (jx_j_ok h2) (fun hc => by rw [if_neg (fun z => hc ((jx_far_eq hf.1 hf.2).mpr z))] at k; exact k) (fun hc => by rw [if_pos ((jx_far_eq hf.1 hf.2).mp hc)] at k; exact k)
      · cases h3
  | _ => exact Option.noConfusion (show (none : Option (Nat × List Value)) = some (u, st') from hq)
theorem jx_N_ok (hx : p.tables.exec = Jvm.exec) (hb : c.code = cc) (hml : c.maxLocals = ls.size) (hown : s.vm.findClass y.cls = some m.cls) (hts : ∀ w ∈ jx_g, w.before args s = true) (hK : jx_K D dA t base o s) (hP : jx_P D dA t base h H) (hS : va_S (fun q => base ≤ q) s.heap H locs) (hRf : 1 ≤ R.frames) (hRl : 42 ≤ R.locals) {i : Instr} (hd : decode cc pc = .ok (i, jx_len i)) (hN : jx_N y.cls i st h = some (st', h'))
    (k : ∀ (H1 : Heap) (locs1 : List Loc), jx_P D dA t base h' H1 → va_S (fun q => base ≤ q) s.heap H1 locs1 → W p l e R s m args below meth c H1 locs1 (h'.length - n0) (jx_sz h' - z0) Q (F0 m (pc + 3) ls (st'.map (jx_v (jx_ad t base))))) :
    W p l e R s m args below meth c H locs (h.length - n0) (jx_sz h - z0) Q (F0 m pc ls (st.map (jx_v (jx_ad t base)))) := by
  have hDw := jx_w_D (jx_ad t base) dA base (h.drop 3)
  have cat8 : ∀ {r : List Value}, jx_cats r ≤ 8 → ((r.map (jx_v (jx_ad t base))).map fun v => v.category).sum ≤ 8 := fun hr => by rw [jx_v_cats]; exact hr
  have set_cs : ∀ {a : Nat} {cn d : jx_C} {H1 : Heap} {locs1 : List Loc} {f : JFrame}, h[a]? = some d → jx_c1 cn = jx_c1 d → W p l e R s m args below meth c H1 locs1 ((h.set a cn).length - n0) (jx_sz (h.set a cn) - z0) Q f → W p l e R s m args below meth c H1 locs1 (h.length - n0) (jx_sz h - z0) Q f := by
    intro a cn d H1 locs1 f h1 h2 w
    rw [jx_sz_set h a cn d h1 h2, List.length_set] at w
    exact w
  have hw7 : nativeFrameWords "java/lang/System" "arraycopy" 5 = 7 := by decide
  cases i with
  | invokespecial idx =>
    obtain ⟨z, hz, h1⟩ := Option.bind_eq_some_iff.mp (show Option.bind _ _ = _ from hN)
    obtain ⟨q, hq, h2⟩ := Option.bind_eq_some_iff.mp h1
    split at h2
    · rename_i hc
      obtain ⟨rfl, hc2⟩ := hc
      cases h2
      rw [jx_1R_eq hq]
      have h8 := cat8 hc2
      exact W.objInit hx hb hown (hts _ (jx_ml_ok hz)) (hts _ jx_w_objInit.1) (hts _ jx_w_objInit.2) rfl hml.symm rfl hd hRf (by show 2 * 0 + _ + 12 ≤ _; omega) (k H locs hP hS)
    · cases h2
  | invokestatic idx =>
    obtain ⟨z, hz, h1⟩ := Option.bind_eq_some_iff.mp (show Option.bind _ _ = _ from hN)
    split at h1
    · rename_i hc
      subst hc
      obtain ⟨q, hq, h2⟩ := Option.bind_eq_some_iff.mp h1
      split at h2
      · rename_i hc
        cases h2
        rw [jx_1L_eq hq]
        have h8 := cat8 hc.2
        exact vn_l2d hx hb hml hown (hts _ (jx_ml_ok hz)) (hts _ jx_w_l2d.1) (hts _ jx_w_l2d.2.1) (hts _ jx_w_l2d.2.2) hc.1 hRf (by omega) hd (k H locs hP hS)
      · cases h2
    · split at h1
      · rename_i hc
        subst hc
        obtain ⟨q, hq, h2⟩ := Option.bind_eq_some_iff.mp h1
        split at h2
        · rename_i hc
          cases h2
          rw [jx_1D_eq hq]
          have h8 := cat8 hc
          exact vn_d2l hx hb hml hown (hts _ (jx_ml_ok hz)) (hts _ jx_w_d2l.1) (hts _ jx_w_d2l.2) (hts _ jx_w_l2d.2.2) hRf (by omega) hd (k H locs hP hS)
        · cases h2
      · split at h1
        · rename_i hc
          subst hc
          obtain ⟨q, hq, h2⟩ := Option.bind_eq_some_iff.mp h1
          split at h2
          · rename_i hc
            have h8 := cat8 hc
            split at h2
            · rename_i h9 hcp
              cases h2
              rw [jx_5_eq hq]
              obtain ⟨v0, v1, g1, g2, g3, g4, g5, g6, g7, g8, g9, rfl⟩ := jx_cp_ok hcp
              exact va_copyi (f := fun j => jx_iv (v0.getD j .null)) (g := fun j => jx_iv (v1.getD j .null)) hx hb hml hown (hts _ (jx_ml_ok hz)) (hts _ jx_w_copy.1) (hts _ jx_w_copy.2.1) (hts _ jx_w_copy.2.2) hK.1 hP hDw hS (q.2.2.2.2.1 - 3) (q.2.2.1 - 3) 0 0 (jx_cell g1 g8) (jx_cell g2 g9) rfl rfl rfl g3 g4 g5 g6 g7 (fun _ _ => rfl) hRf (by rw [hw7]; omega) hd (fun H1 locs1 hP1 _ hS1 => set_cs g2 (by simp [jx_c1, jx_cpl]) (k H1 locs1 (jx_P.put g9 (by rw [jx_cplI _ _ g7]; exact hP1)) hS1))
            · obtain ⟨h9, hcp, he⟩ := Option.map_eq_some_iff.mp h2
              cases he
              rw [jx_5_eq hq]
              obtain ⟨v0, v1, g1, g2, g3, g4, g5, g6, g7, g8, g9, rfl⟩ := jx_cp_ok hcp
              exact va_copyl (f := fun j => jx_lv (v0.getD j .null)) (g := fun j => jx_lv (v1.getD j .null)) hx hb hml hown (hts _ (jx_ml_ok hz)) (hts _ jx_w_copy.1) (hts _ jx_w_copy.2.1) (hts _ jx_w_copy.2.2) hK.1 hP hDw hS (q.2.2.2.2.1 - 3) (q.2.2.1 - 3) 1 1 (jx_cell g1 g8) (jx_cell g2 g9) rfl rfl rfl g3 g4 g5 g6 g7 (fun _ _ => rfl) hRf (by rw [hw7]; omega) hd (fun H1 locs1 hP1 _ hS1 => set_cs g2 (by simp [jx_c1, jx_cpl]) (k H1 locs1 (jx_P.put g9 (by rw [jx_cplL _ _ g7]; exact hP1)) hS1))
          · cases h2
        · cases h1
  | _ => exact Option.noConfusion (show (none : Option (List Value × List jx_C)) = some (st', h') from hN)
end JXN
theorem jx_tgt_ok {own : String} {idx : Nat} {y : MethodName} (h : jx_tgt own idx = some y) : Cond.methodLink own idx y ∈ jx_g ∨ ∃ host, (own, idx, y, host) ∈ jx_nm := by
  unfold jx_tgt at h
  split at h
  · rename_i hz
    cases h; exact Or.inl (jx_ml_ok hz)
  · obtain ⟨q, hq, he⟩ := Option.map_eq_some_iff.mp h
    cases he
    exact Or.inr ⟨q.2, jx_mx_ok hq⟩
theorem jx_good_ws {ws : List Cond} (h : ∀ w ∈ ws, w ∈ jx_g) : GoodIn jx_g ws := jx_good_in h
theorem jx_np_ok {y : MethodName} {n : Nat} (h : jx_np y = some n) : (parseMethodDescriptor y.desc).map (fun d => d.parameters.length) = some n := h
set_option maxHeartbeats 4000000 in
theorem jx_good (l : Launch) (D : va_G) (dA : FieldType → ClassId) (t : Nat → Nat) (base : Nat) (o : List (List Value)) : ∀ n, jx_Good l D dA t base o n := by
  intro n
  induction n with
  | zero =>
    intro d M pc lo st h r h' hr
    cases hr
  | succ n ih =>
    intro d M pc lo st h r h' hr p e R s m args below meth c H locs Q ls n0 z0 hx hb hml hown hts hmn hK hP ho hS hbs hn0 hz0 h3n hn3 hl hRf hRl hrc hrs kend
    have go : ∀ (d2 pc2 : Nat) (lo2 : jx_L) (st2 : List Value) (h2 : List jx_C) (H2 : Heap) (locs2 : List Loc) (ls2 : Array Slot), d2 ≤ R.frames → 42 * d2 ≤ R.locals → jx_run n d2 M pc2 lo2 st2 h2 = some (r, h') → jx_P D dA t base h2 H2 → jx_o3 o h2 → va_S (fun q => base ≤ q) s.heap H2 locs2 → n0 ≤ h2.length → z0 ≤ jx_sz h2 → lv_has ls2 M.2.2.1 (jx_p (jx_ad t base) lo2) → W p l e R s m args below meth c H2 locs2 (h2.length - n0) (jx_sz h2 - z0) Q (F0 m pc2 ls2 (st2.map (jx_v (jx_ad t base)))) :=
      fun d2 pc2 lo2 st2 h2 H2 locs2 ls2 r1 r2 hr2 hP2 ho2 hS2 hn2 hz2 hl2 => ih d2 M pc2 lo2 st2 h2 r h' hr2 p e R s m args below meth c H2 locs2 Q ls2 n0 z0 hx hb hml hown hts hmn hK hP2 ho2 hS2 hbs hn2 hz2 h3n hn3 hl2 r1 r2 hrc hrs kend
    unfold jx_run at hr
    split at hr
    · cases hr
    · rename_i i len hdec
      split at hr
      · rename_i q hq
        exact jx_W_ok hx hb hdec hq (go d q.1 lo q.2 h H locs ls hRf hRl hr hP ho hS hn0 hz0 hl)
      · split at hr
        · rename_i hlen
          subst hlen
          split at hr
          · rename_i q hq
            have hmo := jx_step_mono ho hq
            unfold jx_step at hq
            split at hq
            · rename_i st' h1
              cases hq
              exact jx_S_ok hx hb hdec h1 (go d _ lo st' h H locs ls hRf hRl hr hP ho hS hn0 hz0 hl)
            · split at hq
              · rename_i q1 h1
                cases hq
                exact jx_Lo_ok hx hb hdec (lo' := q1.1) (st' := q1.2) h1 hl (fun ls' hl' => go d _ q1.1 q1.2 h H locs ls' hRf hRl hr hP ho hS hn0 hz0 hl')
              · split at hq
                · rename_i q1 h1
                  cases hq
                  exact jx_J_ok hx hb hdec (t := q1.1) (st' := q1.2) h1 (go d q1.1 lo q1.2 h H locs ls hRf hRl hr hP ho hS hn0 hz0 hl)
                · split at hq
                  · rename_i q1 h1
                    cases hq
                    exact jx_Q_ok hx hb hdec (u := q1.1) (st' := q1.2) h1 (go d q1.1 lo q1.2 h H locs ls hRf hRl hr hP ho hS hn0 hz0 hl)
                  · obtain ⟨q1, h1, he⟩ := Option.map_eq_some_iff.mp hq
                    cases he
                    have hend := jx_run_mono (o := o) _ _ _ _ _ _ _ _ hmo.1 hr
                    exact jx_B_ok hx hb hown hts hmn hK hP ho hS hbs hn0 hz0 h3n hn3 hdec (st' := q1.1) (h' := q1.2) h1 (by have := hend.2.1; dsimp only at this; omega) (by have := hend.2.2; dsimp only at this; omega) (fun H1 locs1 hP1 hS1 => go d _ lo q1.1 q1.2 H1 locs1 ls hRf hRl hr hP1 hmo.1 hS1 (Nat.le_trans hn0 hmo.2.1) (Nat.le_trans hz0 hmo.2.2) hl)
          · split at hr
            · rename_i r1 h1
              cases hr
              have hlen1 : jx_len i = 1 := by
                cases i <;> first | rfl | exact Option.noConfusion (show (none : Option (Option Value)) = some r from h1)
              rw [hlen1] at hdec
              exact kend pc i ls st H locs hdec h1 hP hS
            · split at hr
              · cases hr
              · rename_i d' _
                split at hr
                · rename_i q hq
                  have hmo := jx_N_mono (o := o) (st' := q.1) (h' := q.2) ho hq
                  exact jx_N_ok (o := o) (y := M.1) hx hb (hml.trans hl.1.symm) hown hts hK hP hS (by omega) (by omega) hdec (st' := q.1) (h' := q.2) hq (fun H1 locs1 hP1 hS1 => go (d' + 1) _ lo q.1 q.2 H1 locs1 ls hRf hRl hr hP1 hmo.1 hS1 (Nat.le_trans hn0 hmo.2.1) (Nat.le_trans hz0 hmo.2.2) hl)
                · split at hr
                  · rename_i q hq
                    split at hr
                    · rename_i z hz
                      obtain ⟨M', as, rest⟩ := q
                      obtain ⟨r1, h1⟩ := z
                      dsimp only at hr hz
                      have hmo := jx_run_mono (o := o) _ _ _ _ _ _ _ _ ho hz
                      dsimp only at hmo
                      have hend := jx_run_mono (o := o) _ _ _ _ _ _ _ _ hmo.1 hr
                      dsimp only at hend
                      have m1 := hmo.2.1
                      have m2 := hmo.2.2
                      have m3 := hend.2.1
                      have m4 := hend.2.2
                      have cont : ∀ (H1 : Heap) (locs1 : List Loc), jx_P D dA t base h1 H1 → va_S (fun q => base ≤ q) s.heap H1 locs1 → W p l e R s m args below meth c H1 locs1 (h.length - n0 + (h1.length - h.length)) (jx_sz h - z0 + (jx_sz h1 - jx_sz h)) Q (F0 m (pc + 3) ls ((r1.map (jx_v (jx_ad t base))).toList ++ rest.map (jx_v (jx_ad t base)))) := by
                        intro H1 locs1 hP1 hS1
                        have w := go (d' + 1) (pc + 3) lo (r1.toList ++ rest) h1 H1 locs1 ls hRf hRl hr hP1 hmo.1 hS1 (by omega) (by omega) hl
                        rw [show (r1.toList ++ rest).map (jx_v (jx_ad t base)) = (r1.map (jx_v (jx_ad t base))).toList ++ rest.map (jx_v (jx_ad t base)) by cases r1 <;> simp] at w
                        exact W.cs (by omega) (by omega) w
                      have hsz : ∀ U : State, U.heap = H → H.size ≤ s.heap.size + (h.length - n0) → U.heap.size = base + (h.length - 3) := by
                        intro U hU hle
                        rw [hU]
                        have h3 := ho.len
                        have hge : base + (h.length - 3) ≤ H.size := by
                          rcases Nat.lt_or_ge 3 h.length with h4 | h4
                          · have h5 : h.length - 4 < (h.drop 3).length := by simp; omega
                            have h6 := hP _ _ (jx_w_get (g := jx_ad t base) (dA := dA) (a := base) (List.getElem?_eq_getElem h5))
                            have h7 := h6.lt
                            dsimp only at h7
                            omega
                          · have := hS.1
                            omega
                        omega
                      have pre : H.size ≤ s.heap.size + (h.length - n0) → ∀ U : State, U.heap = H → s.WarmedH U.vm → jx_U D dA t base o h U := fun hle U hU hW => ⟨hK.moved hW (fun a h1 h2 => by rw [hU]; exact hS.2.1 a h1 h2), ho, by rw [hU]; exact hP, hsz U hU hle⟩
                      refine jx_size fun hle => ?_
                      cases i with
                      | invokestatic idx =>
                        obtain ⟨y, hy, g1⟩ := Option.bind_eq_some_iff.mp (show Option.bind _ _ = _ from hq)
                        obtain ⟨M2, hM2, g2⟩ := Option.bind_eq_some_iff.mp g1
                        obtain ⟨k, hk, g3⟩ := Option.bind_eq_some_iff.mp g2
                        split at g3
                        · rename_i hc
                          cases g3
                          obtain ⟨⟨c1, c2, c3, c4, c5⟩, c6, c7, c8, c9⟩ := hc
                          obtain ⟨rfl, hcode⟩ := jx_find_ok hM2
                          have hM := jx_met ih hz c1 c9
                          have hwords : ∀ w ∈ Cond.code M'.1 M'.2.1 M'.2.2.1 M'.2.2.2 :: jx_g, w ∈ jx_g := fun w hw => by
                            rcases List.mem_cons.mp hw with rfl | hw
                            · exact hcode
                            · exact hw
                          have hstack : st.map (jx_v (jx_ad t base)) = (((st.take k).reverse).map (jx_v (jx_ad t base))).reverse ++ (st.drop k).map (jx_v (jx_ad t base)) := by
                            rw [← List.map_reverse, List.reverse_reverse, ← List.map_append, List.take_append_drop]
                          have hlk : (((st.take k).reverse).map (jx_v (jx_ad t base))).length = k := by simp; omega
                          have h8 : (((st.drop k).map (jx_v (jx_ad t base))).map fun v => v.category).sum ≤ 8 := by rw [jx_v_cats]; exact c8
                          rcases jx_tgt_ok hy with hlink | ⟨host, hlink⟩
                          · exact jx_callW (va_runS (As := ((st.take k).reverse).map (jx_v (jx_ad t base))) (rest := (st.drop k).map (jx_v (jx_ad t base))) ⟨hx, hb, hml, hown, hts⟩ hM ⟨callB_of k hts (jx_good_ws hwords) rfl rfl rfl (hts _ c4) (hts _ hlink) ⟨c2, c3, jx_np_ok hk⟩ ⟨by show d' + 1 ≤ _; omega, by show 8 + (_ + 11) + 42 * d' ≤ _; omega⟩, hts _ c6⟩ ⟨jx_blind, fun U hU hW => ⟨rfl, pre hle U hU hW⟩⟩ rfl hlk hl.1 hstack (lv_room h8) hdec ⟨by omega, by omega⟩) hS cont
                          · exact jx_callW (va_runSN (As := ((st.take k).reverse).map (jx_v (jx_ad t base))) (rest := (st.drop k).map (jx_v (jx_ad t base))) ⟨hx, hb, hml, hown, hts⟩ hM ⟨va_cnB k hts (jx_good_ws hwords) rfl rfl rfl (hK.2.1 _ hlink) (hts _ c4) ⟨c2, c3, jx_np_ok hk⟩ ⟨by show d' + 1 ≤ _; omega, by show 8 + (_ + 11) + 42 * d' ≤ _; omega⟩, hts _ c6, trivial⟩ ⟨jx_blind, fun U hU hW => ⟨rfl, pre hle U hU hW⟩⟩ rfl hlk hl.1 hstack (lv_room h8) hdec ⟨by omega, by omega⟩) hS cont
                        · cases g3
                      | invokespecial idx =>
                        obtain ⟨y, hy, g1⟩ := Option.bind_eq_some_iff.mp (show Option.bind _ _ = _ from hq)
                        obtain ⟨M2, hM2, g2⟩ := Option.bind_eq_some_iff.mp g1
                        obtain ⟨k, hk, g3⟩ := Option.bind_eq_some_iff.mp g2
                        obtain ⟨q, hq1, g4⟩ := Option.bind_eq_some_iff.mp g3
                        split at g4
                        · rename_i hc
                          cases g4
                          obtain ⟨⟨c1, c2, c3, c4, c5⟩, c6, c7, c8, c9, c10⟩ := hc
                          obtain ⟨rfl, hcode⟩ := jx_find_ok hM2
                          have hM := jx_met ih hz c1 c10
                          have hwords : ∀ w ∈ Cond.code M'.1 M'.2.1 M'.2.2.1 M'.2.2.2 :: jx_g, w ∈ jx_g := fun w hw => by
                            rcases List.mem_cons.mp hw with rfl | hw
                            · exact hcode
                            · exact hw
                          have hdr := jx_1R_eq hq1
                          have hkl : k < st.length := by
                            rcases Nat.lt_or_ge k st.length with z | z
                            · exact z
                            · rw [List.drop_eq_nil_of_le z] at hdr; cases hdr
                          have hstack : st.map (jx_v (jx_ad t base)) = (((st.take k).reverse).map (jx_v (jx_ad t base))).reverse ++ .ref (jx_ad t base q.1) :: q.2.map (jx_v (jx_ad t base)) := by
                            rw [← List.map_reverse, List.reverse_reverse, show Value.ref (jx_ad t base q.1) :: q.2.map (jx_v (jx_ad t base)) = (Value.ref q.1 :: q.2).map (jx_v (jx_ad t base)) from rfl, ← hdr, ← List.map_append, List.take_append_drop]
                          have hlk : (((st.take k).reverse).map (jx_v (jx_ad t base))).length = k := by simp; omega
                          have h8 : ((q.2.map (jx_v (jx_ad t base))).map fun v => v.category).sum ≤ 8 := by rw [jx_v_cats]; exact c9
                          rw [c8] at hM hwords
                          rcases jx_tgt_ok hy with hlink | ⟨host, hlink⟩
                          · exact jx_callW (va_runI (b := jx_ad t base q.1) (As := ((st.take k).reverse).map (jx_v (jx_ad t base))) (rest := q.2.map (jx_v (jx_ad t base))) ⟨hx, hb, hml, hown, hts⟩ hM ⟨callB_of k hts (jx_good_ws hwords) rfl rfl rfl (hts _ c4) (hts _ hlink) ⟨c2, c3, jx_np_ok hk⟩ ⟨by show d' + 1 ≤ _; omega, by show 8 + (_ + 11) + 42 * d' ≤ _; omega⟩, c6, hts _ c7⟩ ⟨jx_blind, fun U hU hW => ⟨rfl, pre hle U hU hW⟩⟩ rfl hlk hl.1 hstack (lv_room h8) hdec ⟨by omega, by omega⟩) hS cont
                          · exact jx_callW (va_runIN (b := jx_ad t base q.1) (As := ((st.take k).reverse).map (jx_v (jx_ad t base))) (rest := q.2.map (jx_v (jx_ad t base))) ⟨hx, hb, hml, hown, hts⟩ hM ⟨va_cnB k hts (jx_good_ws hwords) rfl rfl rfl (hK.2.1 _ hlink) (hts _ c4) ⟨c2, c3, jx_np_ok hk⟩ ⟨by show d' + 1 ≤ _; omega, by show 8 + (_ + 11) + 42 * d' ≤ _; omega⟩, c6, hts _ c7⟩ ⟨jx_blind, fun U hU hW => ⟨rfl, pre hle U hU hW⟩⟩ rfl hlk hl.1 hstack (lv_room h8) hdec ⟨by omega, by omega⟩) hS cont
                        · cases g4
                      | invokevirtual idx =>
                        obtain ⟨y, hy, g1⟩ := Option.bind_eq_some_iff.mp (show Option.bind _ _ = _ from hq)
                        obtain ⟨M2, hM2, g2⟩ := Option.bind_eq_some_iff.mp g1
                        obtain ⟨k, hk, g3⟩ := Option.bind_eq_some_iff.mp g2
                        obtain ⟨q, hq1, g4⟩ := Option.bind_eq_some_iff.mp g3
                        obtain ⟨ob, hob, g5⟩ := Option.bind_eq_some_iff.mp g4
                        obtain ⟨cl, hcl, g6⟩ := Option.bind_eq_some_iff.mp g5
                        split at g6
                        · rename_i hc
                          cases g6
                          obtain ⟨⟨c1, c2, c3, c4, c5⟩, c6, c7, c8, c9⟩ := hc
                          obtain ⟨rfl, hcode⟩ := jx_find_ok hM2
                          have hM := jx_met ih hz c1 c9
                          have hwords : ∀ w ∈ Cond.code M'.1 M'.2.1 M'.2.2.1 M'.2.2.2 :: jx_g, w ∈ jx_g := fun w hw => by
                            rcases List.mem_cons.mp hw with rfl | hw
                            · exact hcode
                            · exact hw
                          have hdr := jx_1R_eq hq1
                          have hkl : k < st.length := by
                            rcases Nat.lt_or_ge k st.length with z | z
                            · exact z
                            · rw [List.drop_eq_nil_of_le z] at hdr; cases hdr
                          have hstack : st.map (jx_v (jx_ad t base)) = (((st.take k).reverse).map (jx_v (jx_ad t base))).reverse ++ .ref (jx_ad t base q.1) :: q.2.map (jx_v (jx_ad t base)) := by
                            rw [← List.map_reverse, List.reverse_reverse, show Value.ref (jx_ad t base q.1) :: q.2.map (jx_v (jx_ad t base)) = (Value.ref q.1 :: q.2).map (jx_v (jx_ad t base)) from rfl, ← hdr, ← List.map_append, List.take_append_drop]
                          have hlk : (((st.take k).reverse).map (jx_v (jx_ad t base))).length = k := by simp; omega
                          have h8 : ((q.2.map (jx_v (jx_ad t base))).map fun v => v.category).sum ≤ 8 := by rw [jx_v_cats]; exact c8
                          have hov := jx_cell (g := jx_ad t base) (t := t) (base := base) (dA := dA) (jx_ob_eq hob) (ho.big (jx_ob_eq hob))
                          exact jx_callW (va_runV (C := cl.1) (b := jx_ad t base q.1) (As := ((st.take k).reverse).map (jx_v (jx_ad t base))) (rest := q.2.map (jx_v (jx_ad t base))) ⟨hx, hb, hml, hown, hts⟩ hM ⟨callB_of k hts (jx_good_ws hwords) rfl rfl rfl (hts _ c4) (hts _ (jx_ml_ok hy)) ⟨c2, c3, jx_np_ok hk⟩ ⟨by show d' + 1 ≤ _; omega, by show 8 + (_ + 11) + 42 * d' ≤ _; omega⟩, hts _ c6, hts _ c7⟩ ⟨jx_blind, va_recv hK.1 hP hcl hov, fun U hU hW => ⟨rfl, pre hle U hU hW⟩⟩ rfl hlk hl.1 hstack (lv_room h8) hdec ⟨by omega, by omega⟩) hS cont
                        · cases g6
                      | _ => exact Option.noConfusion (show (none : Option (jx_M × List Value × List Value)) = some (M', as, rest) from hq)
                    · cases hr
                  · cases hr
        · cases hr
