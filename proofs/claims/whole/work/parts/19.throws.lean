theorem q_11 : (Jvm.Cond.initialized "java/lang/IndexOutOfBoundsException") ∈ allW := inT 11 (by decide +kernel) (by decide +kernel)
theorem q_12 : (Jvm.Cond.initialized "java/lang/IllegalArgumentException") ∈ allW := inT 12 (by decide +kernel) (by decide +kernel)
theorem q_14 : (Jvm.Cond.initialized "java/lang/IllegalStateException") ∈ allW := inT 14 (by decide +kernel) (by decide +kernel)
theorem q_262 : (Jvm.Cond.classLink "OutlineCurves" (185 : Nat) "java/lang/IndexOutOfBoundsException") ∈ allW := inT 262 (by decide +kernel) (by decide +kernel)
theorem q_333 : (Jvm.Cond.classLink "OutlineCurves" (207 : Nat) "java/lang/IllegalArgumentException") ∈ allW := inT 333 (by decide +kernel) (by decide +kernel)
theorem q_414 : (Jvm.Cond.classLink "OutlineCurves" (196 : Nat) "java/lang/IllegalStateException") ∈ allW := inT 414 (by decide +kernel) (by decide +kernel)
theorem xai_0 : ∀ a ∈ xAtoms 189 "java/lang/IndexOutOfBoundsException", a ∈ xwords ∨ a = .laysStatic Bundle.tN "UNASSIGNED_STACK" Bundle.steD ∨ a = .laysStatic Bundle.tN "SUPPRESSED_SENTINEL" Bundle.listD ∨ a ∈ allW := by decide +kernel
theorem xai_1 : ∀ a ∈ xAtoms 200 "java/lang/IllegalStateException", a ∈ xwords ∨ a = .laysStatic Bundle.tN "UNASSIGNED_STACK" Bundle.steD ∨ a = .laysStatic Bundle.tN "SUPPRESSED_SENTINEL" Bundle.listD ∨ a ∈ allW := by decide +kernel
theorem xai_2 : ∀ a ∈ xAtoms 211 "java/lang/IllegalArgumentException", a ∈ xwords ∨ a = .laysStatic Bundle.tN "UNASSIGNED_STACK" Bundle.steD ∨ a = .laysStatic Bundle.tN "SUPPRESSED_SENTINEL" Bundle.listD ∨ a ∈ allW := by decide +kernel
set_option maxHeartbeats 4000000 in
set_option maxRecDepth 100000 in
theorem s_P_has (l : Launch) (dC : Nat → ClassId) (dI : Nat → Nat → Nat) (cI cB cJ cZ : ClassId) (a_this a_colours : Nat) (sz : Nat) (c_width : Int32) (c_height : Int32) (x1 : Int32) (x2 : Int32) (post : Int32 → Unit → Prop) (h : wp_P_has c_width c_height x1 x2 post) : Met l y_P_has w_P_has ({ frames := 0, cells := 0, slots := 0, locals := 0 }) (va_Pc [.ref a_this, .int x1, .int x2] (fun U => U.heap.size = sz ∧ va_P (dC, dI) vwCl (cw_P_has a_this a_colours c_width c_height) U.heap ∧ va_K (dC, dI) vwCl [(cI, .int), (cB, .byte), (cJ, .long), (cZ, .boolean)] U ∧ va_D (fun _ => True) (cw_P_has a_this a_colours c_width c_height))) (roQ post) 0 0 (fun _ => False) := by
  refine Met.ofW (cc := b_P_has) (maxL := 3) (ret := (some .boolean)) (by decide +kernel) rfl ?_
  intro p e s m args below meth c s₁ B hml hv
  obtain ⟨rfl, hsz, hP, hK, hD⟩ := hv
  have hx := B.exec
  have hb := B.bytes
  have hr := B.returns
  have hts : ∀ w ∈ allW, w.before _ s = true := fun w hw => atoms_spec (ws := w_P_has) B.pre w (List.mem_cons_of_mem _ hw)
  have hown : s.vm.findClass R_P = some m.cls := findClass_of_methodNamed B.named
  have hlocks := B.notSynchronized
  subst hsz
  generalize hQf : MQ below (roQ post) ([.ref a_this, .int x1, .int x2] : List Value).toArray s 0 0 (fun _ => False) = Qf
  have hl := lv_entry ([.ref a_this, .int x1, .int x2]) (n := 3) (Nat.le_of_ble_eq_true rfl)
  rw [lg_entry_eq]
  generalize (lg_sl ([.ref a_this, .int x1, .int x2]) ++ List.replicate (3 - (lg_sl ([.ref a_this, .int x1, .int x2])).length) Slot.unset).toArray = ls at hl ⊢
  have hl : lv_has ls 3 [(0, .ref a_this), (1, .int x1), (2, .int x2)] := hl
  unfold wp_P_has at h
  have J28 : ∀ (ls : Array Slot), wp_P_has_J28 c_width c_height post → lv_has ls 3 [] → W p l e (headSpec w_P_has ({ frames := 0, cells := 0, slots := 0, locals := 0 })).room s m ([.ref a_this, .int x1, .int x2] : List Value).toArray below meth c s.heap [] 0 0 Qf (F0 m 28 ls []) := by
    intro ls h hl
    unfold wp_P_has_J28 at h
    refine lv_iconst (v := 0) hx hb d_P_has_28 (by decide) ?_
    subst hQf
    exact W.zret (v := (0 : Int32)) hx hb hr (by rfl) (fun t ht hW => ⟨(0 : Int32), rfl, h, ht⟩) (fun q hq => by cases hq) d_P_has_29
  refine lv_iload_n hx hb d_P_has_0 rfl (lv_at hl 1 rfl) ?_
  refine lv_if_lt (tgt := 28) hx hb d_P_has_1 (by decide) (fun cc_ => ?_) (fun cc_ => ?_)
  · have h := h.1 cc_
    exact J28 _ h (lv_sub hl [] rfl)
  · have h := h.2 cc_
    refine lv_iload_n hx hb d_P_has_4 rfl (lv_at hl 1 rfl) ?_
    refine lv_aload_n hx hb d_P_has_5 rfl (lv_at hl 0 rfl) ?_
    refine va_get (D := (dC, dI)) (ci := 1) (v := .int c_width) (C := R_P) (T := F_P) (N := 3) hx hb hts i_P_in hown hK hP 0 rfl rfl 0 (by decide) (hts _ q_36) (fun _ h9 => h9) rfl d_P_has_6 ?_
    refine lv_icmp_ge (tgt := 28) hx hb d_P_has_9 (by decide) (fun cc_ => ?_) (fun cc_ => ?_)
    · have h := h.1 cc_
      exact J28 _ h (lv_sub hl [] rfl)
    · have h := h.2 cc_
      refine lv_iload_n hx hb d_P_has_12 rfl (lv_at hl 2 rfl) ?_
      refine lv_if_lt (tgt := 28) hx hb d_P_has_13 (by decide) (fun cc_ => ?_) (fun cc_ => ?_)
      · have h := h.1 cc_
        exact J28 _ h (lv_sub hl [] rfl)
      · have h := h.2 cc_
        refine lv_iload_n hx hb d_P_has_16 rfl (lv_at hl 2 rfl) ?_
        refine lv_aload_n hx hb d_P_has_17 rfl (lv_at hl 0 rfl) ?_
        refine va_get (D := (dC, dI)) (ci := 1) (v := .int c_height) (C := R_P) (T := F_P) (N := 3) hx hb hts i_P_in hown hK hP 0 rfl rfl 1 (by decide) (hts _ q_39) (fun _ h9 => h9) rfl d_P_has_18 ?_
        refine lv_icmp_ge (tgt := 28) hx hb d_P_has_21 (by decide) (fun cc_ => ?_) (fun cc_ => ?_)
        · have h := h.1 cc_
          exact J28 _ h (lv_sub hl [] rfl)
        · have h := h.2 cc_
          refine lv_iconst (v := 1) hx hb d_P_has_24 (by decide) ?_
          refine lv_goto (tgt := 29) hx hb d_P_has_25 (by decide) ?_
          subst hQf
          exact W.zret (v := (1 : Int32)) hx hb hr (by rfl) (fun t ht hW => ⟨(1 : Int32), rfl, h, ht⟩) (fun q hq => by cases hq) d_P_has_29
set_option maxHeartbeats 4000000 in
set_option maxRecDepth 100000 in
theorem s_U_length (l : Launch) (dC : Nat → ClassId) (dI : Nat → Nat → Nat) (cI cB cJ cZ : ClassId) (a_this a_begins a_picture a_xs a_ys a_layers a_areas a_walked : Nat) (sz : Nat) (n_begins : Nat) (c_count : Int32) (c_traced : Int32) (f_begins : Nat → Int32) (x1 : Int32) (post : Int32 → Unit → Prop) (h : wp_U_length n_begins f_begins x1 post) : Met l y_U_length w_U_length ({ frames := 0, cells := 0, slots := 0, locals := 0 }) (va_Pc [.ref a_this, .int x1] (fun U => U.heap.size = sz ∧ va_P (dC, dI) vwCl (cw_U_length cI a_this a_begins a_picture a_xs a_ys a_layers a_areas a_walked n_begins c_count c_traced f_begins) U.heap ∧ va_K (dC, dI) vwCl [(cI, .int), (cB, .byte), (cJ, .long), (cZ, .boolean)] U ∧ va_D (fun _ => True) (cw_U_length cI a_this a_begins a_picture a_xs a_ys a_layers a_areas a_walked n_begins c_count c_traced f_begins))) (roQ post) 0 0 (fun _ => False) := by
  refine Met.ofW (cc := b_U_length) (maxL := 2) (ret := (some .int)) (by decide +kernel) rfl ?_
  intro p e s m args below meth c s₁ B hml hv
  obtain ⟨rfl, hsz, hP, hK, hD⟩ := hv
  have hx := B.exec
  have hb := B.bytes
  have hr := B.returns
  have hts : ∀ w ∈ allW, w.before _ s = true := fun w hw => atoms_spec (ws := w_U_length) B.pre w (List.mem_cons_of_mem _ hw)
  have hown : s.vm.findClass R_U = some m.cls := findClass_of_methodNamed B.named
  have hlocks := B.notSynchronized
  subst hsz
  generalize hQf : MQ below (roQ post) ([.ref a_this, .int x1] : List Value).toArray s 0 0 (fun _ => False) = Qf
  have hl := lv_entry ([.ref a_this, .int x1]) (n := 2) (Nat.le_of_ble_eq_true rfl)
  rw [lg_entry_eq]
  generalize (lg_sl ([.ref a_this, .int x1]) ++ List.replicate (2 - (lg_sl ([.ref a_this, .int x1])).length) Slot.unset).toArray = ls at hl ⊢
  have hl : lv_has ls 2 [(0, .ref a_this), (1, .int x1)] := hl
  unfold wp_U_length at h
  refine lv_aload_n hx hb d_U_length_0 rfl (lv_at hl 0 rfl) ?_
  refine va_get (D := (dC, dI)) (ci := 2) (v := .ref a_begins) (C := R_U) (T := F_U) (N := 9) hx hb hts i_U_in hown hK hP 0 rfl rfl 3 (by decide) (hts _ q_68) (fun _ h9 => h9) rfl d_U_length_1 ?_
  refine lv_iload_n hx hb d_U_length_4 rfl (lv_at hl 1 rfl) ?_
  refine lv_iconst (v := 1) hx hb d_U_length_5 (by decide) ?_
  refine lv_iadd hx hb d_U_length_6 ?_
  obtain ⟨hin, h⟩ := h
  refine va_iald hx hb hK hP 1 0 rfl rfl hin d_U_length_7 ?_
  refine lv_aload_n hx hb d_U_length_8 rfl (lv_at hl 0 rfl) ?_
  refine va_get (D := (dC, dI)) (ci := 2) (v := .ref a_begins) (C := R_U) (T := F_U) (N := 9) hx hb hts i_U_in hown hK hP 0 rfl rfl 3 (by decide) (hts _ q_68) (fun _ h9 => h9) rfl d_U_length_9 ?_
  refine lv_iload_n hx hb d_U_length_12 rfl (lv_at hl 1 rfl) ?_
  obtain ⟨hin, h⟩ := h
  refine va_iald hx hb hK hP 1 0 rfl rfl hin d_U_length_13 ?_
  refine lv_isub hx hb d_U_length_14 ?_
  subst hQf
  exact W.iret (v := ((f_begins (x1 + (1 : Int32)).toNatClampNeg) - (f_begins x1.toNatClampNeg))) hx hb hr (fun t ht hW => ⟨((f_begins (x1 + (1 : Int32)).toNatClampNeg) - (f_begins x1.toNatClampNeg)), rfl, h, ht⟩) (fun q hq => by cases hq) d_U_length_15
set_option maxHeartbeats 4000000 in
set_option maxRecDepth 100000 in
theorem s_O_requireSample (l : Launch) (dC : Nat → ClassId) (dI : Nat → Nat → Nat) (cI cB cJ cZ : ClassId) (a_this a_picture a_outlines a_shape a_row a_picture_colours : Nat) (sz : Nat) (c_picture_width : Int32) (c_picture_height : Int32) (x1 : Int32) (x2 : Int32) (post : Unit → Prop) (h : wp_O_requireSample c_picture_width c_picture_height x1 x2 post) : Met l y_O_requireSample w_O_requireSample ({ frames := 6, cells := 0, slots := 0, locals := 110 }) (va_Pc [.ref a_this, .int x1, .int x2] (fun U => U.heap.size = sz ∧ va_P (dC, dI) vwCl (cw_O_requireSample a_this a_picture a_outlines a_shape a_row a_picture_colours c_picture_width c_picture_height) U.heap ∧ va_K (dC, dI) vwCl [(cI, .int), (cB, .byte), (cJ, .long), (cZ, .boolean)] U ∧ va_D (fun _ => True) (cw_O_requireSample a_this a_picture a_outlines a_shape a_row a_picture_colours c_picture_width c_picture_height))) (roV post) 0 0 (fun _ => False) := by
  refine Met.ofW (cc := b_O_requireSample) (maxL := 3) (ret := none) (by decide +kernel) rfl ?_
  intro p e s m args below meth c s₁ B hml hv
  obtain ⟨rfl, hsz, hP, hK, hD⟩ := hv
  have hx := B.exec
  have hb := B.bytes
  have hr := B.returns
  have hts : ∀ w ∈ allW, w.before _ s = true := fun w hw => atoms_spec (ws := w_O_requireSample) B.pre w (List.mem_cons_of_mem _ hw)
  have hown : s.vm.findClass R_O = some m.cls := findClass_of_methodNamed B.named
  have hlocks := B.notSynchronized
  subst hsz
  generalize hQf : MQ below (roV post) ([.ref a_this, .int x1, .int x2] : List Value).toArray s 0 0 (fun _ => False) = Qf
  have hl := lv_entry ([.ref a_this, .int x1, .int x2]) (n := 3) (Nat.le_of_ble_eq_true rfl)
  rw [lg_entry_eq]
  generalize (lg_sl ([.ref a_this, .int x1, .int x2]) ++ List.replicate (3 - (lg_sl ([.ref a_this, .int x1, .int x2])).length) Slot.unset).toArray = ls at hl ⊢
  have hl : lv_has ls 3 [(0, .ref a_this), (1, .int x1), (2, .int x2)] := hl
  unfold wp_O_requireSample at h
  refine lv_aload_n hx hb d_O_requireSample_0 rfl (lv_at hl 0 rfl) ?_
  refine va_get (D := (dC, dI)) (ci := 0) (v := .ref a_picture) (C := R_O) (T := F_O) (N := 4) hx hb hts i_O_in hown hK hP 0 rfl rfl 0 (by decide) (hts _ q_194) (fun _ h9 => h9) rfl d_O_requireSample_1 ?_
  refine lv_iload_n hx hb d_O_requireSample_4 rfl (lv_at hl 1 rfl) ?_
  refine lv_iload_n hx hb d_O_requireSample_5 rfl (lv_at hl 2 rfl) ?_
  obtain ⟨Q6, hq6, h⟩ := h
  have hPc := hP.sub (ws' := (cw_P_has a_picture a_picture_colours c_picture_width c_picture_height)) [1] rfl
  have hDc := hD.sub (ws' := (cw_P_has a_picture a_picture_colours c_picture_width c_picture_height)) [1] (by decide) rfl
  refine ro_calli (va_runV (As := [.int x1, .int x2]) (rest := []) ⟨hx, hb, hml, hown, hts⟩ (s_P_has l dC dI cI cB cJ cZ a_picture a_picture_colours s.heap.size c_picture_width c_picture_height x1 x2 Q6 hq6) (cwV 2 hts (goodV q_258 q_259 q_260 q_2 q_261) rfl rfl rfl (by decide +kernel) ⟨Nat.le_of_ble_eq_true rfl, Nat.le_of_ble_eq_true rfl⟩) ⟨fun a U g mk q => by obtain ⟨q0, q1, qP, qK, qD⟩ := q; exact ⟨q0, q1, qP, va_K.moved (u := U) (U := U.calling g mk a) (Vm.Alike.refl U.vm) qK, qD⟩, va_recv hK hP (ci := 1) (q0 := 1) rfl rfl, fun U hU hW => ⟨rfl, by rw [hU], by rw [hU]; exact hPc, va_K.moved hW.alike hK, hDc⟩⟩ rfl rfl hl.1 rfl (lv_room (Nat.le_of_ble_eq_true rfl)) d_O_requireSample_6 ⟨Nat.le_of_ble_eq_true rfl, Nat.le_of_ble_eq_true rfl⟩) (fun r6 hw => ?_)
  have h := h r6 hw
  clear hPc hDc
  refine lv_if_ne (tgt := 22) hx hb d_O_requireSample_9 (by decide) (fun cc_ => ?_) (fun cc_ => ?_)
  · have h := h.1 cc_
    subst hQf
    exact W.vret hx hb hr (fun t ht hW => ⟨rfl, h, ht⟩) (fun q hq => by cases hq) d_O_requireSample_22
  · have h := h.2 cc_
    exact h.elim
set_option maxHeartbeats 4000000 in
set_option maxRecDepth 100000 in
theorem s_O_requireRange (l : Launch) (dC : Nat → ClassId) (dI : Nat → Nat → Nat) (cI cB cJ cZ : ClassId) (sz : Nat) (x0 : Int32) (x1 : Int32) (x2 : Int32) (post : Unit → Prop) (h : wp_O_requireRange x0 x1 x2 post) : Met l y_O_requireRange w_O_requireRange ({ frames := 6, cells := 0, slots := 0, locals := 110 }) (va_Pc [.int x0, .int x1, .int x2] (fun U => U.heap.size = sz ∧ va_P (dC, dI) vwCl (cw_O_requireRange) U.heap ∧ va_K (dC, dI) vwCl [(cI, .int), (cB, .byte), (cJ, .long), (cZ, .boolean)] U ∧ va_D (fun _ => True) (cw_O_requireRange))) (roV post) 0 0 (fun _ => False) := by
  refine Met.ofW (cc := b_O_requireRange) (maxL := 3) (ret := none) (by decide +kernel) rfl ?_
  intro p e s m args below meth c s₁ B hml hv
  obtain ⟨rfl, hsz, hP, hK, hD⟩ := hv
  have hx := B.exec
  have hb := B.bytes
  have hr := B.returns
  have hts : ∀ w ∈ allW, w.before _ s = true := fun w hw => atoms_spec (ws := w_O_requireRange) B.pre w (List.mem_cons_of_mem _ hw)
  have hown : s.vm.findClass R_O = some m.cls := findClass_of_methodNamed B.named
  have hlocks := B.notSynchronized
  subst hsz
  generalize hQf : MQ below (roV post) ([.int x0, .int x1, .int x2] : List Value).toArray s 0 0 (fun _ => False) = Qf
  have hl := lv_entry ([.int x0, .int x1, .int x2]) (n := 3) (Nat.le_of_ble_eq_true rfl)
  rw [lg_entry_eq]
  generalize (lg_sl ([.int x0, .int x1, .int x2]) ++ List.replicate (3 - (lg_sl ([.int x0, .int x1, .int x2])).length) Slot.unset).toArray = ls at hl ⊢
  have hl : lv_has ls 3 [(0, .int x0), (1, .int x1), (2, .int x2)] := hl
  unfold wp_O_requireRange at h
  have J10 : ∀ (ls : Array Slot), wp_O_requireRange_J10 post → lv_has ls 3 [] → W p l e (headSpec w_O_requireRange ({ frames := 6, cells := 0, slots := 0, locals := 110 })).room s m ([.int x0, .int x1, .int x2] : List Value).toArray below meth c s.heap [] 0 0 Qf (F0 m 10 ls []) := by
    intro ls h hl
    unfold wp_O_requireRange_J10 at h
    exact h.elim
  refine lv_iload_n hx hb d_O_requireRange_0 rfl (lv_at hl 0 rfl) ?_
  refine lv_iload_n hx hb d_O_requireRange_1 rfl (lv_at hl 1 rfl) ?_
  refine lv_icmp_lt (tgt := 10) hx hb d_O_requireRange_2 (by decide) (fun cc_ => ?_) (fun cc_ => ?_)
  · have h := h.1 cc_
    exact J10 _ h (lv_sub hl [] rfl)
  · have h := h.2 cc_
    refine lv_iload_n hx hb d_O_requireRange_5 rfl (lv_at hl 0 rfl) ?_
    refine lv_iload_n hx hb d_O_requireRange_6 rfl (lv_at hl 2 rfl) ?_
    refine lv_icmp_le (tgt := 20) hx hb d_O_requireRange_7 (by decide) (fun cc_ => ?_) (fun cc_ => ?_)
    · have h := h.1 cc_
      subst hQf
      exact W.vret hx hb hr (fun t ht hW => ⟨rfl, h, ht⟩) (fun q hq => by cases hq) d_O_requireRange_20
    · have h := h.2 cc_
      exact J10 _ h (lv_sub hl [] rfl)
set_option maxHeartbeats 4000000 in
set_option maxRecDepth 100000 in
theorem s_O_requireTraced (l : Launch) (dC : Nat → ClassId) (dI : Nat → Nat → Nat) (cI cB cJ cZ : ClassId) (a_this a_outlines a_picture a_shape a_row a_outlines_xs a_outlines_ys a_outlines_begins a_outlines_layers a_outlines_areas a_outlines_walked : Nat) (sz : Nat) (c_outlines_count : Int32) (c_outlines_traced : Int32) (post : Unit → Prop) (h : wp_O_requireTraced c_outlines_traced post) : Met l y_O_requireTraced w_O_requireTraced ({ frames := 6, cells := 0, slots := 0, locals := 110 }) (va_Pc [.ref a_this] (fun U => U.heap.size = sz ∧ va_P (dC, dI) vwCl (cw_O_requireTraced a_this a_outlines a_picture a_shape a_row a_outlines_xs a_outlines_ys a_outlines_begins a_outlines_layers a_outlines_areas a_outlines_walked c_outlines_count c_outlines_traced) U.heap ∧ va_K (dC, dI) vwCl [(cI, .int), (cB, .byte), (cJ, .long), (cZ, .boolean)] U ∧ va_D (fun _ => True) (cw_O_requireTraced a_this a_outlines a_picture a_shape a_row a_outlines_xs a_outlines_ys a_outlines_begins a_outlines_layers a_outlines_areas a_outlines_walked c_outlines_count c_outlines_traced))) (roV post) 0 0 (fun _ => False) := by
  refine Met.ofW (cc := b_O_requireTraced) (maxL := 1) (ret := none) (by decide +kernel) rfl ?_
  intro p e s m args below meth c s₁ B hml hv
  obtain ⟨rfl, hsz, hP, hK, hD⟩ := hv
  have hx := B.exec
  have hb := B.bytes
  have hr := B.returns
  have hts : ∀ w ∈ allW, w.before _ s = true := fun w hw => atoms_spec (ws := w_O_requireTraced) B.pre w (List.mem_cons_of_mem _ hw)
  have hown : s.vm.findClass R_O = some m.cls := findClass_of_methodNamed B.named
  have hlocks := B.notSynchronized
  subst hsz
  generalize hQf : MQ below (roV post) ([.ref a_this] : List Value).toArray s 0 0 (fun _ => False) = Qf
  have hl := lv_entry ([.ref a_this]) (n := 1) (Nat.le_of_ble_eq_true rfl)
  rw [lg_entry_eq]
  generalize (lg_sl ([.ref a_this]) ++ List.replicate (1 - (lg_sl ([.ref a_this])).length) Slot.unset).toArray = ls at hl ⊢
  have hl : lv_has ls 1 [(0, .ref a_this)] := hl
  unfold wp_O_requireTraced at h
  refine lv_aload_n hx hb d_O_requireTraced_0 rfl (lv_at hl 0 rfl) ?_
  refine va_get (D := (dC, dI)) (ci := 0) (v := .ref a_outlines) (C := R_O) (T := F_O) (N := 4) hx hb hts i_O_in hown hK hP 0 rfl rfl 1 (by decide) (hts _ q_195) (fun _ h9 => h9) rfl d_O_requireTraced_1 ?_
  refine va_get (D := (dC, dI)) (ci := 2) (v := .int c_outlines_traced) (C := R_U) (T := F_U) (N := 9) hx hb hts i_U_in hown hK hP 1 rfl rfl 8 (by decide) (hts _ q_79) (fun _ h9 => h9) rfl d_O_requireTraced_4 ?_
  refine lv_if_ne (tgt := 20) hx hb d_O_requireTraced_7 (by decide) (fun cc_ => ?_) (fun cc_ => ?_)
  · have h := h.1 cc_
    subst hQf
    exact W.vret hx hb hr (fun t ht hW => ⟨rfl, h, ht⟩) (fun q hq => by cases hq) d_O_requireTraced_20
  · have h := h.2 cc_
    exact h.elim
set_option maxHeartbeats 4000000 in
set_option maxRecDepth 100000 in
theorem s_O_requireIndex (l : Launch) (dC : Nat → ClassId) (dI : Nat → Nat → Nat) (cI cB cJ cZ : ClassId) (sz : Nat) (x0 : Int32) (x1 : Int32) (post : Unit → Prop) (h : wp_O_requireIndex x0 x1 post) : Met l y_O_requireIndex w_O_requireIndex ({ frames := 6, cells := 0, slots := 0, locals := 110 }) (va_Pc [.int x0, .int x1] (fun U => U.heap.size = sz ∧ va_P (dC, dI) vwCl (cw_O_requireIndex) U.heap ∧ va_K (dC, dI) vwCl [(cI, .int), (cB, .byte), (cJ, .long), (cZ, .boolean)] U ∧ va_D (fun _ => True) (cw_O_requireIndex))) (roV post) 0 0 (fun _ => False) := by
  refine Met.ofW (cc := b_O_requireIndex) (maxL := 2) (ret := none) (by decide +kernel) rfl ?_
  intro p e s m args below meth c s₁ B hml hv
  obtain ⟨rfl, hsz, hP, hK, hD⟩ := hv
  have hx := B.exec
  have hb := B.bytes
  have hr := B.returns
  have hts : ∀ w ∈ allW, w.before _ s = true := fun w hw => atoms_spec (ws := w_O_requireIndex) B.pre w (List.mem_cons_of_mem _ hw)
  have hown : s.vm.findClass R_O = some m.cls := findClass_of_methodNamed B.named
  have hlocks := B.notSynchronized
  subst hsz
  generalize hQf : MQ below (roV post) ([.int x0, .int x1] : List Value).toArray s 0 0 (fun _ => False) = Qf
  have hl := lv_entry ([.int x0, .int x1]) (n := 2) (Nat.le_of_ble_eq_true rfl)
  rw [lg_entry_eq]
  generalize (lg_sl ([.int x0, .int x1]) ++ List.replicate (2 - (lg_sl ([.int x0, .int x1])).length) Slot.unset).toArray = ls at hl ⊢
  have hl : lv_has ls 2 [(0, .int x0), (1, .int x1)] := hl
  unfold wp_O_requireIndex at h
  have J9 : ∀ (ls : Array Slot), wp_O_requireIndex_J9 post → lv_has ls 2 [] → W p l e (headSpec w_O_requireIndex ({ frames := 6, cells := 0, slots := 0, locals := 110 })).room s m ([.int x0, .int x1] : List Value).toArray below meth c s.heap [] 0 0 Qf (F0 m 9 ls []) := by
    intro ls h hl
    unfold wp_O_requireIndex_J9 at h
    exact h.elim
  refine lv_iload_n hx hb d_O_requireIndex_0 rfl (lv_at hl 0 rfl) ?_
  refine lv_if_lt (tgt := 9) hx hb d_O_requireIndex_1 (by decide) (fun cc_ => ?_) (fun cc_ => ?_)
  · have h := h.1 cc_
    exact J9 _ h (lv_sub hl [] rfl)
  · have h := h.2 cc_
    refine lv_iload_n hx hb d_O_requireIndex_4 rfl (lv_at hl 0 rfl) ?_
    refine lv_iload_n hx hb d_O_requireIndex_5 rfl (lv_at hl 1 rfl) ?_
    refine lv_icmp_lt (tgt := 19) hx hb d_O_requireIndex_6 (by decide) (fun cc_ => ?_) (fun cc_ => ?_)
    · have h := h.1 cc_
      subst hQf
      exact W.vret hx hb hr (fun t ht hW => ⟨rfl, h, ht⟩) (fun q hq => by cases hq) d_O_requireIndex_19
    · have h := h.2 cc_
      exact J9 _ h (lv_sub hl [] rfl)
set_option maxHeartbeats 4000000 in
set_option maxRecDepth 100000 in
theorem s_O_requirePoint (l : Launch) (dC : Nat → ClassId) (dI : Nat → Nat → Nat) (cI cB cJ cZ : ClassId) (a_this a_outlines a_outlines_begins a_picture a_shape a_row a_outlines_xs a_outlines_ys a_outlines_layers a_outlines_areas a_outlines_walked : Nat) (sz : Nat) (n_outlines_begins : Nat) (c_outlines_count : Int32) (c_outlines_traced : Int32) (f_outlines_begins : Nat → Int32) (x1 : Int32) (x2 : Int32) (post : Unit → Prop) (h : wp_O_requirePoint n_outlines_begins c_outlines_count c_outlines_traced f_outlines_begins x1 x2 post) : Met l y_O_requirePoint w_O_requirePoint ({ frames := 7, cells := 0, slots := 0, locals := 131 }) (va_Pc [.ref a_this, .int x1, .int x2] (fun U => U.heap.size = sz ∧ va_P (dC, dI) vwCl (cw_O_requirePoint cI a_this a_outlines a_outlines_begins a_picture a_shape a_row a_outlines_xs a_outlines_ys a_outlines_layers a_outlines_areas a_outlines_walked n_outlines_begins c_outlines_count c_outlines_traced f_outlines_begins) U.heap ∧ va_K (dC, dI) vwCl [(cI, .int), (cB, .byte), (cJ, .long), (cZ, .boolean)] U ∧ va_D (fun _ => True) (cw_O_requirePoint cI a_this a_outlines a_outlines_begins a_picture a_shape a_row a_outlines_xs a_outlines_ys a_outlines_layers a_outlines_areas a_outlines_walked n_outlines_begins c_outlines_count c_outlines_traced f_outlines_begins))) (roV post) 0 0 (fun _ => False) := by
  refine Met.ofW (cc := b_O_requirePoint) (maxL := 3) (ret := none) (by decide +kernel) rfl ?_
  intro p e s m args below meth c s₁ B hml hv
  obtain ⟨rfl, hsz, hP, hK, hD⟩ := hv
  have hx := B.exec
  have hb := B.bytes
  have hr := B.returns
  have hts : ∀ w ∈ allW, w.before _ s = true := fun w hw => atoms_spec (ws := w_O_requirePoint) B.pre w (List.mem_cons_of_mem _ hw)
  have hown : s.vm.findClass R_O = some m.cls := findClass_of_methodNamed B.named
  have hlocks := B.notSynchronized
  subst hsz
  generalize hQf : MQ below (roV post) ([.ref a_this, .int x1, .int x2] : List Value).toArray s 0 0 (fun _ => False) = Qf
  have hl := lv_entry ([.ref a_this, .int x1, .int x2]) (n := 3) (Nat.le_of_ble_eq_true rfl)
  rw [lg_entry_eq]
  generalize (lg_sl ([.ref a_this, .int x1, .int x2]) ++ List.replicate (3 - (lg_sl ([.ref a_this, .int x1, .int x2])).length) Slot.unset).toArray = ls at hl ⊢
  have hl : lv_has ls 3 [(0, .ref a_this), (1, .int x1), (2, .int x2)] := hl
  unfold wp_O_requirePoint at h
  refine lv_aload_n hx hb d_O_requirePoint_0 rfl (lv_at hl 0 rfl) ?_
  obtain ⟨Q1, hq1, h⟩ := h
  have hPc := hP.sub (ws' := (cw_O_requireTraced a_this a_outlines a_picture a_shape a_row a_outlines_xs a_outlines_ys a_outlines_begins a_outlines_layers a_outlines_areas a_outlines_walked c_outlines_count c_outlines_traced)) [0, 1] rfl
  have hDc := hD.sub (ws' := (cw_O_requireTraced a_this a_outlines a_picture a_shape a_row a_outlines_xs a_outlines_ys a_outlines_begins a_outlines_layers a_outlines_areas a_outlines_walked c_outlines_count c_outlines_traced)) [0, 1] (by decide) rfl
  refine ro_callv (va_runV (As := []) (rest := []) ⟨hx, hb, hml, hown, hts⟩ (s_O_requireTraced l dC dI cI cB cJ cZ a_this a_outlines a_picture a_shape a_row a_outlines_xs a_outlines_ys a_outlines_begins a_outlines_layers a_outlines_areas a_outlines_walked s.heap.size c_outlines_count c_outlines_traced Q1 hq1) (cwV 0 hts (goodV q_410 q_412 q_p8 q_1 q_413) rfl rfl rfl (by decide +kernel) ⟨Nat.le_of_ble_eq_true rfl, Nat.le_of_ble_eq_true rfl⟩) ⟨fun a U g mk q => by obtain ⟨q0, q1, qP, qK, qD⟩ := q; exact ⟨q0, q1, qP, va_K.moved (u := U) (U := U.calling g mk a) (Vm.Alike.refl U.vm) qK, qD⟩, va_recv hK hP (ci := 0) (q0 := 0) rfl rfl, fun U hU hW => ⟨rfl, by rw [hU], by rw [hU]; exact hPc, va_K.moved hW.alike hK, hDc⟩⟩ rfl rfl hl.1 rfl (lv_room (Nat.le_of_ble_eq_true rfl)) d_O_requirePoint_1 ⟨Nat.le_of_ble_eq_true rfl, Nat.le_of_ble_eq_true rfl⟩) (fun hw => ?_)
  have h := h () hw
  clear hPc hDc
  refine lv_iload_n hx hb d_O_requirePoint_4 rfl (lv_at hl 1 rfl) ?_
  refine lv_aload_n hx hb d_O_requirePoint_5 rfl (lv_at hl 0 rfl) ?_
  refine va_get (D := (dC, dI)) (ci := 0) (v := .ref a_outlines) (C := R_O) (T := F_O) (N := 4) hx hb hts i_O_in hown hK hP 0 rfl rfl 1 (by decide) (hts _ q_195) (fun _ h9 => h9) rfl d_O_requirePoint_6 ?_
  refine va_get (D := (dC, dI)) (ci := 2) (v := .int c_outlines_count) (C := R_U) (T := F_U) (N := 9) hx hb hts i_U_in hown hK hP 1 rfl rfl 7 (by decide) (hts _ q_77) (fun _ h9 => h9) rfl d_O_requirePoint_9 ?_
  obtain ⟨Q12, hq12, h⟩ := h
  have hPc := hP.sub (ws' := (cw_O_requireIndex)) [] rfl
  have hDc := hD.sub (ws' := (cw_O_requireIndex)) [] (by decide) rfl
  refine ro_callv (va_runS (As := [.int x1, .int c_outlines_count]) (rest := []) ⟨hx, hb, hml, hown, hts⟩ (s_O_requireIndex l dC dI cI cB cJ cZ s.heap.size x1 c_outlines_count Q12 hq12) (va_cwS 2 hts (goodS q_430 q_431 q_1 q_432) rfl rfl rfl (by decide +kernel) ⟨Nat.le_of_ble_eq_true rfl, Nat.le_of_ble_eq_true rfl⟩) ⟨fun a U g mk q => by obtain ⟨q0, q1, qP, qK, qD⟩ := q; exact ⟨q0, q1, qP, va_K.moved (u := U) (U := U.calling g mk a) (Vm.Alike.refl U.vm) qK, qD⟩, fun U hU hW => ⟨rfl, by rw [hU], by rw [hU]; exact hPc, va_K.moved hW.alike hK, hDc⟩⟩ rfl rfl hl.1 rfl (lv_room (Nat.le_of_ble_eq_true rfl)) d_O_requirePoint_12 ⟨Nat.le_of_ble_eq_true rfl, Nat.le_of_ble_eq_true rfl⟩) (fun hw => ?_)
  have h := h () hw
  clear hPc hDc
  refine lv_iload_n hx hb d_O_requirePoint_15 rfl (lv_at hl 2 rfl) ?_
  refine lv_aload_n hx hb d_O_requirePoint_16 rfl (lv_at hl 0 rfl) ?_
  refine va_get (D := (dC, dI)) (ci := 0) (v := .ref a_outlines) (C := R_O) (T := F_O) (N := 4) hx hb hts i_O_in hown hK hP 0 rfl rfl 1 (by decide) (hts _ q_195) (fun _ h9 => h9) rfl d_O_requirePoint_17 ?_
  refine lv_iload_n hx hb d_O_requirePoint_20 rfl (lv_at hl 1 rfl) ?_
  obtain ⟨Q21, hq21, h⟩ := h
  have hPc := hP.sub (ws' := (cw_U_length cI a_outlines a_outlines_begins a_picture a_outlines_xs a_outlines_ys a_outlines_layers a_outlines_areas a_outlines_walked n_outlines_begins c_outlines_count c_outlines_traced f_outlines_begins)) [1, 2] rfl
  have hDc := hD.sub (ws' := (cw_U_length cI a_outlines a_outlines_begins a_picture a_outlines_xs a_outlines_ys a_outlines_layers a_outlines_areas a_outlines_walked n_outlines_begins c_outlines_count c_outlines_traced f_outlines_begins)) [1, 2] (by decide) rfl
  refine ro_calli (va_runV (As := [.int x1]) (rest := [.int x2]) ⟨hx, hb, hml, hown, hts⟩ (s_U_length l dC dI cI cB cJ cZ a_outlines a_outlines_begins a_picture a_outlines_xs a_outlines_ys a_outlines_layers a_outlines_areas a_outlines_walked s.heap.size n_outlines_begins c_outlines_count c_outlines_traced f_outlines_begins x1 Q21 hq21) (cwV 1 hts (goodV q_434 q_435 q_436 q_4 q_437) rfl rfl rfl (by decide +kernel) ⟨Nat.le_of_ble_eq_true rfl, Nat.le_of_ble_eq_true rfl⟩) ⟨fun a U g mk q => by obtain ⟨q0, q1, qP, qK, qD⟩ := q; exact ⟨q0, q1, qP, va_K.moved (u := U) (U := U.calling g mk a) (Vm.Alike.refl U.vm) qK, qD⟩, va_recv hK hP (ci := 2) (q0 := 1) rfl rfl, fun U hU hW => ⟨rfl, by rw [hU], by rw [hU]; exact hPc, va_K.moved hW.alike hK, hDc⟩⟩ rfl rfl hl.1 rfl (lv_room (Nat.le_of_ble_eq_true rfl)) d_O_requirePoint_21 ⟨Nat.le_of_ble_eq_true rfl, Nat.le_of_ble_eq_true rfl⟩) (fun r21 hw => ?_)
  have h := h r21 hw
  clear hPc hDc
  obtain ⟨Q24, hq24, h⟩ := h
  have hPc := hP.sub (ws' := (cw_O_requireIndex)) [] rfl
  have hDc := hD.sub (ws' := (cw_O_requireIndex)) [] (by decide) rfl
  refine ro_callv (va_runS (As := [.int x2, .int r21]) (rest := []) ⟨hx, hb, hml, hown, hts⟩ (s_O_requireIndex l dC dI cI cB cJ cZ s.heap.size x2 r21 Q24 hq24) (va_cwS 2 hts (goodS q_430 q_431 q_1 q_432) rfl rfl rfl (by decide +kernel) ⟨Nat.le_of_ble_eq_true rfl, Nat.le_of_ble_eq_true rfl⟩) ⟨fun a U g mk q => by obtain ⟨q0, q1, qP, qK, qD⟩ := q; exact ⟨q0, q1, qP, va_K.moved (u := U) (U := U.calling g mk a) (Vm.Alike.refl U.vm) qK, qD⟩, fun U hU hW => ⟨rfl, by rw [hU], by rw [hU]; exact hPc, va_K.moved hW.alike hK, hDc⟩⟩ rfl rfl hl.1 rfl (lv_room (Nat.le_of_ble_eq_true rfl)) d_O_requirePoint_24 ⟨Nat.le_of_ble_eq_true rfl, Nat.le_of_ble_eq_true rfl⟩) (fun hw => ?_)
  have h := h () hw
  clear hPc hDc
  subst hQf
  exact W.vret hx hb hr (fun t ht hW => ⟨rfl, h, ht⟩) (fun q hq => by cases hq) d_O_requirePoint_27
set_option maxHeartbeats 4000000 in
set_option maxRecDepth 100000 in
theorem s_O_requirePolygon (l : Launch) (dC : Nat → ClassId) (dI : Nat → Nat → Nat) (cI cB cJ cZ : ClassId) (a_this a_shape a_picture a_outlines a_row a_shape_costs a_shape_rest a_shape_restByTwo a_shape_points a_shape_xs a_shape_ys a_shape_angles a_shape_turns : Nat) (sz : Nat) (c_shape_count : Int32) (c_shape_cost : Int32) (post : Unit → Prop) (h : wp_O_requirePolygon c_shape_count post) : Met l y_O_requirePolygon w_O_requirePolygon ({ frames := 6, cells := 0, slots := 0, locals := 110 }) (va_Pc [.ref a_this] (fun U => U.heap.size = sz ∧ va_P (dC, dI) vwCl (cw_O_requirePolygon a_this a_shape a_picture a_outlines a_row a_shape_costs a_shape_rest a_shape_restByTwo a_shape_points a_shape_xs a_shape_ys a_shape_angles a_shape_turns c_shape_count c_shape_cost) U.heap ∧ va_K (dC, dI) vwCl [(cI, .int), (cB, .byte), (cJ, .long), (cZ, .boolean)] U ∧ va_D (fun _ => True) (cw_O_requirePolygon a_this a_shape a_picture a_outlines a_row a_shape_costs a_shape_rest a_shape_restByTwo a_shape_points a_shape_xs a_shape_ys a_shape_angles a_shape_turns c_shape_count c_shape_cost))) (roV post) 0 0 (fun _ => False) := by
  refine Met.ofW (cc := b_O_requirePolygon) (maxL := 1) (ret := none) (by decide +kernel) rfl ?_
  intro p e s m args below meth c s₁ B hml hv
  obtain ⟨rfl, hsz, hP, hK, hD⟩ := hv
  have hx := B.exec
  have hb := B.bytes
  have hr := B.returns
  have hts : ∀ w ∈ allW, w.before _ s = true := fun w hw => atoms_spec (ws := w_O_requirePolygon) B.pre w (List.mem_cons_of_mem _ hw)
  have hown : s.vm.findClass R_O = some m.cls := findClass_of_methodNamed B.named
  have hlocks := B.notSynchronized
  subst hsz
  generalize hQf : MQ below (roV post) ([.ref a_this] : List Value).toArray s 0 0 (fun _ => False) = Qf
  have hl := lv_entry ([.ref a_this]) (n := 1) (Nat.le_of_ble_eq_true rfl)
  rw [lg_entry_eq]
  generalize (lg_sl ([.ref a_this]) ++ List.replicate (1 - (lg_sl ([.ref a_this])).length) Slot.unset).toArray = ls at hl ⊢
  have hl : lv_has ls 1 [(0, .ref a_this)] := hl
  unfold wp_O_requirePolygon at h
  refine lv_aload_n hx hb d_O_requirePolygon_0 rfl (lv_at hl 0 rfl) ?_
  refine va_get (D := (dC, dI)) (ci := 0) (v := .ref a_shape) (C := R_O) (T := F_O) (N := 4) hx hb hts i_O_in hown hK hP 0 rfl rfl 2 (by decide) (hts _ q_196) (fun _ h9 => h9) rfl d_O_requirePolygon_1 ?_
  refine va_get (D := (dC, dI)) (ci := 3) (v := .int c_shape_count) (C := R_G) (T := F_G) (N := 11) hx hb hts i_G_in hown hK hP 1 rfl rfl 9 (by decide) (hts _ q_127) (fun _ h9 => h9) rfl d_O_requirePolygon_4 ?_
  refine lv_if_ne (tgt := 20) hx hb d_O_requirePolygon_7 (by decide) (fun cc_ => ?_) (fun cc_ => ?_)
  · have h := h.1 cc_
    subst hQf
    exact W.vret hx hb hr (fun t ht hW => ⟨rfl, h, ht⟩) (fun q hq => by cases hq) d_O_requirePolygon_20
  · have h := h.2 cc_
    exact h.elim
set_option maxHeartbeats 4000000 in
set_option maxRecDepth 100000 in
theorem s_O_requireCurve (l : Launch) (dC : Nat → ClassId) (dI : Nat → Nat → Nat) (cI cB cJ cZ : ClassId) (a_this a_row a_picture a_outlines a_shape a_row_fewest a_row_takenLengths a_row_takenPulls a_row_firsts a_row_lengths a_row_pulls a_row_handX a_row_handY : Nat) (sz : Nat) (c_row_count : Int32) (x1 : Int32) (post : Unit → Prop) (h : wp_O_requireCurve c_row_count x1 post) : Met l y_O_requireCurve w_O_requireCurve ({ frames := 7, cells := 0, slots := 0, locals := 131 }) (va_Pc [.ref a_this, .int x1] (fun U => U.heap.size = sz ∧ va_P (dC, dI) vwCl (cw_O_requireCurve a_this a_row a_picture a_outlines a_shape a_row_fewest a_row_takenLengths a_row_takenPulls a_row_firsts a_row_lengths a_row_pulls a_row_handX a_row_handY c_row_count) U.heap ∧ va_K (dC, dI) vwCl [(cI, .int), (cB, .byte), (cJ, .long), (cZ, .boolean)] U ∧ va_D (fun _ => True) (cw_O_requireCurve a_this a_row a_picture a_outlines a_shape a_row_fewest a_row_takenLengths a_row_takenPulls a_row_firsts a_row_lengths a_row_pulls a_row_handX a_row_handY c_row_count))) (roV post) 0 0 (fun _ => False) := by
  refine Met.ofW (cc := b_O_requireCurve) (maxL := 2) (ret := none) (by decide +kernel) rfl ?_
  intro p e s m args below meth c s₁ B hml hv
  obtain ⟨rfl, hsz, hP, hK, hD⟩ := hv
  have hx := B.exec
  have hb := B.bytes
  have hr := B.returns
  have hts : ∀ w ∈ allW, w.before _ s = true := fun w hw => atoms_spec (ws := w_O_requireCurve) B.pre w (List.mem_cons_of_mem _ hw)
  have hown : s.vm.findClass R_O = some m.cls := findClass_of_methodNamed B.named
  have hlocks := B.notSynchronized
  subst hsz
  generalize hQf : MQ below (roV post) ([.ref a_this, .int x1] : List Value).toArray s 0 0 (fun _ => False) = Qf
  have hl := lv_entry ([.ref a_this, .int x1]) (n := 2) (Nat.le_of_ble_eq_true rfl)
  rw [lg_entry_eq]
  generalize (lg_sl ([.ref a_this, .int x1]) ++ List.replicate (2 - (lg_sl ([.ref a_this, .int x1])).length) Slot.unset).toArray = ls at hl ⊢
  have hl : lv_has ls 2 [(0, .ref a_this), (1, .int x1)] := hl
  unfold wp_O_requireCurve at h
  refine lv_aload_n hx hb d_O_requireCurve_0 rfl (lv_at hl 0 rfl) ?_
  refine va_get (D := (dC, dI)) (ci := 0) (v := .ref a_row) (C := R_O) (T := F_O) (N := 4) hx hb hts i_O_in hown hK hP 0 rfl rfl 3 (by decide) (hts _ q_197) (fun _ h9 => h9) rfl d_O_requireCurve_1 ?_
  refine va_get (D := (dC, dI)) (ci := 4) (v := .int c_row_count) (C := R_C) (T := F_C) (N := 10) hx hb hts i_C_in hown hK hP 1 rfl rfl 9 (by decide) (hts _ q_172) (fun _ h9 => h9) rfl d_O_requireCurve_4 ?_
  refine lv_if_ne (tgt := 20) hx hb d_O_requireCurve_7 (by decide) (fun cc_ => ?_) (fun cc_ => ?_)
  · have h := h.1 cc_
    refine lv_iload_n hx hb d_O_requireCurve_20 rfl (lv_at hl 1 rfl) ?_
    refine lv_aload_n hx hb d_O_requireCurve_21 rfl (lv_at hl 0 rfl) ?_
    refine va_get (D := (dC, dI)) (ci := 0) (v := .ref a_row) (C := R_O) (T := F_O) (N := 4) hx hb hts i_O_in hown hK hP 0 rfl rfl 3 (by decide) (hts _ q_197) (fun _ h9 => h9) rfl d_O_requireCurve_22 ?_
    refine va_get (D := (dC, dI)) (ci := 4) (v := .int c_row_count) (C := R_C) (T := F_C) (N := 10) hx hb hts i_C_in hown hK hP 1 rfl rfl 9 (by decide) (hts _ q_172) (fun _ h9 => h9) rfl d_O_requireCurve_25 ?_
    obtain ⟨Q28, hq28, h⟩ := h
    have hPc := hP.sub (ws' := (cw_O_requireIndex)) [] rfl
    have hDc := hD.sub (ws' := (cw_O_requireIndex)) [] (by decide) rfl
    refine ro_callv (va_runS (As := [.int x1, .int c_row_count]) (rest := []) ⟨hx, hb, hml, hown, hts⟩ (s_O_requireIndex l dC dI cI cB cJ cZ s.heap.size x1 c_row_count Q28 hq28) (va_cwS 2 hts (goodS q_430 q_431 q_1 q_432) rfl rfl rfl (by decide +kernel) ⟨Nat.le_of_ble_eq_true rfl, Nat.le_of_ble_eq_true rfl⟩) ⟨fun a U g mk q => by obtain ⟨q0, q1, qP, qK, qD⟩ := q; exact ⟨q0, q1, qP, va_K.moved (u := U) (U := U.calling g mk a) (Vm.Alike.refl U.vm) qK, qD⟩, fun U hU hW => ⟨rfl, by rw [hU], by rw [hU]; exact hPc, va_K.moved hW.alike hK, hDc⟩⟩ rfl rfl hl.1 rfl (lv_room (Nat.le_of_ble_eq_true rfl)) d_O_requireCurve_28 ⟨Nat.le_of_ble_eq_true rfl, Nat.le_of_ble_eq_true rfl⟩) (fun hw => ?_)
    have h := h () hw
    clear hPc hDc
    subst hQf
    exact W.vret hx hb hr (fun t ht hW => ⟨rfl, h, ht⟩) (fun q hq => by cases hq) d_O_requireCurve_31
  · have h := h.2 cc_
    exact h.elim
def tp_O_requireSample (c_picture_width : Int32) (c_picture_height : Int32) (x1 : Int32) (x2 : Int32) (E : String) : Prop :=
  ∃ Q6 : Int32 → Unit → Prop, wp_P_has c_picture_width c_picture_height x1 x2 Q6 ∧ ∀ (r6 : Int32), Q6 r6 () → (¬ r6 = 0 → False) ∧ (r6 = 0 → E = "java/lang/IndexOutOfBoundsException")
set_option maxHeartbeats 4000000 in
set_option maxRecDepth 100000 in
theorem x_O_requireSample (l : Launch) (hfl : l.stackTraces = false) (dC : Nat → ClassId) (dI : Nat → Nat → Nat) (cI cB cJ cZ : ClassId) (a_this a_picture a_outlines a_shape a_row a_picture_colours : Nat) (sz : Nat) (c_picture_width : Int32) (c_picture_height : Int32) (x1 : Int32) (x2 : Int32) (AX : Nat → Prop) (E : String) (h : tp_O_requireSample c_picture_width c_picture_height x1 x2 E) : MetX l y_O_requireSample w_O_requireSample ({ frames := 6, cells := 1, slots := 6, locals := 110 }) (va_Pc [.ref a_this, .int x1, .int x2] (fun U => U.heap.size = sz ∧ va_P (dC, dI) vwCl (cw_O_requireSample a_this a_picture a_outlines a_shape a_row a_picture_colours c_picture_width c_picture_height) U.heap ∧ va_K (dC, dI) vwCl [(cI, .int), (cB, .byte), (cJ, .long), (cZ, .boolean)] U ∧ va_D (fun _ => True) (cw_O_requireSample a_this a_picture a_outlines a_shape a_row a_picture_colours c_picture_width c_picture_height) ∧ XG AX U U.heap)) E 1 6 := by
  refine MetX.ofW (cc := b_O_requireSample) (maxL := 3) (ret := none) (by decide +kernel) rfl ?_
  intro p e s m args below meth c s₁ B hml hv
  obtain ⟨rfl, hsz, hP, hK, hD, hG⟩ := hv
  have hx := B.exec
  have hb := B.bytes
  have hr := B.returns
  have hts : ∀ w ∈ allW, w.before _ s = true := fun w hw => atoms_spec (ws := w_O_requireSample) B.pre w (List.mem_cons_of_mem _ hw)
  have hown : s.vm.findClass R_O = some m.cls := findClass_of_methodNamed B.named
  have hlocks := B.notSynchronized
  subst hsz
  have hts0 := atoms_spec (ws := w_O_requireSample) B.pre
  have hnoh : ∀ x ∈ c.exceptionTable.toList, ∀ pc, covers x pc = false := fun x hxm pc => covers_of_empty (B.noHandlers (hts0 _ List.mem_cons_self)) pc x hxm
  generalize hQf : XQ below E 1 6 ([.ref a_this, .int x1, .int x2] : List Value).toArray s = Qf
  have hl := lv_entry ([.ref a_this, .int x1, .int x2]) (n := 3) (Nat.le_of_ble_eq_true rfl)
  rw [lg_entry_eq]
  generalize (lg_sl ([.ref a_this, .int x1, .int x2]) ++ List.replicate (3 - (lg_sl ([.ref a_this, .int x1, .int x2])).length) Slot.unset).toArray = ls at hl ⊢
  have hl : lv_has ls 3 [(0, .ref a_this), (1, .int x1), (2, .int x2)] := hl
  unfold tp_O_requireSample at h
  refine lv_aload_n hx hb d_O_requireSample_0 rfl (lv_at hl 0 rfl) ?_
  refine va_get (D := (dC, dI)) (ci := 0) (v := .ref a_picture) (C := R_O) (T := F_O) (N := 4) hx hb hts i_O_in hown hK hP 0 rfl rfl 0 (by decide) (hts _ q_194) (fun _ h9 => h9) rfl d_O_requireSample_1 ?_
  refine lv_iload_n hx hb d_O_requireSample_4 rfl (lv_at hl 1 rfl) ?_
  refine lv_iload_n hx hb d_O_requireSample_5 rfl (lv_at hl 2 rfl) ?_
  obtain ⟨Q6, hq6, h⟩ := h
  have hPc := hP.sub (ws' := (cw_P_has a_picture a_picture_colours c_picture_width c_picture_height)) [1] rfl
  have hDc := hD.sub (ws' := (cw_P_has a_picture a_picture_colours c_picture_width c_picture_height)) [1] (by decide) rfl
  refine ro_calli (va_runV (As := [.int x1, .int x2]) (rest := []) ⟨hx, hb, hml, hown, hts⟩ (s_P_has l dC dI cI cB cJ cZ a_picture a_picture_colours s.heap.size c_picture_width c_picture_height x1 x2 Q6 hq6) (cwV 2 hts (goodV q_258 q_259 q_260 q_2 q_261) rfl rfl rfl (by decide +kernel) ⟨Nat.le_of_ble_eq_true rfl, Nat.le_of_ble_eq_true rfl⟩) ⟨fun a U g mk q => by obtain ⟨q0, q1, qP, qK, qD⟩ := q; exact ⟨q0, q1, qP, va_K.moved (u := U) (U := U.calling g mk a) (Vm.Alike.refl U.vm) qK, qD⟩, va_recv hK hP (ci := 1) (q0 := 1) rfl rfl, fun U hU hW => ⟨rfl, by rw [hU], by rw [hU]; exact hPc, va_K.moved hW.alike hK, hDc⟩⟩ rfl rfl hl.1 rfl (lv_room (Nat.le_of_ble_eq_true rfl)) d_O_requireSample_6 ⟨Nat.le_of_ble_eq_true rfl, Nat.le_of_ble_eq_true rfl⟩) (fun r6 hw => ?_)
  have h := h r6 hw
  clear hPc hDc
  refine lv_if_ne (tgt := 22) hx hb d_O_requireSample_9 (by decide) (fun cc_ => ?_) (fun cc_ => ?_)
  · have h := h.1 cc_
    exact h.elim
  · have h := h.2 cc_
    subst h
    subst hQf
    exact xThrow (l := l) hx hb (hml.trans hl.1.symm) hown hlocks hnoh hfl (E := "java/lang/IndexOutOfBoundsException") (by decide +kernel) hG hts xai_0 (hts _ q_262) (hts _ q_11) (tx := "there is no such sample") (by decide +kernel) (Nat.le_of_ble_eq_true rfl) (Nat.le_of_ble_eq_true rfl) (Nat.le_of_ble_eq_true rfl) (Nat.le_of_ble_eq_true rfl) d_O_requireSample_12 d_O_requireSample_15 d_O_requireSample_16 d_O_requireSample_18 d_O_requireSample_21
def tp_O_requireRange_J10 (E : String) : Prop :=
  E = "java/lang/IllegalArgumentException"
def tp_O_requireRange (x0 : Int32) (x1 : Int32) (x2 : Int32) (E : String) : Prop :=
  (x0 < x1 → tp_O_requireRange_J10 E) ∧ (¬ x0 < x1 → (x0 ≤ x2 → False) ∧ (¬ x0 ≤ x2 → tp_O_requireRange_J10 E))
set_option maxHeartbeats 4000000 in
set_option maxRecDepth 100000 in
theorem x_O_requireRange (l : Launch) (hfl : l.stackTraces = false) (dC : Nat → ClassId) (dI : Nat → Nat → Nat) (cI cB cJ cZ : ClassId) (sz : Nat) (x0 : Int32) (x1 : Int32) (x2 : Int32) (AX : Nat → Prop) (E : String) (h : tp_O_requireRange x0 x1 x2 E) : MetX l y_O_requireRange w_O_requireRange ({ frames := 6, cells := 1, slots := 6, locals := 110 }) (va_Pc [.int x0, .int x1, .int x2] (fun U => U.heap.size = sz ∧ va_P (dC, dI) vwCl (cw_O_requireRange) U.heap ∧ va_K (dC, dI) vwCl [(cI, .int), (cB, .byte), (cJ, .long), (cZ, .boolean)] U ∧ va_D (fun _ => True) (cw_O_requireRange) ∧ XG AX U U.heap)) E 1 6 := by
  refine MetX.ofW (cc := b_O_requireRange) (maxL := 3) (ret := none) (by decide +kernel) rfl ?_
  intro p e s m args below meth c s₁ B hml hv
  obtain ⟨rfl, hsz, hP, hK, hD, hG⟩ := hv
  have hx := B.exec
  have hb := B.bytes
  have hr := B.returns
  have hts : ∀ w ∈ allW, w.before _ s = true := fun w hw => atoms_spec (ws := w_O_requireRange) B.pre w (List.mem_cons_of_mem _ hw)
  have hown : s.vm.findClass R_O = some m.cls := findClass_of_methodNamed B.named
  have hlocks := B.notSynchronized
  subst hsz
  have hts0 := atoms_spec (ws := w_O_requireRange) B.pre
  have hnoh : ∀ x ∈ c.exceptionTable.toList, ∀ pc, covers x pc = false := fun x hxm pc => covers_of_empty (B.noHandlers (hts0 _ List.mem_cons_self)) pc x hxm
  generalize hQf : XQ below E 1 6 ([.int x0, .int x1, .int x2] : List Value).toArray s = Qf
  have hl := lv_entry ([.int x0, .int x1, .int x2]) (n := 3) (Nat.le_of_ble_eq_true rfl)
  rw [lg_entry_eq]
  generalize (lg_sl ([.int x0, .int x1, .int x2]) ++ List.replicate (3 - (lg_sl ([.int x0, .int x1, .int x2])).length) Slot.unset).toArray = ls at hl ⊢
  have hl : lv_has ls 3 [(0, .int x0), (1, .int x1), (2, .int x2)] := hl
  unfold tp_O_requireRange at h
  have J10 : ∀ (ls : Array Slot), tp_O_requireRange_J10 E → lv_has ls 3 [] → W p l e (headSpec w_O_requireRange ({ frames := 6, cells := 1, slots := 6, locals := 110 })).room s m ([.int x0, .int x1, .int x2] : List Value).toArray below meth c s.heap [] 0 0 Qf (F0 m 10 ls []) := by
    intro ls h hl
    unfold tp_O_requireRange_J10 at h
    subst h
    subst hQf
    exact xThrow (l := l) hx hb (hml.trans hl.1.symm) hown hlocks hnoh hfl (E := "java/lang/IllegalArgumentException") (by decide +kernel) hG hts xai_2 (hts _ q_333) (hts _ q_12) (tx := "a number is none that is told") (by decide +kernel) (Nat.le_of_ble_eq_true rfl) (Nat.le_of_ble_eq_true rfl) (Nat.le_of_ble_eq_true rfl) (Nat.le_of_ble_eq_true rfl) d_O_requireRange_10 d_O_requireRange_13 d_O_requireRange_14 d_O_requireRange_16 d_O_requireRange_19
  refine lv_iload_n hx hb d_O_requireRange_0 rfl (lv_at hl 0 rfl) ?_
  refine lv_iload_n hx hb d_O_requireRange_1 rfl (lv_at hl 1 rfl) ?_
  refine lv_icmp_lt (tgt := 10) hx hb d_O_requireRange_2 (by decide) (fun cc_ => ?_) (fun cc_ => ?_)
  · have h := h.1 cc_
    exact J10 _ h (lv_sub hl [] rfl)
  · have h := h.2 cc_
    refine lv_iload_n hx hb d_O_requireRange_5 rfl (lv_at hl 0 rfl) ?_
    refine lv_iload_n hx hb d_O_requireRange_6 rfl (lv_at hl 2 rfl) ?_
    refine lv_icmp_le (tgt := 20) hx hb d_O_requireRange_7 (by decide) (fun cc_ => ?_) (fun cc_ => ?_)
    · have h := h.1 cc_
      exact h.elim
    · have h := h.2 cc_
      exact J10 _ h (lv_sub hl [] rfl)
def tp_O_put (n_picture_colours : Nat) (c_picture_width : Int32) (c_picture_height : Int32) (f_picture_colours : Nat → Int32) (c_outlines_count : Int32) (c_outlines_traced : Int32) (c_shape_count : Int32) (c_shape_cost : Int32) (c_row_count : Int32) (x1 : Int32) (x2 : Int32) (x3 : Int32) (x4 : Int32) (E : String) : Prop :=
  (tp_O_requireSample c_picture_width c_picture_height x1 x2 E) ∨ ∃ Q3 : Unit → Prop, wp_O_requireSample c_picture_width c_picture_height x1 x2 Q3 ∧ ∀ (_ : Unit), Q3 () → (tp_O_requireRange x3 (1 : Int32) (2147483647 : Int32) E) ∨ ∃ Q10 : Unit → Prop, wp_O_requireRange x3 (1 : Int32) (2147483647 : Int32) Q10 ∧ ∀ (_ : Unit), Q10 () → (tp_O_requireRange x4 (0 : Int32) (7 : Int32) E) ∨ ∃ Q18 : Unit → Prop, wp_O_requireRange x4 (0 : Int32) (7 : Int32) Q18 ∧ ∀ (_ : Unit), Q18 () → False
set_option maxHeartbeats 4000000 in
set_option maxRecDepth 100000 in
theorem x_O_put (l : Launch) (hfl : l.stackTraces = false) (dC : Nat → ClassId) (dI : Nat → Nat → Nat) (cI cB cJ cZ : ClassId) (a_this a_picture a_picture_colours a_outlines a_shape a_row a_outlines_xs a_outlines_ys a_outlines_begins a_outlines_layers a_outlines_areas a_outlines_walked a_shape_costs a_shape_rest a_shape_restByTwo a_shape_points a_shape_xs a_shape_ys a_shape_angles a_shape_turns a_row_fewest a_row_takenLengths a_row_takenPulls a_row_firsts a_row_lengths a_row_pulls a_row_handX a_row_handY : Nat) (sz : Nat) (n_picture_colours : Nat) (c_picture_width : Int32) (c_picture_height : Int32) (f_picture_colours : Nat → Int32) (c_outlines_count : Int32) (c_outlines_traced : Int32) (c_shape_count : Int32) (c_shape_cost : Int32) (c_row_count : Int32) (x1 : Int32) (x2 : Int32) (x3 : Int32) (x4 : Int32) (AX : Nat → Prop) (E : String) (h : tp_O_put n_picture_colours c_picture_width c_picture_height f_picture_colours c_outlines_count c_outlines_traced c_shape_count c_shape_cost c_row_count x1 x2 x3 x4 E) : MetX l y_O_put w_O_put ({ frames := 7, cells := 1, slots := 6, locals := 132 }) (va_Pc [.ref a_this, .int x1, .int x2, .int x3, .int x4] (fun U => U.heap.size = sz ∧ va_P (dC, dI) vwCl (cw_O_put cB a_this a_picture a_picture_colours a_outlines a_shape a_row a_outlines_xs a_outlines_ys a_outlines_begins a_outlines_layers a_outlines_areas a_outlines_walked a_shape_costs a_shape_rest a_shape_restByTwo a_shape_points a_shape_xs a_shape_ys a_shape_angles a_shape_turns a_row_fewest a_row_takenLengths a_row_takenPulls a_row_firsts a_row_lengths a_row_pulls a_row_handX a_row_handY n_picture_colours c_picture_width c_picture_height f_picture_colours c_outlines_count c_outlines_traced c_shape_count c_shape_cost c_row_count) U.heap ∧ va_K (dC, dI) vwCl [(cI, .int), (cB, .byte), (cJ, .long), (cZ, .boolean)] U ∧ va_D (fun _ => True) (cw_O_put cB a_this a_picture a_picture_colours a_outlines a_shape a_row a_outlines_xs a_outlines_ys a_outlines_begins a_outlines_layers a_outlines_areas a_outlines_walked a_shape_costs a_shape_rest a_shape_restByTwo a_shape_points a_shape_xs a_shape_ys a_shape_angles a_shape_turns a_row_fewest a_row_takenLengths a_row_takenPulls a_row_firsts a_row_lengths a_row_pulls a_row_handX a_row_handY n_picture_colours c_picture_width c_picture_height f_picture_colours c_outlines_count c_outlines_traced c_shape_count c_shape_cost c_row_count) ∧ XG AX U U.heap)) E 1 6 := by
  refine MetX.ofW (cc := b_O_put) (maxL := 6) (ret := (some .int)) (by decide +kernel) rfl ?_
  intro p e s m args below meth c s₁ B hml hv
  obtain ⟨rfl, hsz, hP, hK, hD, hG⟩ := hv
  have hx := B.exec
  have hb := B.bytes
  have hr := B.returns
  have hts : ∀ w ∈ allW, w.before _ s = true := fun w hw => atoms_spec (ws := w_O_put) B.pre w (List.mem_cons_of_mem _ hw)
  have hown : s.vm.findClass R_O = some m.cls := findClass_of_methodNamed B.named
  have hlocks := B.notSynchronized
  subst hsz
  have hts0 := atoms_spec (ws := w_O_put) B.pre
  have hnoh : ∀ x ∈ c.exceptionTable.toList, ∀ pc, covers x pc = false := fun x hxm pc => covers_of_empty (B.noHandlers (hts0 _ List.mem_cons_self)) pc x hxm
  generalize hQf : XQ below E 1 6 ([.ref a_this, .int x1, .int x2, .int x3, .int x4] : List Value).toArray s = Qf
  have hl := lv_entry ([.ref a_this, .int x1, .int x2, .int x3, .int x4]) (n := 6) (Nat.le_of_ble_eq_true rfl)
  rw [lg_entry_eq]
  generalize (lg_sl ([.ref a_this, .int x1, .int x2, .int x3, .int x4]) ++ List.replicate (6 - (lg_sl ([.ref a_this, .int x1, .int x2, .int x3, .int x4])).length) Slot.unset).toArray = ls at hl ⊢
  have hl : lv_has ls 6 [(0, .ref a_this), (1, .int x1), (2, .int x2), (3, .int x3), (4, .int x4)] := hl
  unfold tp_O_put at h
  refine lv_aload_n hx hb d_O_put_0 rfl (lv_at hl 0 rfl) ?_
  refine lv_iload_n hx hb d_O_put_1 rfl (lv_at hl 1 rfl) ?_
  refine lv_iload_n hx hb d_O_put_2 rfl (lv_at hl 2 rfl) ?_
  rcases h with h | h
  · have hPc := hP.sub (ws' := (cw_O_requireSample a_this a_picture a_outlines a_shape a_row a_picture_colours c_picture_width c_picture_height)) [0, 1] rfl
    have hDc := hD.sub (ws' := (cw_O_requireSample a_this a_picture a_outlines a_shape a_row a_picture_colours c_picture_width c_picture_height)) [0, 1] (by decide) rfl
    subst hQf
    exact xLeave (xRunV (As := [.int x1, .int x2]) (rest := []) ⟨hx, hb, hml, hown, hts⟩ (x_O_requireSample l hfl dC dI cI cB cJ cZ a_this a_picture a_outlines a_shape a_row a_picture_colours s.heap.size c_picture_width c_picture_height x1 x2 AX E h) (cwV 2 hts (goodV q_254 q_256 q_p1 q_1 q_257) rfl rfl rfl (by decide +kernel) ⟨Nat.le_of_ble_eq_true rfl, Nat.le_of_ble_eq_true rfl⟩) ⟨fun a U g mk q => by obtain ⟨q0, q1, qP, qK, qD, qG⟩ := q; exact ⟨q0, q1, qP, va_K.moved (u := U) (U := U.calling g mk a) (Vm.Alike.refl U.vm) qK, qD, qG.calling⟩, va_recv hK hP (ci := 0) (q0 := 0) rfl rfl, fun U hU hW => ⟨rfl, by rw [hU], by rw [hU]; exact hPc, va_K.moved hW.alike hK, hDc, by rw [hU]; exact hG.warm hW⟩⟩ rfl rfl hl.1 rfl (lv_room (Nat.le_of_ble_eq_true rfl)) d_O_put_3 ⟨Nat.le_of_ble_eq_true rfl, Nat.le_of_ble_eq_true rfl⟩) hlocks (fun x hxm => hnoh x hxm _)
  obtain ⟨Q3, hq3, h⟩ := h
  have hPc := hP.sub (ws' := (cw_O_requireSample a_this a_picture a_outlines a_shape a_row a_picture_colours c_picture_width c_picture_height)) [0, 1] rfl
  have hDc := hD.sub (ws' := (cw_O_requireSample a_this a_picture a_outlines a_shape a_row a_picture_colours c_picture_width c_picture_height)) [0, 1] (by decide) rfl
  refine ro_callv (va_runV (As := [.int x1, .int x2]) (rest := []) ⟨hx, hb, hml, hown, hts⟩ (s_O_requireSample l dC dI cI cB cJ cZ a_this a_picture a_outlines a_shape a_row a_picture_colours s.heap.size c_picture_width c_picture_height x1 x2 Q3 hq3) (cwV 2 hts (goodV q_254 q_256 q_p1 q_1 q_257) rfl rfl rfl (by decide +kernel) ⟨Nat.le_of_ble_eq_true rfl, Nat.le_of_ble_eq_true rfl⟩) ⟨fun a U g mk q => by obtain ⟨q0, q1, qP, qK, qD⟩ := q; exact ⟨q0, q1, qP, va_K.moved (u := U) (U := U.calling g mk a) (Vm.Alike.refl U.vm) qK, qD⟩, va_recv hK hP (ci := 0) (q0 := 0) rfl rfl, fun U hU hW => ⟨rfl, by rw [hU], by rw [hU]; exact hPc, va_K.moved hW.alike hK, hDc⟩⟩ rfl rfl hl.1 rfl (lv_room (Nat.le_of_ble_eq_true rfl)) d_O_put_3 ⟨Nat.le_of_ble_eq_true rfl, Nat.le_of_ble_eq_true rfl⟩) (fun hw => ?_)
  have h := h () hw
  clear hPc hDc
  refine lv_iload_n hx hb d_O_put_6 rfl (lv_at hl 3 rfl) ?_
  refine lv_iconst (v := 1) hx hb d_O_put_7 (by decide) ?_
  refine lv_ldc (v := 2147483647) hx hb hown (hts _ q_329) d_O_put_8 ?_
  rcases h with h | h
  · have hPc := hP.sub (ws' := (cw_O_requireRange)) [] rfl
    have hDc := hD.sub (ws' := (cw_O_requireRange)) [] (by decide) rfl
    subst hQf
    exact xLeave (xRunS (As := [.int x3, .int (1 : Int32), .int (2147483647 : Int32)]) (rest := []) ⟨hx, hb, hml, hown, hts⟩ (x_O_requireRange l hfl dC dI cI cB cJ cZ s.heap.size x3 (1 : Int32) (2147483647 : Int32) AX E h) (va_cwS 3 hts (goodS q_330 q_331 q_1 q_332) rfl rfl rfl (by decide +kernel) ⟨Nat.le_of_ble_eq_true rfl, Nat.le_of_ble_eq_true rfl⟩) ⟨fun a U g mk q => by obtain ⟨q0, q1, qP, qK, qD, qG⟩ := q; exact ⟨q0, q1, qP, va_K.moved (u := U) (U := U.calling g mk a) (Vm.Alike.refl U.vm) qK, qD, qG.calling⟩, fun U hU hW => ⟨rfl, by rw [hU], by rw [hU]; exact hPc, va_K.moved hW.alike hK, hDc, by rw [hU]; exact hG.warm hW⟩⟩ rfl rfl hl.1 rfl (lv_room (Nat.le_of_ble_eq_true rfl)) d_O_put_10 ⟨Nat.le_of_ble_eq_true rfl, Nat.le_of_ble_eq_true rfl⟩) hlocks (fun x hxm => hnoh x hxm _)
  obtain ⟨Q10, hq10, h⟩ := h
  have hPc := hP.sub (ws' := (cw_O_requireRange)) [] rfl
  have hDc := hD.sub (ws' := (cw_O_requireRange)) [] (by decide) rfl
  refine ro_callv (va_runS (As := [.int x3, .int (1 : Int32), .int (2147483647 : Int32)]) (rest := []) ⟨hx, hb, hml, hown, hts⟩ (s_O_requireRange l dC dI cI cB cJ cZ s.heap.size x3 (1 : Int32) (2147483647 : Int32) Q10 hq10) (va_cwS 3 hts (goodS q_330 q_331 q_1 q_332) rfl rfl rfl (by decide +kernel) ⟨Nat.le_of_ble_eq_true rfl, Nat.le_of_ble_eq_true rfl⟩) ⟨fun a U g mk q => by obtain ⟨q0, q1, qP, qK, qD⟩ := q; exact ⟨q0, q1, qP, va_K.moved (u := U) (U := U.calling g mk a) (Vm.Alike.refl U.vm) qK, qD⟩, fun U hU hW => ⟨rfl, by rw [hU], by rw [hU]; exact hPc, va_K.moved hW.alike hK, hDc⟩⟩ rfl rfl hl.1 rfl (lv_room (Nat.le_of_ble_eq_true rfl)) d_O_put_10 ⟨Nat.le_of_ble_eq_true rfl, Nat.le_of_ble_eq_true rfl⟩) (fun hw => ?_)
  have h := h () hw
  clear hPc hDc
  refine lv_iload hx hb d_O_put_13 (lv_at hl 4 rfl) ?_
  refine lv_iconst (v := 0) hx hb d_O_put_15 (by decide) ?_
  refine lv_bipush (v := 7) hx hb d_O_put_16 (by decide) ?_
  rcases h with h | h
  · have hPc := hP.sub (ws' := (cw_O_requireRange)) [] rfl
    have hDc := hD.sub (ws' := (cw_O_requireRange)) [] (by decide) rfl
    subst hQf
    exact xLeave (xRunS (As := [.int x4, .int (0 : Int32), .int (7 : Int32)]) (rest := []) ⟨hx, hb, hml, hown, hts⟩ (x_O_requireRange l hfl dC dI cI cB cJ cZ s.heap.size x4 (0 : Int32) (7 : Int32) AX E h) (va_cwS 3 hts (goodS q_330 q_331 q_1 q_332) rfl rfl rfl (by decide +kernel) ⟨Nat.le_of_ble_eq_true rfl, Nat.le_of_ble_eq_true rfl⟩) ⟨fun a U g mk q => by obtain ⟨q0, q1, qP, qK, qD, qG⟩ := q; exact ⟨q0, q1, qP, va_K.moved (u := U) (U := U.calling g mk a) (Vm.Alike.refl U.vm) qK, qD, qG.calling⟩, fun U hU hW => ⟨rfl, by rw [hU], by rw [hU]; exact hPc, va_K.moved hW.alike hK, hDc, by rw [hU]; exact hG.warm hW⟩⟩ rfl rfl hl.1 rfl (lv_room (Nat.le_of_ble_eq_true rfl)) d_O_put_18 ⟨Nat.le_of_ble_eq_true rfl, Nat.le_of_ble_eq_true rfl⟩) hlocks (fun x hxm => hnoh x hxm _)
  obtain ⟨Q18, hq18, h⟩ := h
  have hPc := hP.sub (ws' := (cw_O_requireRange)) [] rfl
  have hDc := hD.sub (ws' := (cw_O_requireRange)) [] (by decide) rfl
  refine ro_callv (va_runS (As := [.int x4, .int (0 : Int32), .int (7 : Int32)]) (rest := []) ⟨hx, hb, hml, hown, hts⟩ (s_O_requireRange l dC dI cI cB cJ cZ s.heap.size x4 (0 : Int32) (7 : Int32) Q18 hq18) (va_cwS 3 hts (goodS q_330 q_331 q_1 q_332) rfl rfl rfl (by decide +kernel) ⟨Nat.le_of_ble_eq_true rfl, Nat.le_of_ble_eq_true rfl⟩) ⟨fun a U g mk q => by obtain ⟨q0, q1, qP, qK, qD⟩ := q; exact ⟨q0, q1, qP, va_K.moved (u := U) (U := U.calling g mk a) (Vm.Alike.refl U.vm) qK, qD⟩, fun U hU hW => ⟨rfl, by rw [hU], by rw [hU]; exact hPc, va_K.moved hW.alike hK, hDc⟩⟩ rfl rfl hl.1 rfl (lv_room (Nat.le_of_ble_eq_true rfl)) d_O_put_18 ⟨Nat.le_of_ble_eq_true rfl, Nat.le_of_ble_eq_true rfl⟩) (fun hw => ?_)
  have h := h () hw
  clear hPc hDc
  refine lv_aload_n hx hb d_O_put_21 rfl (lv_at hl 0 rfl) ?_
  refine va_get (D := (dC, dI)) (ci := 0) (v := .ref a_picture) (C := R_O) (T := F_O) (N := 4) hx hb hts i_O_in hown hK hP 0 rfl rfl 0 (by decide) (hts _ q_194) (fun _ h9 => h9) rfl d_O_put_22 ?_
  refine lv_iload_n hx hb d_O_put_25 rfl (lv_at hl 1 rfl) ?_
  refine lv_iload_n hx hb d_O_put_26 rfl (lv_at hl 2 rfl) ?_
  refine lv_iload_n hx hb d_O_put_27 rfl (lv_at hl 3 rfl) ?_
  refine lv_iload hx hb d_O_put_28 (lv_at hl 4 rfl) ?_
  exact h.elim
def tp_O_trace (n_outlines_walked n_picture_colours n_outlines_layers n_outlines_begins n_outlines_areas n_outlines_xs n_outlines_ys : Nat) (c_outlines_count : Int32) (c_outlines_traced : Int32) (c_shape_count : Int32) (c_shape_cost : Int32) (c_row_count : Int32) (f_outlines_walked : Nat → Int32) (c_picture_width : Int32) (c_picture_height : Int32) (f_picture_colours : Nat → Int32) (f_outlines_layers : Nat → Int32) (f_outlines_begins : Nat → Int32) (f_outlines_areas : Nat → Int32) (f_outlines_xs : Nat → Int32) (f_outlines_ys : Nat → Int32) (x1 : Int32) (x2 : Int32) (E : String) : Prop :=
  (tp_O_requireRange x1 (0 : Int32) (3 : Int32) E) ∨ ∃ Q3 : Unit → Prop, wp_O_requireRange x1 (0 : Int32) (3 : Int32) Q3 ∧ ∀ (_ : Unit), Q3 () → (tp_O_requireRange x2 (0 : Int32) (256 : Int32) E) ∨ ∃ Q11 : Unit → Prop, wp_O_requireRange x2 (0 : Int32) (256 : Int32) Q11 ∧ ∀ (_ : Unit), Q11 () → False
set_option maxHeartbeats 4000000 in
set_option maxRecDepth 100000 in
theorem x_O_trace (l : Launch) (hfl : l.stackTraces = false) (dC : Nat → ClassId) (dI : Nat → Nat → Nat) (cI cB cJ cZ : ClassId) (a_this a_outlines a_shape a_row a_outlines_walked a_picture a_picture_colours a_outlines_layers a_outlines_begins a_outlines_areas a_outlines_xs a_outlines_ys a_shape_costs a_shape_rest a_shape_restByTwo a_shape_points a_shape_xs a_shape_ys a_shape_angles a_shape_turns a_row_fewest a_row_takenLengths a_row_takenPulls a_row_firsts a_row_lengths a_row_pulls a_row_handX a_row_handY : Nat) (sz : Nat) (n_outlines_walked n_picture_colours n_outlines_layers n_outlines_begins n_outlines_areas n_outlines_xs n_outlines_ys : Nat) (c_outlines_count : Int32) (c_outlines_traced : Int32) (c_shape_count : Int32) (c_shape_cost : Int32) (c_row_count : Int32) (f_outlines_walked : Nat → Int32) (c_picture_width : Int32) (c_picture_height : Int32) (f_picture_colours : Nat → Int32) (f_outlines_layers : Nat → Int32) (f_outlines_begins : Nat → Int32) (f_outlines_areas : Nat → Int32) (f_outlines_xs : Nat → Int32) (f_outlines_ys : Nat → Int32) (x1 : Int32) (x2 : Int32) (AX : Nat → Prop) (E : String) (h : tp_O_trace n_outlines_walked n_picture_colours n_outlines_layers n_outlines_begins n_outlines_areas n_outlines_xs n_outlines_ys c_outlines_count c_outlines_traced c_shape_count c_shape_cost c_row_count f_outlines_walked c_picture_width c_picture_height f_picture_colours f_outlines_layers f_outlines_begins f_outlines_areas f_outlines_xs f_outlines_ys x1 x2 E) : MetX l y_O_trace w_O_trace ({ frames := 7, cells := 1, slots := 6, locals := 179 }) (va_Pc [.ref a_this, .int x1, .int x2] (fun U => U.heap.size = sz ∧ va_P (dC, dI) vwCl (cw_O_trace cB cI a_this a_outlines a_shape a_row a_outlines_walked a_picture a_picture_colours a_outlines_layers a_outlines_begins a_outlines_areas a_outlines_xs a_outlines_ys a_shape_costs a_shape_rest a_shape_restByTwo a_shape_points a_shape_xs a_shape_ys a_shape_angles a_shape_turns a_row_fewest a_row_takenLengths a_row_takenPulls a_row_firsts a_row_lengths a_row_pulls a_row_handX a_row_handY n_outlines_walked n_picture_colours n_outlines_layers n_outlines_begins n_outlines_areas n_outlines_xs n_outlines_ys c_outlines_count c_outlines_traced c_shape_count c_shape_cost c_row_count f_outlines_walked c_picture_width c_picture_height f_picture_colours f_outlines_layers f_outlines_begins f_outlines_areas f_outlines_xs f_outlines_ys) U.heap ∧ va_K (dC, dI) vwCl [(cI, .int), (cB, .byte), (cJ, .long), (cZ, .boolean)] U ∧ va_D (fun _ => True) (cw_O_trace cB cI a_this a_outlines a_shape a_row a_outlines_walked a_picture a_picture_colours a_outlines_layers a_outlines_begins a_outlines_areas a_outlines_xs a_outlines_ys a_shape_costs a_shape_rest a_shape_restByTwo a_shape_points a_shape_xs a_shape_ys a_shape_angles a_shape_turns a_row_fewest a_row_takenLengths a_row_takenPulls a_row_firsts a_row_lengths a_row_pulls a_row_handX a_row_handY n_outlines_walked n_picture_colours n_outlines_layers n_outlines_begins n_outlines_areas n_outlines_xs n_outlines_ys c_outlines_count c_outlines_traced c_shape_count c_shape_cost c_row_count f_outlines_walked c_picture_width c_picture_height f_picture_colours f_outlines_layers f_outlines_begins f_outlines_areas f_outlines_xs f_outlines_ys) ∧ XG AX U U.heap)) E 1 6 := by
  refine MetX.ofW (cc := b_O_trace) (maxL := 4) (ret := (some .int)) (by decide +kernel) rfl ?_
  intro p e s m args below meth c s₁ B hml hv
  obtain ⟨rfl, hsz, hP, hK, hD, hG⟩ := hv
  have hx := B.exec
  have hb := B.bytes
  have hr := B.returns
  have hts : ∀ w ∈ allW, w.before _ s = true := fun w hw => atoms_spec (ws := w_O_trace) B.pre w (List.mem_cons_of_mem _ hw)
  have hown : s.vm.findClass R_O = some m.cls := findClass_of_methodNamed B.named
  have hlocks := B.notSynchronized
  subst hsz
  have hts0 := atoms_spec (ws := w_O_trace) B.pre
  have hnoh : ∀ x ∈ c.exceptionTable.toList, ∀ pc, covers x pc = false := fun x hxm pc => covers_of_empty (B.noHandlers (hts0 _ List.mem_cons_self)) pc x hxm
  generalize hQf : XQ below E 1 6 ([.ref a_this, .int x1, .int x2] : List Value).toArray s = Qf
  have hl := lv_entry ([.ref a_this, .int x1, .int x2]) (n := 4) (Nat.le_of_ble_eq_true rfl)
  rw [lg_entry_eq]
  generalize (lg_sl ([.ref a_this, .int x1, .int x2]) ++ List.replicate (4 - (lg_sl ([.ref a_this, .int x1, .int x2])).length) Slot.unset).toArray = ls at hl ⊢
  have hl : lv_has ls 4 [(0, .ref a_this), (1, .int x1), (2, .int x2)] := hl
  unfold tp_O_trace at h
  refine lv_iload_n hx hb d_O_trace_0 rfl (lv_at hl 1 rfl) ?_
  refine lv_iconst (v := 0) hx hb d_O_trace_1 (by decide) ?_
  refine lv_iconst (v := 3) hx hb d_O_trace_2 (by decide) ?_
  rcases h with h | h
  · have hPc := hP.sub (ws' := (cw_O_requireRange)) [] rfl
    have hDc := hD.sub (ws' := (cw_O_requireRange)) [] (by decide) rfl
    subst hQf
    exact xLeave (xRunS (As := [.int x1, .int (0 : Int32), .int (3 : Int32)]) (rest := []) ⟨hx, hb, hml, hown, hts⟩ (x_O_requireRange l hfl dC dI cI cB cJ cZ s.heap.size x1 (0 : Int32) (3 : Int32) AX E h) (va_cwS 3 hts (goodS q_330 q_331 q_1 q_332) rfl rfl rfl (by decide +kernel) ⟨Nat.le_of_ble_eq_true rfl, Nat.le_of_ble_eq_true rfl⟩) ⟨fun a U g mk q => by obtain ⟨q0, q1, qP, qK, qD, qG⟩ := q; exact ⟨q0, q1, qP, va_K.moved (u := U) (U := U.calling g mk a) (Vm.Alike.refl U.vm) qK, qD, qG.calling⟩, fun U hU hW => ⟨rfl, by rw [hU], by rw [hU]; exact hPc, va_K.moved hW.alike hK, hDc, by rw [hU]; exact hG.warm hW⟩⟩ rfl rfl hl.1 rfl (lv_room (Nat.le_of_ble_eq_true rfl)) d_O_trace_3 ⟨Nat.le_of_ble_eq_true rfl, Nat.le_of_ble_eq_true rfl⟩) hlocks (fun x hxm => hnoh x hxm _)
  obtain ⟨Q3, hq3, h⟩ := h
  have hPc := hP.sub (ws' := (cw_O_requireRange)) [] rfl
  have hDc := hD.sub (ws' := (cw_O_requireRange)) [] (by decide) rfl
  refine ro_callv (va_runS (As := [.int x1, .int (0 : Int32), .int (3 : Int32)]) (rest := []) ⟨hx, hb, hml, hown, hts⟩ (s_O_requireRange l dC dI cI cB cJ cZ s.heap.size x1 (0 : Int32) (3 : Int32) Q3 hq3) (va_cwS 3 hts (goodS q_330 q_331 q_1 q_332) rfl rfl rfl (by decide +kernel) ⟨Nat.le_of_ble_eq_true rfl, Nat.le_of_ble_eq_true rfl⟩) ⟨fun a U g mk q => by obtain ⟨q0, q1, qP, qK, qD⟩ := q; exact ⟨q0, q1, qP, va_K.moved (u := U) (U := U.calling g mk a) (Vm.Alike.refl U.vm) qK, qD⟩, fun U hU hW => ⟨rfl, by rw [hU], by rw [hU]; exact hPc, va_K.moved hW.alike hK, hDc⟩⟩ rfl rfl hl.1 rfl (lv_room (Nat.le_of_ble_eq_true rfl)) d_O_trace_3 ⟨Nat.le_of_ble_eq_true rfl, Nat.le_of_ble_eq_true rfl⟩) (fun hw => ?_)
  have h := h () hw
  clear hPc hDc
  refine lv_iload_n hx hb d_O_trace_6 rfl (lv_at hl 2 rfl) ?_
  refine lv_iconst (v := 0) hx hb d_O_trace_7 (by decide) ?_
  refine lv_sipush (v := 256) hx hb d_O_trace_8 (by decide) ?_
  rcases h with h | h
  · have hPc := hP.sub (ws' := (cw_O_requireRange)) [] rfl
    have hDc := hD.sub (ws' := (cw_O_requireRange)) [] (by decide) rfl
    subst hQf
    exact xLeave (xRunS (As := [.int x2, .int (0 : Int32), .int (256 : Int32)]) (rest := []) ⟨hx, hb, hml, hown, hts⟩ (x_O_requireRange l hfl dC dI cI cB cJ cZ s.heap.size x2 (0 : Int32) (256 : Int32) AX E h) (va_cwS 3 hts (goodS q_330 q_331 q_1 q_332) rfl rfl rfl (by decide +kernel) ⟨Nat.le_of_ble_eq_true rfl, Nat.le_of_ble_eq_true rfl⟩) ⟨fun a U g mk q => by obtain ⟨q0, q1, qP, qK, qD, qG⟩ := q; exact ⟨q0, q1, qP, va_K.moved (u := U) (U := U.calling g mk a) (Vm.Alike.refl U.vm) qK, qD, qG.calling⟩, fun U hU hW => ⟨rfl, by rw [hU], by rw [hU]; exact hPc, va_K.moved hW.alike hK, hDc, by rw [hU]; exact hG.warm hW⟩⟩ rfl rfl hl.1 rfl (lv_room (Nat.le_of_ble_eq_true rfl)) d_O_trace_11 ⟨Nat.le_of_ble_eq_true rfl, Nat.le_of_ble_eq_true rfl⟩) hlocks (fun x hxm => hnoh x hxm _)
  obtain ⟨Q11, hq11, h⟩ := h
  have hPc := hP.sub (ws' := (cw_O_requireRange)) [] rfl
  have hDc := hD.sub (ws' := (cw_O_requireRange)) [] (by decide) rfl
  refine ro_callv (va_runS (As := [.int x2, .int (0 : Int32), .int (256 : Int32)]) (rest := []) ⟨hx, hb, hml, hown, hts⟩ (s_O_requireRange l dC dI cI cB cJ cZ s.heap.size x2 (0 : Int32) (256 : Int32) Q11 hq11) (va_cwS 3 hts (goodS q_330 q_331 q_1 q_332) rfl rfl rfl (by decide +kernel) ⟨Nat.le_of_ble_eq_true rfl, Nat.le_of_ble_eq_true rfl⟩) ⟨fun a U g mk q => by obtain ⟨q0, q1, qP, qK, qD⟩ := q; exact ⟨q0, q1, qP, va_K.moved (u := U) (U := U.calling g mk a) (Vm.Alike.refl U.vm) qK, qD⟩, fun U hU hW => ⟨rfl, by rw [hU], by rw [hU]; exact hPc, va_K.moved hW.alike hK, hDc⟩⟩ rfl rfl hl.1 rfl (lv_room (Nat.le_of_ble_eq_true rfl)) d_O_trace_11 ⟨Nat.le_of_ble_eq_true rfl, Nat.le_of_ble_eq_true rfl⟩) (fun hw => ?_)
  have h := h () hw
  clear hPc hDc
  refine lv_aload_n hx hb d_O_trace_14 rfl (lv_at hl 0 rfl) ?_
  exact h.elim
def tp_O_requireTraced (c_outlines_traced : Int32) (E : String) : Prop :=
  (¬ c_outlines_traced = 0 → False) ∧ (c_outlines_traced = 0 → E = "java/lang/IllegalStateException")
set_option maxHeartbeats 4000000 in
set_option maxRecDepth 100000 in
theorem x_O_requireTraced (l : Launch) (hfl : l.stackTraces = false) (dC : Nat → ClassId) (dI : Nat → Nat → Nat) (cI cB cJ cZ : ClassId) (a_this a_outlines a_picture a_shape a_row a_outlines_xs a_outlines_ys a_outlines_begins a_outlines_layers a_outlines_areas a_outlines_walked : Nat) (sz : Nat) (c_outlines_count : Int32) (c_outlines_traced : Int32) (AX : Nat → Prop) (E : String) (h : tp_O_requireTraced c_outlines_traced E) : MetX l y_O_requireTraced w_O_requireTraced ({ frames := 6, cells := 1, slots := 6, locals := 110 }) (va_Pc [.ref a_this] (fun U => U.heap.size = sz ∧ va_P (dC, dI) vwCl (cw_O_requireTraced a_this a_outlines a_picture a_shape a_row a_outlines_xs a_outlines_ys a_outlines_begins a_outlines_layers a_outlines_areas a_outlines_walked c_outlines_count c_outlines_traced) U.heap ∧ va_K (dC, dI) vwCl [(cI, .int), (cB, .byte), (cJ, .long), (cZ, .boolean)] U ∧ va_D (fun _ => True) (cw_O_requireTraced a_this a_outlines a_picture a_shape a_row a_outlines_xs a_outlines_ys a_outlines_begins a_outlines_layers a_outlines_areas a_outlines_walked c_outlines_count c_outlines_traced) ∧ XG AX U U.heap)) E 1 6 := by
  refine MetX.ofW (cc := b_O_requireTraced) (maxL := 1) (ret := none) (by decide +kernel) rfl ?_
  intro p e s m args below meth c s₁ B hml hv
  obtain ⟨rfl, hsz, hP, hK, hD, hG⟩ := hv
  have hx := B.exec
  have hb := B.bytes
  have hr := B.returns
  have hts : ∀ w ∈ allW, w.before _ s = true := fun w hw => atoms_spec (ws := w_O_requireTraced) B.pre w (List.mem_cons_of_mem _ hw)
  have hown : s.vm.findClass R_O = some m.cls := findClass_of_methodNamed B.named
  have hlocks := B.notSynchronized
  subst hsz
  have hts0 := atoms_spec (ws := w_O_requireTraced) B.pre
  have hnoh : ∀ x ∈ c.exceptionTable.toList, ∀ pc, covers x pc = false := fun x hxm pc => covers_of_empty (B.noHandlers (hts0 _ List.mem_cons_self)) pc x hxm
  generalize hQf : XQ below E 1 6 ([.ref a_this] : List Value).toArray s = Qf
  have hl := lv_entry ([.ref a_this]) (n := 1) (Nat.le_of_ble_eq_true rfl)
  rw [lg_entry_eq]
  generalize (lg_sl ([.ref a_this]) ++ List.replicate (1 - (lg_sl ([.ref a_this])).length) Slot.unset).toArray = ls at hl ⊢
  have hl : lv_has ls 1 [(0, .ref a_this)] := hl
  unfold tp_O_requireTraced at h
  refine lv_aload_n hx hb d_O_requireTraced_0 rfl (lv_at hl 0 rfl) ?_
  refine va_get (D := (dC, dI)) (ci := 0) (v := .ref a_outlines) (C := R_O) (T := F_O) (N := 4) hx hb hts i_O_in hown hK hP 0 rfl rfl 1 (by decide) (hts _ q_195) (fun _ h9 => h9) rfl d_O_requireTraced_1 ?_
  refine va_get (D := (dC, dI)) (ci := 2) (v := .int c_outlines_traced) (C := R_U) (T := F_U) (N := 9) hx hb hts i_U_in hown hK hP 1 rfl rfl 8 (by decide) (hts _ q_79) (fun _ h9 => h9) rfl d_O_requireTraced_4 ?_
  refine lv_if_ne (tgt := 20) hx hb d_O_requireTraced_7 (by decide) (fun cc_ => ?_) (fun cc_ => ?_)
  · have h := h.1 cc_
    exact h.elim
  · have h := h.2 cc_
    subst h
    subst hQf
    exact xThrow (l := l) hx hb (hml.trans hl.1.symm) hown hlocks hnoh hfl (E := "java/lang/IllegalStateException") (by decide +kernel) hG hts xai_1 (hts _ q_414) (hts _ q_14) (tx := "nothing was traced") (by decide +kernel) (Nat.le_of_ble_eq_true rfl) (Nat.le_of_ble_eq_true rfl) (Nat.le_of_ble_eq_true rfl) (Nat.le_of_ble_eq_true rfl) d_O_requireTraced_10 d_O_requireTraced_13 d_O_requireTraced_14 d_O_requireTraced_16 d_O_requireTraced_19
def tp_O_requireIndex_J9 (E : String) : Prop :=
  E = "java/lang/IndexOutOfBoundsException"
def tp_O_requireIndex (x0 : Int32) (x1 : Int32) (E : String) : Prop :=
  (x0 < 0 → tp_O_requireIndex_J9 E) ∧ (¬ x0 < 0 → (x0 < x1 → False) ∧ (¬ x0 < x1 → tp_O_requireIndex_J9 E))
set_option maxHeartbeats 4000000 in
set_option maxRecDepth 100000 in
theorem x_O_requireIndex (l : Launch) (hfl : l.stackTraces = false) (dC : Nat → ClassId) (dI : Nat → Nat → Nat) (cI cB cJ cZ : ClassId) (sz : Nat) (x0 : Int32) (x1 : Int32) (AX : Nat → Prop) (E : String) (h : tp_O_requireIndex x0 x1 E) : MetX l y_O_requireIndex w_O_requireIndex ({ frames := 6, cells := 1, slots := 6, locals := 110 }) (va_Pc [.int x0, .int x1] (fun U => U.heap.size = sz ∧ va_P (dC, dI) vwCl (cw_O_requireIndex) U.heap ∧ va_K (dC, dI) vwCl [(cI, .int), (cB, .byte), (cJ, .long), (cZ, .boolean)] U ∧ va_D (fun _ => True) (cw_O_requireIndex) ∧ XG AX U U.heap)) E 1 6 := by
  refine MetX.ofW (cc := b_O_requireIndex) (maxL := 2) (ret := none) (by decide +kernel) rfl ?_
  intro p e s m args below meth c s₁ B hml hv
  obtain ⟨rfl, hsz, hP, hK, hD, hG⟩ := hv
  have hx := B.exec
  have hb := B.bytes
  have hr := B.returns
  have hts : ∀ w ∈ allW, w.before _ s = true := fun w hw => atoms_spec (ws := w_O_requireIndex) B.pre w (List.mem_cons_of_mem _ hw)
  have hown : s.vm.findClass R_O = some m.cls := findClass_of_methodNamed B.named
  have hlocks := B.notSynchronized
  subst hsz
  have hts0 := atoms_spec (ws := w_O_requireIndex) B.pre
  have hnoh : ∀ x ∈ c.exceptionTable.toList, ∀ pc, covers x pc = false := fun x hxm pc => covers_of_empty (B.noHandlers (hts0 _ List.mem_cons_self)) pc x hxm
  generalize hQf : XQ below E 1 6 ([.int x0, .int x1] : List Value).toArray s = Qf
  have hl := lv_entry ([.int x0, .int x1]) (n := 2) (Nat.le_of_ble_eq_true rfl)
  rw [lg_entry_eq]
  generalize (lg_sl ([.int x0, .int x1]) ++ List.replicate (2 - (lg_sl ([.int x0, .int x1])).length) Slot.unset).toArray = ls at hl ⊢
  have hl : lv_has ls 2 [(0, .int x0), (1, .int x1)] := hl
  unfold tp_O_requireIndex at h
  have J9 : ∀ (ls : Array Slot), tp_O_requireIndex_J9 E → lv_has ls 2 [] → W p l e (headSpec w_O_requireIndex ({ frames := 6, cells := 1, slots := 6, locals := 110 })).room s m ([.int x0, .int x1] : List Value).toArray below meth c s.heap [] 0 0 Qf (F0 m 9 ls []) := by
    intro ls h hl
    unfold tp_O_requireIndex_J9 at h
    subst h
    subst hQf
    exact xThrow (l := l) hx hb (hml.trans hl.1.symm) hown hlocks hnoh hfl (E := "java/lang/IndexOutOfBoundsException") (by decide +kernel) hG hts xai_0 (hts _ q_262) (hts _ q_11) (tx := "there is no such outline, point, corner or curve") (by decide +kernel) (Nat.le_of_ble_eq_true rfl) (Nat.le_of_ble_eq_true rfl) (Nat.le_of_ble_eq_true rfl) (Nat.le_of_ble_eq_true rfl) d_O_requireIndex_9 d_O_requireIndex_12 d_O_requireIndex_13 d_O_requireIndex_15 d_O_requireIndex_18
  refine lv_iload_n hx hb d_O_requireIndex_0 rfl (lv_at hl 0 rfl) ?_
  refine lv_if_lt (tgt := 9) hx hb d_O_requireIndex_1 (by decide) (fun cc_ => ?_) (fun cc_ => ?_)
  · have h := h.1 cc_
    exact J9 _ h (lv_sub hl [] rfl)
  · have h := h.2 cc_
    refine lv_iload_n hx hb d_O_requireIndex_4 rfl (lv_at hl 0 rfl) ?_
    refine lv_iload_n hx hb d_O_requireIndex_5 rfl (lv_at hl 1 rfl) ?_
    refine lv_icmp_lt (tgt := 19) hx hb d_O_requireIndex_6 (by decide) (fun cc_ => ?_) (fun cc_ => ?_)
    · have h := h.1 cc_
      exact h.elim
    · have h := h.2 cc_
      exact J9 _ h (lv_sub hl [] rfl)
def tp_O_about (n_outlines_areas n_outlines_begins n_outlines_xs n_outlines_ys n_outlines_layers : Nat) (c_outlines_count : Int32) (c_outlines_traced : Int32) (f_outlines_areas : Nat → Int32) (f_outlines_begins : Nat → Int32) (f_outlines_xs : Nat → Int32) (f_outlines_ys : Nat → Int32) (f_outlines_layers : Nat → Int32) (x1 : Int32) (x2 : Int32) (E : String) : Prop :=
  (tp_O_requireTraced c_outlines_traced E) ∨ ∃ Q1 : Unit → Prop, wp_O_requireTraced c_outlines_traced Q1 ∧ ∀ (_ : Unit), Q1 () → (tp_O_requireIndex x1 c_outlines_count E) ∨ ∃ Q12 : Unit → Prop, wp_O_requireIndex x1 c_outlines_count Q12 ∧ ∀ (_ : Unit), Q12 () → False
set_option maxHeartbeats 4000000 in
set_option maxRecDepth 100000 in
theorem x_O_about (l : Launch) (hfl : l.stackTraces = false) (dC : Nat → ClassId) (dI : Nat → Nat → Nat) (cI cB cJ cZ : ClassId) (a_this a_outlines a_outlines_areas a_outlines_begins a_outlines_xs a_outlines_ys a_outlines_layers a_picture a_shape a_row a_outlines_walked : Nat) (sz : Nat) (n_outlines_areas n_outlines_begins n_outlines_xs n_outlines_ys n_outlines_layers : Nat) (c_outlines_count : Int32) (c_outlines_traced : Int32) (f_outlines_areas : Nat → Int32) (f_outlines_begins : Nat → Int32) (f_outlines_xs : Nat → Int32) (f_outlines_ys : Nat → Int32) (f_outlines_layers : Nat → Int32) (x1 : Int32) (x2 : Int32) (AX : Nat → Prop) (E : String) (h : tp_O_about n_outlines_areas n_outlines_begins n_outlines_xs n_outlines_ys n_outlines_layers c_outlines_count c_outlines_traced f_outlines_areas f_outlines_begins f_outlines_xs f_outlines_ys f_outlines_layers x1 x2 E) : MetX l y_O_about w_O_about ({ frames := 7, cells := 1, slots := 6, locals := 131 }) (va_Pc [.ref a_this, .int x1, .int x2] (fun U => U.heap.size = sz ∧ va_P (dC, dI) vwCl (cw_O_about cB cI a_this a_outlines a_outlines_areas a_outlines_begins a_outlines_xs a_outlines_ys a_outlines_layers a_picture a_shape a_row a_outlines_walked n_outlines_areas n_outlines_begins n_outlines_xs n_outlines_ys n_outlines_layers c_outlines_count c_outlines_traced f_outlines_areas f_outlines_begins f_outlines_xs f_outlines_ys f_outlines_layers) U.heap ∧ va_K (dC, dI) vwCl [(cI, .int), (cB, .byte), (cJ, .long), (cZ, .boolean)] U ∧ va_D (fun _ => True) (cw_O_about cB cI a_this a_outlines a_outlines_areas a_outlines_begins a_outlines_xs a_outlines_ys a_outlines_layers a_picture a_shape a_row a_outlines_walked n_outlines_areas n_outlines_begins n_outlines_xs n_outlines_ys n_outlines_layers c_outlines_count c_outlines_traced f_outlines_areas f_outlines_begins f_outlines_xs f_outlines_ys f_outlines_layers) ∧ XG AX U U.heap)) E 1 6 := by
  refine MetX.ofW (cc := b_O_about) (maxL := 3) (ret := (some .int)) (by decide +kernel) rfl ?_
  intro p e s m args below meth c s₁ B hml hv
  obtain ⟨rfl, hsz, hP, hK, hD, hG⟩ := hv
  have hx := B.exec
  have hb := B.bytes
  have hr := B.returns
  have hts : ∀ w ∈ allW, w.before _ s = true := fun w hw => atoms_spec (ws := w_O_about) B.pre w (List.mem_cons_of_mem _ hw)
  have hown : s.vm.findClass R_O = some m.cls := findClass_of_methodNamed B.named
  have hlocks := B.notSynchronized
  subst hsz
  have hts0 := atoms_spec (ws := w_O_about) B.pre
  have hnoh : ∀ x ∈ c.exceptionTable.toList, ∀ pc, covers x pc = false := fun x hxm pc => covers_of_empty (B.noHandlers (hts0 _ List.mem_cons_self)) pc x hxm
  generalize hQf : XQ below E 1 6 ([.ref a_this, .int x1, .int x2] : List Value).toArray s = Qf
  have hl := lv_entry ([.ref a_this, .int x1, .int x2]) (n := 3) (Nat.le_of_ble_eq_true rfl)
  rw [lg_entry_eq]
  generalize (lg_sl ([.ref a_this, .int x1, .int x2]) ++ List.replicate (3 - (lg_sl ([.ref a_this, .int x1, .int x2])).length) Slot.unset).toArray = ls at hl ⊢
  have hl : lv_has ls 3 [(0, .ref a_this), (1, .int x1), (2, .int x2)] := hl
  unfold tp_O_about at h
  refine lv_aload_n hx hb d_O_about_0 rfl (lv_at hl 0 rfl) ?_
  rcases h with h | h
  · have hPc := hP.sub (ws' := (cw_O_requireTraced a_this a_outlines a_picture a_shape a_row a_outlines_xs a_outlines_ys a_outlines_begins a_outlines_layers a_outlines_areas a_outlines_walked c_outlines_count c_outlines_traced)) [0, 1] rfl
    have hDc := hD.sub (ws' := (cw_O_requireTraced a_this a_outlines a_picture a_shape a_row a_outlines_xs a_outlines_ys a_outlines_begins a_outlines_layers a_outlines_areas a_outlines_walked c_outlines_count c_outlines_traced)) [0, 1] (by decide) rfl
    subst hQf
    exact xLeave (xRunV (As := []) (rest := []) ⟨hx, hb, hml, hown, hts⟩ (x_O_requireTraced l hfl dC dI cI cB cJ cZ a_this a_outlines a_picture a_shape a_row a_outlines_xs a_outlines_ys a_outlines_begins a_outlines_layers a_outlines_areas a_outlines_walked s.heap.size c_outlines_count c_outlines_traced AX E h) (cwV 0 hts (goodV q_410 q_412 q_p8 q_1 q_413) rfl rfl rfl (by decide +kernel) ⟨Nat.le_of_ble_eq_true rfl, Nat.le_of_ble_eq_true rfl⟩) ⟨fun a U g mk q => by obtain ⟨q0, q1, qP, qK, qD, qG⟩ := q; exact ⟨q0, q1, qP, va_K.moved (u := U) (U := U.calling g mk a) (Vm.Alike.refl U.vm) qK, qD, qG.calling⟩, va_recv hK hP (ci := 0) (q0 := 0) rfl rfl, fun U hU hW => ⟨rfl, by rw [hU], by rw [hU]; exact hPc, va_K.moved hW.alike hK, hDc, by rw [hU]; exact hG.warm hW⟩⟩ rfl rfl hl.1 rfl (lv_room (Nat.le_of_ble_eq_true rfl)) d_O_about_1 ⟨Nat.le_of_ble_eq_true rfl, Nat.le_of_ble_eq_true rfl⟩) hlocks (fun x hxm => hnoh x hxm _)
  obtain ⟨Q1, hq1, h⟩ := h
  have hPc := hP.sub (ws' := (cw_O_requireTraced a_this a_outlines a_picture a_shape a_row a_outlines_xs a_outlines_ys a_outlines_begins a_outlines_layers a_outlines_areas a_outlines_walked c_outlines_count c_outlines_traced)) [0, 1] rfl
  have hDc := hD.sub (ws' := (cw_O_requireTraced a_this a_outlines a_picture a_shape a_row a_outlines_xs a_outlines_ys a_outlines_begins a_outlines_layers a_outlines_areas a_outlines_walked c_outlines_count c_outlines_traced)) [0, 1] (by decide) rfl
  refine ro_callv (va_runV (As := []) (rest := []) ⟨hx, hb, hml, hown, hts⟩ (s_O_requireTraced l dC dI cI cB cJ cZ a_this a_outlines a_picture a_shape a_row a_outlines_xs a_outlines_ys a_outlines_begins a_outlines_layers a_outlines_areas a_outlines_walked s.heap.size c_outlines_count c_outlines_traced Q1 hq1) (cwV 0 hts (goodV q_410 q_412 q_p8 q_1 q_413) rfl rfl rfl (by decide +kernel) ⟨Nat.le_of_ble_eq_true rfl, Nat.le_of_ble_eq_true rfl⟩) ⟨fun a U g mk q => by obtain ⟨q0, q1, qP, qK, qD⟩ := q; exact ⟨q0, q1, qP, va_K.moved (u := U) (U := U.calling g mk a) (Vm.Alike.refl U.vm) qK, qD⟩, va_recv hK hP (ci := 0) (q0 := 0) rfl rfl, fun U hU hW => ⟨rfl, by rw [hU], by rw [hU]; exact hPc, va_K.moved hW.alike hK, hDc⟩⟩ rfl rfl hl.1 rfl (lv_room (Nat.le_of_ble_eq_true rfl)) d_O_about_1 ⟨Nat.le_of_ble_eq_true rfl, Nat.le_of_ble_eq_true rfl⟩) (fun hw => ?_)
  have h := h () hw
  clear hPc hDc
  refine lv_iload_n hx hb d_O_about_4 rfl (lv_at hl 1 rfl) ?_
  refine lv_aload_n hx hb d_O_about_5 rfl (lv_at hl 0 rfl) ?_
  refine va_get (D := (dC, dI)) (ci := 0) (v := .ref a_outlines) (C := R_O) (T := F_O) (N := 4) hx hb hts i_O_in hown hK hP 0 rfl rfl 1 (by decide) (hts _ q_195) (fun _ h9 => h9) rfl d_O_about_6 ?_
  refine va_get (D := (dC, dI)) (ci := 2) (v := .int c_outlines_count) (C := R_U) (T := F_U) (N := 9) hx hb hts i_U_in hown hK hP 1 rfl rfl 7 (by decide) (hts _ q_77) (fun _ h9 => h9) rfl d_O_about_9 ?_
  rcases h with h | h
  · have hPc := hP.sub (ws' := (cw_O_requireIndex)) [] rfl
    have hDc := hD.sub (ws' := (cw_O_requireIndex)) [] (by decide) rfl
    subst hQf
    exact xLeave (xRunS (As := [.int x1, .int c_outlines_count]) (rest := []) ⟨hx, hb, hml, hown, hts⟩ (x_O_requireIndex l hfl dC dI cI cB cJ cZ s.heap.size x1 c_outlines_count AX E h) (va_cwS 2 hts (goodS q_430 q_431 q_1 q_432) rfl rfl rfl (by decide +kernel) ⟨Nat.le_of_ble_eq_true rfl, Nat.le_of_ble_eq_true rfl⟩) ⟨fun a U g mk q => by obtain ⟨q0, q1, qP, qK, qD, qG⟩ := q; exact ⟨q0, q1, qP, va_K.moved (u := U) (U := U.calling g mk a) (Vm.Alike.refl U.vm) qK, qD, qG.calling⟩, fun U hU hW => ⟨rfl, by rw [hU], by rw [hU]; exact hPc, va_K.moved hW.alike hK, hDc, by rw [hU]; exact hG.warm hW⟩⟩ rfl rfl hl.1 rfl (lv_room (Nat.le_of_ble_eq_true rfl)) d_O_about_12 ⟨Nat.le_of_ble_eq_true rfl, Nat.le_of_ble_eq_true rfl⟩) hlocks (fun x hxm => hnoh x hxm _)
  obtain ⟨Q12, hq12, h⟩ := h
  have hPc := hP.sub (ws' := (cw_O_requireIndex)) [] rfl
  have hDc := hD.sub (ws' := (cw_O_requireIndex)) [] (by decide) rfl
  refine ro_callv (va_runS (As := [.int x1, .int c_outlines_count]) (rest := []) ⟨hx, hb, hml, hown, hts⟩ (s_O_requireIndex l dC dI cI cB cJ cZ s.heap.size x1 c_outlines_count Q12 hq12) (va_cwS 2 hts (goodS q_430 q_431 q_1 q_432) rfl rfl rfl (by decide +kernel) ⟨Nat.le_of_ble_eq_true rfl, Nat.le_of_ble_eq_true rfl⟩) ⟨fun a U g mk q => by obtain ⟨q0, q1, qP, qK, qD⟩ := q; exact ⟨q0, q1, qP, va_K.moved (u := U) (U := U.calling g mk a) (Vm.Alike.refl U.vm) qK, qD⟩, fun U hU hW => ⟨rfl, by rw [hU], by rw [hU]; exact hPc, va_K.moved hW.alike hK, hDc⟩⟩ rfl rfl hl.1 rfl (lv_room (Nat.le_of_ble_eq_true rfl)) d_O_about_12 ⟨Nat.le_of_ble_eq_true rfl, Nat.le_of_ble_eq_true rfl⟩) (fun hw => ?_)
  have h := h () hw
  clear hPc hDc
  refine lv_iload_n hx hb d_O_about_15 rfl (lv_at hl 2 rfl) ?_
  exact h.elim
def tp_O_requirePoint (n_outlines_begins : Nat) (c_outlines_count : Int32) (c_outlines_traced : Int32) (f_outlines_begins : Nat → Int32) (x1 : Int32) (x2 : Int32) (E : String) : Prop :=
  (tp_O_requireTraced c_outlines_traced E) ∨ ∃ Q1 : Unit → Prop, wp_O_requireTraced c_outlines_traced Q1 ∧ ∀ (_ : Unit), Q1 () → (tp_O_requireIndex x1 c_outlines_count E) ∨ ∃ Q12 : Unit → Prop, wp_O_requireIndex x1 c_outlines_count Q12 ∧ ∀ (_ : Unit), Q12 () → ∃ Q21 : Int32 → Unit → Prop, wp_U_length n_outlines_begins f_outlines_begins x1 Q21 ∧ ∀ (r21 : Int32), Q21 r21 () → (tp_O_requireIndex x2 r21 E) ∨ ∃ Q24 : Unit → Prop, wp_O_requireIndex x2 r21 Q24 ∧ ∀ (_ : Unit), Q24 () → False
set_option maxHeartbeats 4000000 in
set_option maxRecDepth 100000 in
theorem x_O_requirePoint (l : Launch) (hfl : l.stackTraces = false) (dC : Nat → ClassId) (dI : Nat → Nat → Nat) (cI cB cJ cZ : ClassId) (a_this a_outlines a_outlines_begins a_picture a_shape a_row a_outlines_xs a_outlines_ys a_outlines_layers a_outlines_areas a_outlines_walked : Nat) (sz : Nat) (n_outlines_begins : Nat) (c_outlines_count : Int32) (c_outlines_traced : Int32) (f_outlines_begins : Nat → Int32) (x1 : Int32) (x2 : Int32) (AX : Nat → Prop) (E : String) (h : tp_O_requirePoint n_outlines_begins c_outlines_count c_outlines_traced f_outlines_begins x1 x2 E) : MetX l y_O_requirePoint w_O_requirePoint ({ frames := 7, cells := 1, slots := 6, locals := 131 }) (va_Pc [.ref a_this, .int x1, .int x2] (fun U => U.heap.size = sz ∧ va_P (dC, dI) vwCl (cw_O_requirePoint cI a_this a_outlines a_outlines_begins a_picture a_shape a_row a_outlines_xs a_outlines_ys a_outlines_layers a_outlines_areas a_outlines_walked n_outlines_begins c_outlines_count c_outlines_traced f_outlines_begins) U.heap ∧ va_K (dC, dI) vwCl [(cI, .int), (cB, .byte), (cJ, .long), (cZ, .boolean)] U ∧ va_D (fun _ => True) (cw_O_requirePoint cI a_this a_outlines a_outlines_begins a_picture a_shape a_row a_outlines_xs a_outlines_ys a_outlines_layers a_outlines_areas a_outlines_walked n_outlines_begins c_outlines_count c_outlines_traced f_outlines_begins) ∧ XG AX U U.heap)) E 1 6 := by
  refine MetX.ofW (cc := b_O_requirePoint) (maxL := 3) (ret := none) (by decide +kernel) rfl ?_
  intro p e s m args below meth c s₁ B hml hv
  obtain ⟨rfl, hsz, hP, hK, hD, hG⟩ := hv
  have hx := B.exec
  have hb := B.bytes
  have hr := B.returns
  have hts : ∀ w ∈ allW, w.before _ s = true := fun w hw => atoms_spec (ws := w_O_requirePoint) B.pre w (List.mem_cons_of_mem _ hw)
  have hown : s.vm.findClass R_O = some m.cls := findClass_of_methodNamed B.named
  have hlocks := B.notSynchronized
  subst hsz
  have hts0 := atoms_spec (ws := w_O_requirePoint) B.pre
  have hnoh : ∀ x ∈ c.exceptionTable.toList, ∀ pc, covers x pc = false := fun x hxm pc => covers_of_empty (B.noHandlers (hts0 _ List.mem_cons_self)) pc x hxm
  generalize hQf : XQ below E 1 6 ([.ref a_this, .int x1, .int x2] : List Value).toArray s = Qf
  have hl := lv_entry ([.ref a_this, .int x1, .int x2]) (n := 3) (Nat.le_of_ble_eq_true rfl)
  rw [lg_entry_eq]
  generalize (lg_sl ([.ref a_this, .int x1, .int x2]) ++ List.replicate (3 - (lg_sl ([.ref a_this, .int x1, .int x2])).length) Slot.unset).toArray = ls at hl ⊢
  have hl : lv_has ls 3 [(0, .ref a_this), (1, .int x1), (2, .int x2)] := hl
  unfold tp_O_requirePoint at h
  refine lv_aload_n hx hb d_O_requirePoint_0 rfl (lv_at hl 0 rfl) ?_
  rcases h with h | h
  · have hPc := hP.sub (ws' := (cw_O_requireTraced a_this a_outlines a_picture a_shape a_row a_outlines_xs a_outlines_ys a_outlines_begins a_outlines_layers a_outlines_areas a_outlines_walked c_outlines_count c_outlines_traced)) [0, 1] rfl
    have hDc := hD.sub (ws' := (cw_O_requireTraced a_this a_outlines a_picture a_shape a_row a_outlines_xs a_outlines_ys a_outlines_begins a_outlines_layers a_outlines_areas a_outlines_walked c_outlines_count c_outlines_traced)) [0, 1] (by decide) rfl
    subst hQf
    exact xLeave (xRunV (As := []) (rest := []) ⟨hx, hb, hml, hown, hts⟩ (x_O_requireTraced l hfl dC dI cI cB cJ cZ a_this a_outlines a_picture a_shape a_row a_outlines_xs a_outlines_ys a_outlines_begins a_outlines_layers a_outlines_areas a_outlines_walked s.heap.size c_outlines_count c_outlines_traced AX E h) (cwV 0 hts (goodV q_410 q_412 q_p8 q_1 q_413) rfl rfl rfl (by decide +kernel) ⟨Nat.le_of_ble_eq_true rfl, Nat.le_of_ble_eq_true rfl⟩) ⟨fun a U g mk q => by obtain ⟨q0, q1, qP, qK, qD, qG⟩ := q; exact ⟨q0, q1, qP, va_K.moved (u := U) (U := U.calling g mk a) (Vm.Alike.refl U.vm) qK, qD, qG.calling⟩, va_recv hK hP (ci := 0) (q0 := 0) rfl rfl, fun U hU hW => ⟨rfl, by rw [hU], by rw [hU]; exact hPc, va_K.moved hW.alike hK, hDc, by rw [hU]; exact hG.warm hW⟩⟩ rfl rfl hl.1 rfl (lv_room (Nat.le_of_ble_eq_true rfl)) d_O_requirePoint_1 ⟨Nat.le_of_ble_eq_true rfl, Nat.le_of_ble_eq_true rfl⟩) hlocks (fun x hxm => hnoh x hxm _)
  obtain ⟨Q1, hq1, h⟩ := h
  have hPc := hP.sub (ws' := (cw_O_requireTraced a_this a_outlines a_picture a_shape a_row a_outlines_xs a_outlines_ys a_outlines_begins a_outlines_layers a_outlines_areas a_outlines_walked c_outlines_count c_outlines_traced)) [0, 1] rfl
  have hDc := hD.sub (ws' := (cw_O_requireTraced a_this a_outlines a_picture a_shape a_row a_outlines_xs a_outlines_ys a_outlines_begins a_outlines_layers a_outlines_areas a_outlines_walked c_outlines_count c_outlines_traced)) [0, 1] (by decide) rfl
  refine ro_callv (va_runV (As := []) (rest := []) ⟨hx, hb, hml, hown, hts⟩ (s_O_requireTraced l dC dI cI cB cJ cZ a_this a_outlines a_picture a_shape a_row a_outlines_xs a_outlines_ys a_outlines_begins a_outlines_layers a_outlines_areas a_outlines_walked s.heap.size c_outlines_count c_outlines_traced Q1 hq1) (cwV 0 hts (goodV q_410 q_412 q_p8 q_1 q_413) rfl rfl rfl (by decide +kernel) ⟨Nat.le_of_ble_eq_true rfl, Nat.le_of_ble_eq_true rfl⟩) ⟨fun a U g mk q => by obtain ⟨q0, q1, qP, qK, qD⟩ := q; exact ⟨q0, q1, qP, va_K.moved (u := U) (U := U.calling g mk a) (Vm.Alike.refl U.vm) qK, qD⟩, va_recv hK hP (ci := 0) (q0 := 0) rfl rfl, fun U hU hW => ⟨rfl, by rw [hU], by rw [hU]; exact hPc, va_K.moved hW.alike hK, hDc⟩⟩ rfl rfl hl.1 rfl (lv_room (Nat.le_of_ble_eq_true rfl)) d_O_requirePoint_1 ⟨Nat.le_of_ble_eq_true rfl, Nat.le_of_ble_eq_true rfl⟩) (fun hw => ?_)
  have h := h () hw
  clear hPc hDc
  refine lv_iload_n hx hb d_O_requirePoint_4 rfl (lv_at hl 1 rfl) ?_
  refine lv_aload_n hx hb d_O_requirePoint_5 rfl (lv_at hl 0 rfl) ?_
  refine va_get (D := (dC, dI)) (ci := 0) (v := .ref a_outlines) (C := R_O) (T := F_O) (N := 4) hx hb hts i_O_in hown hK hP 0 rfl rfl 1 (by decide) (hts _ q_195) (fun _ h9 => h9) rfl d_O_requirePoint_6 ?_
  refine va_get (D := (dC, dI)) (ci := 2) (v := .int c_outlines_count) (C := R_U) (T := F_U) (N := 9) hx hb hts i_U_in hown hK hP 1 rfl rfl 7 (by decide) (hts _ q_77) (fun _ h9 => h9) rfl d_O_requirePoint_9 ?_
  rcases h with h | h
  · have hPc := hP.sub (ws' := (cw_O_requireIndex)) [] rfl
    have hDc := hD.sub (ws' := (cw_O_requireIndex)) [] (by decide) rfl
    subst hQf
    exact xLeave (xRunS (As := [.int x1, .int c_outlines_count]) (rest := []) ⟨hx, hb, hml, hown, hts⟩ (x_O_requireIndex l hfl dC dI cI cB cJ cZ s.heap.size x1 c_outlines_count AX E h) (va_cwS 2 hts (goodS q_430 q_431 q_1 q_432) rfl rfl rfl (by decide +kernel) ⟨Nat.le_of_ble_eq_true rfl, Nat.le_of_ble_eq_true rfl⟩) ⟨fun a U g mk q => by obtain ⟨q0, q1, qP, qK, qD, qG⟩ := q; exact ⟨q0, q1, qP, va_K.moved (u := U) (U := U.calling g mk a) (Vm.Alike.refl U.vm) qK, qD, qG.calling⟩, fun U hU hW => ⟨rfl, by rw [hU], by rw [hU]; exact hPc, va_K.moved hW.alike hK, hDc, by rw [hU]; exact hG.warm hW⟩⟩ rfl rfl hl.1 rfl (lv_room (Nat.le_of_ble_eq_true rfl)) d_O_requirePoint_12 ⟨Nat.le_of_ble_eq_true rfl, Nat.le_of_ble_eq_true rfl⟩) hlocks (fun x hxm => hnoh x hxm _)
  obtain ⟨Q12, hq12, h⟩ := h
  have hPc := hP.sub (ws' := (cw_O_requireIndex)) [] rfl
  have hDc := hD.sub (ws' := (cw_O_requireIndex)) [] (by decide) rfl
  refine ro_callv (va_runS (As := [.int x1, .int c_outlines_count]) (rest := []) ⟨hx, hb, hml, hown, hts⟩ (s_O_requireIndex l dC dI cI cB cJ cZ s.heap.size x1 c_outlines_count Q12 hq12) (va_cwS 2 hts (goodS q_430 q_431 q_1 q_432) rfl rfl rfl (by decide +kernel) ⟨Nat.le_of_ble_eq_true rfl, Nat.le_of_ble_eq_true rfl⟩) ⟨fun a U g mk q => by obtain ⟨q0, q1, qP, qK, qD⟩ := q; exact ⟨q0, q1, qP, va_K.moved (u := U) (U := U.calling g mk a) (Vm.Alike.refl U.vm) qK, qD⟩, fun U hU hW => ⟨rfl, by rw [hU], by rw [hU]; exact hPc, va_K.moved hW.alike hK, hDc⟩⟩ rfl rfl hl.1 rfl (lv_room (Nat.le_of_ble_eq_true rfl)) d_O_requirePoint_12 ⟨Nat.le_of_ble_eq_true rfl, Nat.le_of_ble_eq_true rfl⟩) (fun hw => ?_)
  have h := h () hw
  clear hPc hDc
  refine lv_iload_n hx hb d_O_requirePoint_15 rfl (lv_at hl 2 rfl) ?_
  refine lv_aload_n hx hb d_O_requirePoint_16 rfl (lv_at hl 0 rfl) ?_
  refine va_get (D := (dC, dI)) (ci := 0) (v := .ref a_outlines) (C := R_O) (T := F_O) (N := 4) hx hb hts i_O_in hown hK hP 0 rfl rfl 1 (by decide) (hts _ q_195) (fun _ h9 => h9) rfl d_O_requirePoint_17 ?_
  refine lv_iload_n hx hb d_O_requirePoint_20 rfl (lv_at hl 1 rfl) ?_
  obtain ⟨Q21, hq21, h⟩ := h
  have hPc := hP.sub (ws' := (cw_U_length cI a_outlines a_outlines_begins a_picture a_outlines_xs a_outlines_ys a_outlines_layers a_outlines_areas a_outlines_walked n_outlines_begins c_outlines_count c_outlines_traced f_outlines_begins)) [1, 2] rfl
  have hDc := hD.sub (ws' := (cw_U_length cI a_outlines a_outlines_begins a_picture a_outlines_xs a_outlines_ys a_outlines_layers a_outlines_areas a_outlines_walked n_outlines_begins c_outlines_count c_outlines_traced f_outlines_begins)) [1, 2] (by decide) rfl
  refine ro_calli (va_runV (As := [.int x1]) (rest := [.int x2]) ⟨hx, hb, hml, hown, hts⟩ (s_U_length l dC dI cI cB cJ cZ a_outlines a_outlines_begins a_picture a_outlines_xs a_outlines_ys a_outlines_layers a_outlines_areas a_outlines_walked s.heap.size n_outlines_begins c_outlines_count c_outlines_traced f_outlines_begins x1 Q21 hq21) (cwV 1 hts (goodV q_434 q_435 q_436 q_4 q_437) rfl rfl rfl (by decide +kernel) ⟨Nat.le_of_ble_eq_true rfl, Nat.le_of_ble_eq_true rfl⟩) ⟨fun a U g mk q => by obtain ⟨q0, q1, qP, qK, qD⟩ := q; exact ⟨q0, q1, qP, va_K.moved (u := U) (U := U.calling g mk a) (Vm.Alike.refl U.vm) qK, qD⟩, va_recv hK hP (ci := 2) (q0 := 1) rfl rfl, fun U hU hW => ⟨rfl, by rw [hU], by rw [hU]; exact hPc, va_K.moved hW.alike hK, hDc⟩⟩ rfl rfl hl.1 rfl (lv_room (Nat.le_of_ble_eq_true rfl)) d_O_requirePoint_21 ⟨Nat.le_of_ble_eq_true rfl, Nat.le_of_ble_eq_true rfl⟩) (fun r21 hw => ?_)
  have h := h r21 hw
  clear hPc hDc
  rcases h with h | h
  · have hPc := hP.sub (ws' := (cw_O_requireIndex)) [] rfl
    have hDc := hD.sub (ws' := (cw_O_requireIndex)) [] (by decide) rfl
    subst hQf
    exact xLeave (xRunS (As := [.int x2, .int r21]) (rest := []) ⟨hx, hb, hml, hown, hts⟩ (x_O_requireIndex l hfl dC dI cI cB cJ cZ s.heap.size x2 r21 AX E h) (va_cwS 2 hts (goodS q_430 q_431 q_1 q_432) rfl rfl rfl (by decide +kernel) ⟨Nat.le_of_ble_eq_true rfl, Nat.le_of_ble_eq_true rfl⟩) ⟨fun a U g mk q => by obtain ⟨q0, q1, qP, qK, qD, qG⟩ := q; exact ⟨q0, q1, qP, va_K.moved (u := U) (U := U.calling g mk a) (Vm.Alike.refl U.vm) qK, qD, qG.calling⟩, fun U hU hW => ⟨rfl, by rw [hU], by rw [hU]; exact hPc, va_K.moved hW.alike hK, hDc, by rw [hU]; exact hG.warm hW⟩⟩ rfl rfl hl.1 rfl (lv_room (Nat.le_of_ble_eq_true rfl)) d_O_requirePoint_24 ⟨Nat.le_of_ble_eq_true rfl, Nat.le_of_ble_eq_true rfl⟩) hlocks (fun x hxm => hnoh x hxm _)
  obtain ⟨Q24, hq24, h⟩ := h
  have hPc := hP.sub (ws' := (cw_O_requireIndex)) [] rfl
  have hDc := hD.sub (ws' := (cw_O_requireIndex)) [] (by decide) rfl
  refine ro_callv (va_runS (As := [.int x2, .int r21]) (rest := []) ⟨hx, hb, hml, hown, hts⟩ (s_O_requireIndex l dC dI cI cB cJ cZ s.heap.size x2 r21 Q24 hq24) (va_cwS 2 hts (goodS q_430 q_431 q_1 q_432) rfl rfl rfl (by decide +kernel) ⟨Nat.le_of_ble_eq_true rfl, Nat.le_of_ble_eq_true rfl⟩) ⟨fun a U g mk q => by obtain ⟨q0, q1, qP, qK, qD⟩ := q; exact ⟨q0, q1, qP, va_K.moved (u := U) (U := U.calling g mk a) (Vm.Alike.refl U.vm) qK, qD⟩, fun U hU hW => ⟨rfl, by rw [hU], by rw [hU]; exact hPc, va_K.moved hW.alike hK, hDc⟩⟩ rfl rfl hl.1 rfl (lv_room (Nat.le_of_ble_eq_true rfl)) d_O_requirePoint_24 ⟨Nat.le_of_ble_eq_true rfl, Nat.le_of_ble_eq_true rfl⟩) (fun hw => ?_)
  have h := h () hw
  clear hPc hDc
  exact h.elim
def tp_O_point (n_outlines_begins n_outlines_ys n_outlines_xs : Nat) (c_outlines_count : Int32) (c_outlines_traced : Int32) (f_outlines_begins : Nat → Int32) (f_outlines_ys : Nat → Int32) (f_outlines_xs : Nat → Int32) (x1 : Int32) (x2 : Int32) (x3 : Int32) (E : String) : Prop :=
  (tp_O_requirePoint n_outlines_begins c_outlines_count c_outlines_traced f_outlines_begins x1 x2 E) ∨ ∃ Q3 : Unit → Prop, wp_O_requirePoint n_outlines_begins c_outlines_count c_outlines_traced f_outlines_begins x1 x2 Q3 ∧ ∀ (_ : Unit), Q3 () → (tp_O_requireRange x3 (0 : Int32) (1 : Int32) E) ∨ ∃ Q9 : Unit → Prop, wp_O_requireRange x3 (0 : Int32) (1 : Int32) Q9 ∧ ∀ (_ : Unit), Q9 () → vp_in x1 n_outlines_begins ∧ ∀ x4_23 : Int32, x4_23 = ((f_outlines_begins x1.toNatClampNeg) + x2) → False
set_option maxHeartbeats 4000000 in
set_option maxRecDepth 100000 in
theorem x_O_point (l : Launch) (hfl : l.stackTraces = false) (dC : Nat → ClassId) (dI : Nat → Nat → Nat) (cI cB cJ cZ : ClassId) (a_this a_outlines a_outlines_begins a_outlines_ys a_outlines_xs a_picture a_shape a_row a_outlines_layers a_outlines_areas a_outlines_walked : Nat) (sz : Nat) (n_outlines_begins n_outlines_ys n_outlines_xs : Nat) (c_outlines_count : Int32) (c_outlines_traced : Int32) (f_outlines_begins : Nat → Int32) (f_outlines_ys : Nat → Int32) (f_outlines_xs : Nat → Int32) (x1 : Int32) (x2 : Int32) (x3 : Int32) (AX : Nat → Prop) (E : String) (h : tp_O_point n_outlines_begins n_outlines_ys n_outlines_xs c_outlines_count c_outlines_traced f_outlines_begins f_outlines_ys f_outlines_xs x1 x2 x3 E) : MetX l y_O_point w_O_point ({ frames := 8, cells := 1, slots := 6, locals := 153 }) (va_Pc [.ref a_this, .int x1, .int x2, .int x3] (fun U => U.heap.size = sz ∧ va_P (dC, dI) vwCl (cw_O_point cB cI a_this a_outlines a_outlines_begins a_outlines_ys a_outlines_xs a_picture a_shape a_row a_outlines_layers a_outlines_areas a_outlines_walked n_outlines_begins n_outlines_ys n_outlines_xs c_outlines_count c_outlines_traced f_outlines_begins f_outlines_ys f_outlines_xs) U.heap ∧ va_K (dC, dI) vwCl [(cI, .int), (cB, .byte), (cJ, .long), (cZ, .boolean)] U ∧ va_D (fun _ => True) (cw_O_point cB cI a_this a_outlines a_outlines_begins a_outlines_ys a_outlines_xs a_picture a_shape a_row a_outlines_layers a_outlines_areas a_outlines_walked n_outlines_begins n_outlines_ys n_outlines_xs c_outlines_count c_outlines_traced f_outlines_begins f_outlines_ys f_outlines_xs) ∧ XG AX U U.heap)) E 1 6 := by
  refine MetX.ofW (cc := b_O_point) (maxL := 5) (ret := (some .int)) (by decide +kernel) rfl ?_
  intro p e s m args below meth c s₁ B hml hv
  obtain ⟨rfl, hsz, hP, hK, hD, hG⟩ := hv
  have hx := B.exec
  have hb := B.bytes
  have hr := B.returns
  have hts : ∀ w ∈ allW, w.before _ s = true := fun w hw => atoms_spec (ws := w_O_point) B.pre w (List.mem_cons_of_mem _ hw)
  have hown : s.vm.findClass R_O = some m.cls := findClass_of_methodNamed B.named
  have hlocks := B.notSynchronized
  subst hsz
  have hts0 := atoms_spec (ws := w_O_point) B.pre
  have hnoh : ∀ x ∈ c.exceptionTable.toList, ∀ pc, covers x pc = false := fun x hxm pc => covers_of_empty (B.noHandlers (hts0 _ List.mem_cons_self)) pc x hxm
  generalize hQf : XQ below E 1 6 ([.ref a_this, .int x1, .int x2, .int x3] : List Value).toArray s = Qf
  have hl := lv_entry ([.ref a_this, .int x1, .int x2, .int x3]) (n := 5) (Nat.le_of_ble_eq_true rfl)
  rw [lg_entry_eq]
  generalize (lg_sl ([.ref a_this, .int x1, .int x2, .int x3]) ++ List.replicate (5 - (lg_sl ([.ref a_this, .int x1, .int x2, .int x3])).length) Slot.unset).toArray = ls at hl ⊢
  have hl : lv_has ls 5 [(0, .ref a_this), (1, .int x1), (2, .int x2), (3, .int x3)] := hl
  unfold tp_O_point at h
  refine lv_aload_n hx hb d_O_point_0 rfl (lv_at hl 0 rfl) ?_
  refine lv_iload_n hx hb d_O_point_1 rfl (lv_at hl 1 rfl) ?_
  refine lv_iload_n hx hb d_O_point_2 rfl (lv_at hl 2 rfl) ?_
  rcases h with h | h
  · have hPc := hP.sub (ws' := (cw_O_requirePoint cI a_this a_outlines a_outlines_begins a_picture a_shape a_row a_outlines_xs a_outlines_ys a_outlines_layers a_outlines_areas a_outlines_walked n_outlines_begins c_outlines_count c_outlines_traced f_outlines_begins)) [0, 1, 2] rfl
    have hDc := hD.sub (ws' := (cw_O_requirePoint cI a_this a_outlines a_outlines_begins a_picture a_shape a_row a_outlines_xs a_outlines_ys a_outlines_layers a_outlines_areas a_outlines_walked n_outlines_begins c_outlines_count c_outlines_traced f_outlines_begins)) [0, 1, 2] (by decide) rfl
    subst hQf
    exact xLeave (xRunV (As := [.int x1, .int x2]) (rest := []) ⟨hx, hb, hml, hown, hts⟩ (x_O_requirePoint l hfl dC dI cI cB cJ cZ a_this a_outlines a_outlines_begins a_picture a_shape a_row a_outlines_xs a_outlines_ys a_outlines_layers a_outlines_areas a_outlines_walked s.heap.size n_outlines_begins c_outlines_count c_outlines_traced f_outlines_begins x1 x2 AX E h) (cwV 2 hts (goodV q_455 q_457 q_p10 q_1 q_458) rfl rfl rfl (by decide +kernel) ⟨Nat.le_of_ble_eq_true rfl, Nat.le_of_ble_eq_true rfl⟩) ⟨fun a U g mk q => by obtain ⟨q0, q1, qP, qK, qD, qG⟩ := q; exact ⟨q0, q1, qP, va_K.moved (u := U) (U := U.calling g mk a) (Vm.Alike.refl U.vm) qK, qD, qG.calling⟩, va_recv hK hP (ci := 0) (q0 := 0) rfl rfl, fun U hU hW => ⟨rfl, by rw [hU], by rw [hU]; exact hPc, va_K.moved hW.alike hK, hDc, by rw [hU]; exact hG.warm hW⟩⟩ rfl rfl hl.1 rfl (lv_room (Nat.le_of_ble_eq_true rfl)) d_O_point_3 ⟨Nat.le_of_ble_eq_true rfl, Nat.le_of_ble_eq_true rfl⟩) hlocks (fun x hxm => hnoh x hxm _)
  obtain ⟨Q3, hq3, h⟩ := h
  have hPc := hP.sub (ws' := (cw_O_requirePoint cI a_this a_outlines a_outlines_begins a_picture a_shape a_row a_outlines_xs a_outlines_ys a_outlines_layers a_outlines_areas a_outlines_walked n_outlines_begins c_outlines_count c_outlines_traced f_outlines_begins)) [0, 1, 2] rfl
  have hDc := hD.sub (ws' := (cw_O_requirePoint cI a_this a_outlines a_outlines_begins a_picture a_shape a_row a_outlines_xs a_outlines_ys a_outlines_layers a_outlines_areas a_outlines_walked n_outlines_begins c_outlines_count c_outlines_traced f_outlines_begins)) [0, 1, 2] (by decide) rfl
  refine ro_callv (va_runV (As := [.int x1, .int x2]) (rest := []) ⟨hx, hb, hml, hown, hts⟩ (s_O_requirePoint l dC dI cI cB cJ cZ a_this a_outlines a_outlines_begins a_picture a_shape a_row a_outlines_xs a_outlines_ys a_outlines_layers a_outlines_areas a_outlines_walked s.heap.size n_outlines_begins c_outlines_count c_outlines_traced f_outlines_begins x1 x2 Q3 hq3) (cwV 2 hts (goodV q_455 q_457 q_p10 q_1 q_458) rfl rfl rfl (by decide +kernel) ⟨Nat.le_of_ble_eq_true rfl, Nat.le_of_ble_eq_true rfl⟩) ⟨fun a U g mk q => by obtain ⟨q0, q1, qP, qK, qD⟩ := q; exact ⟨q0, q1, qP, va_K.moved (u := U) (U := U.calling g mk a) (Vm.Alike.refl U.vm) qK, qD⟩, va_recv hK hP (ci := 0) (q0 := 0) rfl rfl, fun U hU hW => ⟨rfl, by rw [hU], by rw [hU]; exact hPc, va_K.moved hW.alike hK, hDc⟩⟩ rfl rfl hl.1 rfl (lv_room (Nat.le_of_ble_eq_true rfl)) d_O_point_3 ⟨Nat.le_of_ble_eq_true rfl, Nat.le_of_ble_eq_true rfl⟩) (fun hw => ?_)
  have h := h () hw
  clear hPc hDc
  refine lv_iload_n hx hb d_O_point_6 rfl (lv_at hl 3 rfl) ?_
  refine lv_iconst (v := 0) hx hb d_O_point_7 (by decide) ?_
  refine lv_iconst (v := 1) hx hb d_O_point_8 (by decide) ?_
  rcases h with h | h
  · have hPc := hP.sub (ws' := (cw_O_requireRange)) [] rfl
    have hDc := hD.sub (ws' := (cw_O_requireRange)) [] (by decide) rfl
    subst hQf
    exact xLeave (xRunS (As := [.int x3, .int (0 : Int32), .int (1 : Int32)]) (rest := []) ⟨hx, hb, hml, hown, hts⟩ (x_O_requireRange l hfl dC dI cI cB cJ cZ s.heap.size x3 (0 : Int32) (1 : Int32) AX E h) (va_cwS 3 hts (goodS q_330 q_331 q_1 q_332) rfl rfl rfl (by decide +kernel) ⟨Nat.le_of_ble_eq_true rfl, Nat.le_of_ble_eq_true rfl⟩) ⟨fun a U g mk q => by obtain ⟨q0, q1, qP, qK, qD, qG⟩ := q; exact ⟨q0, q1, qP, va_K.moved (u := U) (U := U.calling g mk a) (Vm.Alike.refl U.vm) qK, qD, qG.calling⟩, fun U hU hW => ⟨rfl, by rw [hU], by rw [hU]; exact hPc, va_K.moved hW.alike hK, hDc, by rw [hU]; exact hG.warm hW⟩⟩ rfl rfl hl.1 rfl (lv_room (Nat.le_of_ble_eq_true rfl)) d_O_point_9 ⟨Nat.le_of_ble_eq_true rfl, Nat.le_of_ble_eq_true rfl⟩) hlocks (fun x hxm => hnoh x hxm _)
  obtain ⟨Q9, hq9, h⟩ := h
  have hPc := hP.sub (ws' := (cw_O_requireRange)) [] rfl
  have hDc := hD.sub (ws' := (cw_O_requireRange)) [] (by decide) rfl
  refine ro_callv (va_runS (As := [.int x3, .int (0 : Int32), .int (1 : Int32)]) (rest := []) ⟨hx, hb, hml, hown, hts⟩ (s_O_requireRange l dC dI cI cB cJ cZ s.heap.size x3 (0 : Int32) (1 : Int32) Q9 hq9) (va_cwS 3 hts (goodS q_330 q_331 q_1 q_332) rfl rfl rfl (by decide +kernel) ⟨Nat.le_of_ble_eq_true rfl, Nat.le_of_ble_eq_true rfl⟩) ⟨fun a U g mk q => by obtain ⟨q0, q1, qP, qK, qD⟩ := q; exact ⟨q0, q1, qP, va_K.moved (u := U) (U := U.calling g mk a) (Vm.Alike.refl U.vm) qK, qD⟩, fun U hU hW => ⟨rfl, by rw [hU], by rw [hU]; exact hPc, va_K.moved hW.alike hK, hDc⟩⟩ rfl rfl hl.1 rfl (lv_room (Nat.le_of_ble_eq_true rfl)) d_O_point_9 ⟨Nat.le_of_ble_eq_true rfl, Nat.le_of_ble_eq_true rfl⟩) (fun hw => ?_)
  have h := h () hw
  clear hPc hDc
  refine lv_aload_n hx hb d_O_point_12 rfl (lv_at hl 0 rfl) ?_
  refine va_get (D := (dC, dI)) (ci := 0) (v := .ref a_outlines) (C := R_O) (T := F_O) (N := 4) hx hb hts i_O_in hown hK hP 0 rfl rfl 1 (by decide) (hts _ q_195) (fun _ h9 => h9) rfl d_O_point_13 ?_
  refine va_get (D := (dC, dI)) (ci := 2) (v := .ref a_outlines_begins) (C := R_U) (T := F_U) (N := 9) hx hb hts i_U_in hown hK hP 1 rfl rfl 3 (by decide) (hts _ q_69) (fun _ h9 => h9) rfl d_O_point_16 ?_
  refine lv_iload_n hx hb d_O_point_19 rfl (lv_at hl 1 rfl) ?_
  obtain ⟨hin, h⟩ := h
  refine va_iald hx hb hK hP 2 0 rfl rfl hin d_O_point_20 ?_
  refine lv_iload_n hx hb d_O_point_21 rfl (lv_at hl 2 rfl) ?_
  refine lv_iadd hx hb d_O_point_22 ?_
  refine lv_topi (fun x4_23 e_x4_23 => ?_)
  have h := h x4_23 e_x4_23
  refine lv_istore (lv' := [(4, .int x4_23), (0, .ref a_this), (1, .int x1), (2, .int x2), (3, .int x3)]) hx hb d_O_point_23 hl (by decide) rfl (fun ls hl => ?_)
  refine lv_iload_n hx hb d_O_point_25 rfl (lv_at hl 4 rfl) ?_
  exact h.elim
def tp_O_covered (n_outlines_layers n_outlines_begins n_outlines_xs n_outlines_ys : Nat) (c_outlines_count : Int32) (c_outlines_traced : Int32) (c_picture_width : Int32) (c_picture_height : Int32) (f_outlines_layers : Nat → Int32) (f_outlines_begins : Nat → Int32) (f_outlines_xs : Nat → Int32) (f_outlines_ys : Nat → Int32) (x1 : Int32) (x2 : Int32) (E : String) : Prop :=
  (tp_O_requireTraced c_outlines_traced E) ∨ ∃ Q1 : Unit → Prop, wp_O_requireTraced c_outlines_traced Q1 ∧ ∀ (_ : Unit), Q1 () → (tp_O_requireSample c_picture_width c_picture_height x1 x2 E) ∨ ∃ Q7 : Unit → Prop, wp_O_requireSample c_picture_width c_picture_height x1 x2 Q7 ∧ ∀ (_ : Unit), Q7 () → False
set_option maxHeartbeats 4000000 in
set_option maxRecDepth 100000 in
theorem x_O_covered (l : Launch) (hfl : l.stackTraces = false) (dC : Nat → ClassId) (dI : Nat → Nat → Nat) (cI cB cJ cZ : ClassId) (a_this a_outlines a_picture a_outlines_layers a_outlines_begins a_outlines_xs a_outlines_ys a_shape a_row a_outlines_areas a_outlines_walked a_picture_colours : Nat) (sz : Nat) (n_outlines_layers n_outlines_begins n_outlines_xs n_outlines_ys : Nat) (c_outlines_count : Int32) (c_outlines_traced : Int32) (c_picture_width : Int32) (c_picture_height : Int32) (f_outlines_layers : Nat → Int32) (f_outlines_begins : Nat → Int32) (f_outlines_xs : Nat → Int32) (f_outlines_ys : Nat → Int32) (x1 : Int32) (x2 : Int32) (AX : Nat → Prop) (E : String) (h : tp_O_covered n_outlines_layers n_outlines_begins n_outlines_xs n_outlines_ys c_outlines_count c_outlines_traced c_picture_width c_picture_height f_outlines_layers f_outlines_begins f_outlines_xs f_outlines_ys x1 x2 E) : MetX l y_O_covered w_O_covered ({ frames := 7, cells := 1, slots := 6, locals := 132 }) (va_Pc [.ref a_this, .int x1, .int x2] (fun U => U.heap.size = sz ∧ va_P (dC, dI) vwCl (cw_O_covered cB cI a_this a_outlines a_picture a_outlines_layers a_outlines_begins a_outlines_xs a_outlines_ys a_shape a_row a_outlines_areas a_outlines_walked a_picture_colours n_outlines_layers n_outlines_begins n_outlines_xs n_outlines_ys c_outlines_count c_outlines_traced c_picture_width c_picture_height f_outlines_layers f_outlines_begins f_outlines_xs f_outlines_ys) U.heap ∧ va_K (dC, dI) vwCl [(cI, .int), (cB, .byte), (cJ, .long), (cZ, .boolean)] U ∧ va_D (fun _ => True) (cw_O_covered cB cI a_this a_outlines a_picture a_outlines_layers a_outlines_begins a_outlines_xs a_outlines_ys a_shape a_row a_outlines_areas a_outlines_walked a_picture_colours n_outlines_layers n_outlines_begins n_outlines_xs n_outlines_ys c_outlines_count c_outlines_traced c_picture_width c_picture_height f_outlines_layers f_outlines_begins f_outlines_xs f_outlines_ys) ∧ XG AX U U.heap)) E 1 6 := by
  refine MetX.ofW (cc := b_O_covered) (maxL := 3) (ret := (some .int)) (by decide +kernel) rfl ?_
  intro p e s m args below meth c s₁ B hml hv
  obtain ⟨rfl, hsz, hP, hK, hD, hG⟩ := hv
  have hx := B.exec
  have hb := B.bytes
  have hr := B.returns
  have hts : ∀ w ∈ allW, w.before _ s = true := fun w hw => atoms_spec (ws := w_O_covered) B.pre w (List.mem_cons_of_mem _ hw)
  have hown : s.vm.findClass R_O = some m.cls := findClass_of_methodNamed B.named
  have hlocks := B.notSynchronized
  subst hsz
  have hts0 := atoms_spec (ws := w_O_covered) B.pre
  have hnoh : ∀ x ∈ c.exceptionTable.toList, ∀ pc, covers x pc = false := fun x hxm pc => covers_of_empty (B.noHandlers (hts0 _ List.mem_cons_self)) pc x hxm
  generalize hQf : XQ below E 1 6 ([.ref a_this, .int x1, .int x2] : List Value).toArray s = Qf
  have hl := lv_entry ([.ref a_this, .int x1, .int x2]) (n := 3) (Nat.le_of_ble_eq_true rfl)
  rw [lg_entry_eq]
  generalize (lg_sl ([.ref a_this, .int x1, .int x2]) ++ List.replicate (3 - (lg_sl ([.ref a_this, .int x1, .int x2])).length) Slot.unset).toArray = ls at hl ⊢
  have hl : lv_has ls 3 [(0, .ref a_this), (1, .int x1), (2, .int x2)] := hl
  unfold tp_O_covered at h
  refine lv_aload_n hx hb d_O_covered_0 rfl (lv_at hl 0 rfl) ?_
  rcases h with h | h
  · have hPc := hP.sub (ws' := (cw_O_requireTraced a_this a_outlines a_picture a_shape a_row a_outlines_xs a_outlines_ys a_outlines_begins a_outlines_layers a_outlines_areas a_outlines_walked c_outlines_count c_outlines_traced)) [0, 1] rfl
    have hDc := hD.sub (ws' := (cw_O_requireTraced a_this a_outlines a_picture a_shape a_row a_outlines_xs a_outlines_ys a_outlines_begins a_outlines_layers a_outlines_areas a_outlines_walked c_outlines_count c_outlines_traced)) [0, 1] (by decide) rfl
    subst hQf
    exact xLeave (xRunV (As := []) (rest := []) ⟨hx, hb, hml, hown, hts⟩ (x_O_requireTraced l hfl dC dI cI cB cJ cZ a_this a_outlines a_picture a_shape a_row a_outlines_xs a_outlines_ys a_outlines_begins a_outlines_layers a_outlines_areas a_outlines_walked s.heap.size c_outlines_count c_outlines_traced AX E h) (cwV 0 hts (goodV q_410 q_412 q_p8 q_1 q_413) rfl rfl rfl (by decide +kernel) ⟨Nat.le_of_ble_eq_true rfl, Nat.le_of_ble_eq_true rfl⟩) ⟨fun a U g mk q => by obtain ⟨q0, q1, qP, qK, qD, qG⟩ := q; exact ⟨q0, q1, qP, va_K.moved (u := U) (U := U.calling g mk a) (Vm.Alike.refl U.vm) qK, qD, qG.calling⟩, va_recv hK hP (ci := 0) (q0 := 0) rfl rfl, fun U hU hW => ⟨rfl, by rw [hU], by rw [hU]; exact hPc, va_K.moved hW.alike hK, hDc, by rw [hU]; exact hG.warm hW⟩⟩ rfl rfl hl.1 rfl (lv_room (Nat.le_of_ble_eq_true rfl)) d_O_covered_1 ⟨Nat.le_of_ble_eq_true rfl, Nat.le_of_ble_eq_true rfl⟩) hlocks (fun x hxm => hnoh x hxm _)
  obtain ⟨Q1, hq1, h⟩ := h
  have hPc := hP.sub (ws' := (cw_O_requireTraced a_this a_outlines a_picture a_shape a_row a_outlines_xs a_outlines_ys a_outlines_begins a_outlines_layers a_outlines_areas a_outlines_walked c_outlines_count c_outlines_traced)) [0, 1] rfl
  have hDc := hD.sub (ws' := (cw_O_requireTraced a_this a_outlines a_picture a_shape a_row a_outlines_xs a_outlines_ys a_outlines_begins a_outlines_layers a_outlines_areas a_outlines_walked c_outlines_count c_outlines_traced)) [0, 1] (by decide) rfl
  refine ro_callv (va_runV (As := []) (rest := []) ⟨hx, hb, hml, hown, hts⟩ (s_O_requireTraced l dC dI cI cB cJ cZ a_this a_outlines a_picture a_shape a_row a_outlines_xs a_outlines_ys a_outlines_begins a_outlines_layers a_outlines_areas a_outlines_walked s.heap.size c_outlines_count c_outlines_traced Q1 hq1) (cwV 0 hts (goodV q_410 q_412 q_p8 q_1 q_413) rfl rfl rfl (by decide +kernel) ⟨Nat.le_of_ble_eq_true rfl, Nat.le_of_ble_eq_true rfl⟩) ⟨fun a U g mk q => by obtain ⟨q0, q1, qP, qK, qD⟩ := q; exact ⟨q0, q1, qP, va_K.moved (u := U) (U := U.calling g mk a) (Vm.Alike.refl U.vm) qK, qD⟩, va_recv hK hP (ci := 0) (q0 := 0) rfl rfl, fun U hU hW => ⟨rfl, by rw [hU], by rw [hU]; exact hPc, va_K.moved hW.alike hK, hDc⟩⟩ rfl rfl hl.1 rfl (lv_room (Nat.le_of_ble_eq_true rfl)) d_O_covered_1 ⟨Nat.le_of_ble_eq_true rfl, Nat.le_of_ble_eq_true rfl⟩) (fun hw => ?_)
  have h := h () hw
  clear hPc hDc
  refine lv_aload_n hx hb d_O_covered_4 rfl (lv_at hl 0 rfl) ?_
  refine lv_iload_n hx hb d_O_covered_5 rfl (lv_at hl 1 rfl) ?_
  refine lv_iload_n hx hb d_O_covered_6 rfl (lv_at hl 2 rfl) ?_
  rcases h with h | h
  · have hPc := hP.sub (ws' := (cw_O_requireSample a_this a_picture a_outlines a_shape a_row a_picture_colours c_picture_width c_picture_height)) [0, 2] rfl
    have hDc := hD.sub (ws' := (cw_O_requireSample a_this a_picture a_outlines a_shape a_row a_picture_colours c_picture_width c_picture_height)) [0, 2] (by decide) rfl
    subst hQf
    exact xLeave (xRunV (As := [.int x1, .int x2]) (rest := []) ⟨hx, hb, hml, hown, hts⟩ (x_O_requireSample l hfl dC dI cI cB cJ cZ a_this a_picture a_outlines a_shape a_row a_picture_colours s.heap.size c_picture_width c_picture_height x1 x2 AX E h) (cwV 2 hts (goodV q_254 q_256 q_p1 q_1 q_257) rfl rfl rfl (by decide +kernel) ⟨Nat.le_of_ble_eq_true rfl, Nat.le_of_ble_eq_true rfl⟩) ⟨fun a U g mk q => by obtain ⟨q0, q1, qP, qK, qD, qG⟩ := q; exact ⟨q0, q1, qP, va_K.moved (u := U) (U := U.calling g mk a) (Vm.Alike.refl U.vm) qK, qD, qG.calling⟩, va_recv hK hP (ci := 0) (q0 := 0) rfl rfl, fun U hU hW => ⟨rfl, by rw [hU], by rw [hU]; exact hPc, va_K.moved hW.alike hK, hDc, by rw [hU]; exact hG.warm hW⟩⟩ rfl rfl hl.1 rfl (lv_room (Nat.le_of_ble_eq_true rfl)) d_O_covered_7 ⟨Nat.le_of_ble_eq_true rfl, Nat.le_of_ble_eq_true rfl⟩) hlocks (fun x hxm => hnoh x hxm _)
  obtain ⟨Q7, hq7, h⟩ := h
  have hPc := hP.sub (ws' := (cw_O_requireSample a_this a_picture a_outlines a_shape a_row a_picture_colours c_picture_width c_picture_height)) [0, 2] rfl
  have hDc := hD.sub (ws' := (cw_O_requireSample a_this a_picture a_outlines a_shape a_row a_picture_colours c_picture_width c_picture_height)) [0, 2] (by decide) rfl
  refine ro_callv (va_runV (As := [.int x1, .int x2]) (rest := []) ⟨hx, hb, hml, hown, hts⟩ (s_O_requireSample l dC dI cI cB cJ cZ a_this a_picture a_outlines a_shape a_row a_picture_colours s.heap.size c_picture_width c_picture_height x1 x2 Q7 hq7) (cwV 2 hts (goodV q_254 q_256 q_p1 q_1 q_257) rfl rfl rfl (by decide +kernel) ⟨Nat.le_of_ble_eq_true rfl, Nat.le_of_ble_eq_true rfl⟩) ⟨fun a U g mk q => by obtain ⟨q0, q1, qP, qK, qD⟩ := q; exact ⟨q0, q1, qP, va_K.moved (u := U) (U := U.calling g mk a) (Vm.Alike.refl U.vm) qK, qD⟩, va_recv hK hP (ci := 0) (q0 := 0) rfl rfl, fun U hU hW => ⟨rfl, by rw [hU], by rw [hU]; exact hPc, va_K.moved hW.alike hK, hDc⟩⟩ rfl rfl hl.1 rfl (lv_room (Nat.le_of_ble_eq_true rfl)) d_O_covered_7 ⟨Nat.le_of_ble_eq_true rfl, Nat.le_of_ble_eq_true rfl⟩) (fun hw => ?_)
  have h := h () hw
  clear hPc hDc
  refine lv_aload_n hx hb d_O_covered_10 rfl (lv_at hl 0 rfl) ?_
  refine va_get (D := (dC, dI)) (ci := 0) (v := .ref a_outlines) (C := R_O) (T := F_O) (N := 4) hx hb hts i_O_in hown hK hP 0 rfl rfl 1 (by decide) (hts _ q_195) (fun _ h9 => h9) rfl d_O_covered_11 ?_
  refine lv_iload_n hx hb d_O_covered_14 rfl (lv_at hl 1 rfl) ?_
  refine lv_iload_n hx hb d_O_covered_15 rfl (lv_at hl 2 rfl) ?_
  exact h.elim
def tp_O_piece (n_outlines_begins n_outlines_xs n_outlines_ys : Nat) (c_outlines_count : Int32) (c_outlines_traced : Int32) (f_outlines_begins : Nat → Int32) (f_outlines_xs : Nat → Int32) (f_outlines_ys : Nat → Int32) (x1 : Int32) (x2 : Int32) (x3 : Int32) (x4 : Int32) (E : String) : Prop :=
  (tp_O_requirePoint n_outlines_begins c_outlines_count c_outlines_traced f_outlines_begins x1 x2 E) ∨ ∃ Q3 : Unit → Prop, wp_O_requirePoint n_outlines_begins c_outlines_count c_outlines_traced f_outlines_begins x1 x2 Q3 ∧ ∀ (_ : Unit), Q3 () → (tp_O_requireRange x3 (1 : Int32) (24 : Int32) E) ∨ ∃ Q10 : Unit → Prop, wp_O_requireRange x3 (1 : Int32) (24 : Int32) Q10 ∧ ∀ (_ : Unit), Q10 () → (tp_O_requireRange x4 (1 : Int32) (8 : Int32) E) ∨ ∃ Q18 : Unit → Prop, wp_O_requireRange x4 (1 : Int32) (8 : Int32) Q18 ∧ ∀ (_ : Unit), Q18 () → False
set_option maxHeartbeats 4000000 in
set_option maxRecDepth 100000 in
theorem x_O_piece (l : Launch) (hfl : l.stackTraces = false) (dC : Nat → ClassId) (dI : Nat → Nat → Nat) (cI cB cJ cZ : ClassId) (a_this a_outlines a_outlines_begins a_outlines_xs a_outlines_ys a_picture a_shape a_row a_outlines_layers a_outlines_areas a_outlines_walked : Nat) (sz : Nat) (n_outlines_begins n_outlines_xs n_outlines_ys : Nat) (c_outlines_count : Int32) (c_outlines_traced : Int32) (f_outlines_begins : Nat → Int32) (f_outlines_xs : Nat → Int32) (f_outlines_ys : Nat → Int32) (x1 : Int32) (x2 : Int32) (x3 : Int32) (x4 : Int32) (AX : Nat → Prop) (E : String) (h : tp_O_piece n_outlines_begins n_outlines_xs n_outlines_ys c_outlines_count c_outlines_traced f_outlines_begins f_outlines_xs f_outlines_ys x1 x2 x3 x4 E) : MetX l y_O_piece w_O_piece ({ frames := 8, cells := 1, slots := 6, locals := 153 }) (va_Pc [.ref a_this, .int x1, .int x2, .int x3, .int x4] (fun U => U.heap.size = sz ∧ va_P (dC, dI) vwCl (cw_O_piece cB cI a_this a_outlines a_outlines_begins a_outlines_xs a_outlines_ys a_picture a_shape a_row a_outlines_layers a_outlines_areas a_outlines_walked n_outlines_begins n_outlines_xs n_outlines_ys c_outlines_count c_outlines_traced f_outlines_begins f_outlines_xs f_outlines_ys) U.heap ∧ va_K (dC, dI) vwCl [(cI, .int), (cB, .byte), (cJ, .long), (cZ, .boolean)] U ∧ va_D (fun _ => True) (cw_O_piece cB cI a_this a_outlines a_outlines_begins a_outlines_xs a_outlines_ys a_picture a_shape a_row a_outlines_layers a_outlines_areas a_outlines_walked n_outlines_begins n_outlines_xs n_outlines_ys c_outlines_count c_outlines_traced f_outlines_begins f_outlines_xs f_outlines_ys) ∧ XG AX U U.heap)) E 1 6 := by
  refine MetX.ofW (cc := b_O_piece) (maxL := 5) (ret := (some .int)) (by decide +kernel) rfl ?_
  intro p e s m args below meth c s₁ B hml hv
  obtain ⟨rfl, hsz, hP, hK, hD, hG⟩ := hv
  have hx := B.exec
  have hb := B.bytes
  have hr := B.returns
  have hts : ∀ w ∈ allW, w.before _ s = true := fun w hw => atoms_spec (ws := w_O_piece) B.pre w (List.mem_cons_of_mem _ hw)
  have hown : s.vm.findClass R_O = some m.cls := findClass_of_methodNamed B.named
  have hlocks := B.notSynchronized
  subst hsz
  have hts0 := atoms_spec (ws := w_O_piece) B.pre
  have hnoh : ∀ x ∈ c.exceptionTable.toList, ∀ pc, covers x pc = false := fun x hxm pc => covers_of_empty (B.noHandlers (hts0 _ List.mem_cons_self)) pc x hxm
  generalize hQf : XQ below E 1 6 ([.ref a_this, .int x1, .int x2, .int x3, .int x4] : List Value).toArray s = Qf
  have hl := lv_entry ([.ref a_this, .int x1, .int x2, .int x3, .int x4]) (n := 5) (Nat.le_of_ble_eq_true rfl)
  rw [lg_entry_eq]
  generalize (lg_sl ([.ref a_this, .int x1, .int x2, .int x3, .int x4]) ++ List.replicate (5 - (lg_sl ([.ref a_this, .int x1, .int x2, .int x3, .int x4])).length) Slot.unset).toArray = ls at hl ⊢
  have hl : lv_has ls 5 [(0, .ref a_this), (1, .int x1), (2, .int x2), (3, .int x3), (4, .int x4)] := hl
  unfold tp_O_piece at h
  refine lv_aload_n hx hb d_O_piece_0 rfl (lv_at hl 0 rfl) ?_
  refine lv_iload_n hx hb d_O_piece_1 rfl (lv_at hl 1 rfl) ?_
  refine lv_iload_n hx hb d_O_piece_2 rfl (lv_at hl 2 rfl) ?_
  rcases h with h | h
  · have hPc := hP.sub (ws' := (cw_O_requirePoint cI a_this a_outlines a_outlines_begins a_picture a_shape a_row a_outlines_xs a_outlines_ys a_outlines_layers a_outlines_areas a_outlines_walked n_outlines_begins c_outlines_count c_outlines_traced f_outlines_begins)) [0, 1, 2] rfl
    have hDc := hD.sub (ws' := (cw_O_requirePoint cI a_this a_outlines a_outlines_begins a_picture a_shape a_row a_outlines_xs a_outlines_ys a_outlines_layers a_outlines_areas a_outlines_walked n_outlines_begins c_outlines_count c_outlines_traced f_outlines_begins)) [0, 1, 2] (by decide) rfl
    subst hQf
    exact xLeave (xRunV (As := [.int x1, .int x2]) (rest := []) ⟨hx, hb, hml, hown, hts⟩ (x_O_requirePoint l hfl dC dI cI cB cJ cZ a_this a_outlines a_outlines_begins a_picture a_shape a_row a_outlines_xs a_outlines_ys a_outlines_layers a_outlines_areas a_outlines_walked s.heap.size n_outlines_begins c_outlines_count c_outlines_traced f_outlines_begins x1 x2 AX E h) (cwV 2 hts (goodV q_455 q_457 q_p10 q_1 q_458) rfl rfl rfl (by decide +kernel) ⟨Nat.le_of_ble_eq_true rfl, Nat.le_of_ble_eq_true rfl⟩) ⟨fun a U g mk q => by obtain ⟨q0, q1, qP, qK, qD, qG⟩ := q; exact ⟨q0, q1, qP, va_K.moved (u := U) (U := U.calling g mk a) (Vm.Alike.refl U.vm) qK, qD, qG.calling⟩, va_recv hK hP (ci := 0) (q0 := 0) rfl rfl, fun U hU hW => ⟨rfl, by rw [hU], by rw [hU]; exact hPc, va_K.moved hW.alike hK, hDc, by rw [hU]; exact hG.warm hW⟩⟩ rfl rfl hl.1 rfl (lv_room (Nat.le_of_ble_eq_true rfl)) d_O_piece_3 ⟨Nat.le_of_ble_eq_true rfl, Nat.le_of_ble_eq_true rfl⟩) hlocks (fun x hxm => hnoh x hxm _)
  obtain ⟨Q3, hq3, h⟩ := h
  have hPc := hP.sub (ws' := (cw_O_requirePoint cI a_this a_outlines a_outlines_begins a_picture a_shape a_row a_outlines_xs a_outlines_ys a_outlines_layers a_outlines_areas a_outlines_walked n_outlines_begins c_outlines_count c_outlines_traced f_outlines_begins)) [0, 1, 2] rfl
  have hDc := hD.sub (ws' := (cw_O_requirePoint cI a_this a_outlines a_outlines_begins a_picture a_shape a_row a_outlines_xs a_outlines_ys a_outlines_layers a_outlines_areas a_outlines_walked n_outlines_begins c_outlines_count c_outlines_traced f_outlines_begins)) [0, 1, 2] (by decide) rfl
  refine ro_callv (va_runV (As := [.int x1, .int x2]) (rest := []) ⟨hx, hb, hml, hown, hts⟩ (s_O_requirePoint l dC dI cI cB cJ cZ a_this a_outlines a_outlines_begins a_picture a_shape a_row a_outlines_xs a_outlines_ys a_outlines_layers a_outlines_areas a_outlines_walked s.heap.size n_outlines_begins c_outlines_count c_outlines_traced f_outlines_begins x1 x2 Q3 hq3) (cwV 2 hts (goodV q_455 q_457 q_p10 q_1 q_458) rfl rfl rfl (by decide +kernel) ⟨Nat.le_of_ble_eq_true rfl, Nat.le_of_ble_eq_true rfl⟩) ⟨fun a U g mk q => by obtain ⟨q0, q1, qP, qK, qD⟩ := q; exact ⟨q0, q1, qP, va_K.moved (u := U) (U := U.calling g mk a) (Vm.Alike.refl U.vm) qK, qD⟩, va_recv hK hP (ci := 0) (q0 := 0) rfl rfl, fun U hU hW => ⟨rfl, by rw [hU], by rw [hU]; exact hPc, va_K.moved hW.alike hK, hDc⟩⟩ rfl rfl hl.1 rfl (lv_room (Nat.le_of_ble_eq_true rfl)) d_O_piece_3 ⟨Nat.le_of_ble_eq_true rfl, Nat.le_of_ble_eq_true rfl⟩) (fun hw => ?_)
  have h := h () hw
  clear hPc hDc
  refine lv_iload_n hx hb d_O_piece_6 rfl (lv_at hl 3 rfl) ?_
  refine lv_iconst (v := 1) hx hb d_O_piece_7 (by decide) ?_
  refine lv_bipush (v := 24) hx hb d_O_piece_8 (by decide) ?_
  rcases h with h | h
  · have hPc := hP.sub (ws' := (cw_O_requireRange)) [] rfl
    have hDc := hD.sub (ws' := (cw_O_requireRange)) [] (by decide) rfl
    subst hQf
    exact xLeave (xRunS (As := [.int x3, .int (1 : Int32), .int (24 : Int32)]) (rest := []) ⟨hx, hb, hml, hown, hts⟩ (x_O_requireRange l hfl dC dI cI cB cJ cZ s.heap.size x3 (1 : Int32) (24 : Int32) AX E h) (va_cwS 3 hts (goodS q_330 q_331 q_1 q_332) rfl rfl rfl (by decide +kernel) ⟨Nat.le_of_ble_eq_true rfl, Nat.le_of_ble_eq_true rfl⟩) ⟨fun a U g mk q => by obtain ⟨q0, q1, qP, qK, qD, qG⟩ := q; exact ⟨q0, q1, qP, va_K.moved (u := U) (U := U.calling g mk a) (Vm.Alike.refl U.vm) qK, qD, qG.calling⟩, fun U hU hW => ⟨rfl, by rw [hU], by rw [hU]; exact hPc, va_K.moved hW.alike hK, hDc, by rw [hU]; exact hG.warm hW⟩⟩ rfl rfl hl.1 rfl (lv_room (Nat.le_of_ble_eq_true rfl)) d_O_piece_10 ⟨Nat.le_of_ble_eq_true rfl, Nat.le_of_ble_eq_true rfl⟩) hlocks (fun x hxm => hnoh x hxm _)
  obtain ⟨Q10, hq10, h⟩ := h
  have hPc := hP.sub (ws' := (cw_O_requireRange)) [] rfl
  have hDc := hD.sub (ws' := (cw_O_requireRange)) [] (by decide) rfl
  refine ro_callv (va_runS (As := [.int x3, .int (1 : Int32), .int (24 : Int32)]) (rest := []) ⟨hx, hb, hml, hown, hts⟩ (s_O_requireRange l dC dI cI cB cJ cZ s.heap.size x3 (1 : Int32) (24 : Int32) Q10 hq10) (va_cwS 3 hts (goodS q_330 q_331 q_1 q_332) rfl rfl rfl (by decide +kernel) ⟨Nat.le_of_ble_eq_true rfl, Nat.le_of_ble_eq_true rfl⟩) ⟨fun a U g mk q => by obtain ⟨q0, q1, qP, qK, qD⟩ := q; exact ⟨q0, q1, qP, va_K.moved (u := U) (U := U.calling g mk a) (Vm.Alike.refl U.vm) qK, qD⟩, fun U hU hW => ⟨rfl, by rw [hU], by rw [hU]; exact hPc, va_K.moved hW.alike hK, hDc⟩⟩ rfl rfl hl.1 rfl (lv_room (Nat.le_of_ble_eq_true rfl)) d_O_piece_10 ⟨Nat.le_of_ble_eq_true rfl, Nat.le_of_ble_eq_true rfl⟩) (fun hw => ?_)
  have h := h () hw
  clear hPc hDc
  refine lv_iload hx hb d_O_piece_13 (lv_at hl 4 rfl) ?_
  refine lv_iconst (v := 1) hx hb d_O_piece_15 (by decide) ?_
  refine lv_bipush (v := 8) hx hb d_O_piece_16 (by decide) ?_
  rcases h with h | h
  · have hPc := hP.sub (ws' := (cw_O_requireRange)) [] rfl
    have hDc := hD.sub (ws' := (cw_O_requireRange)) [] (by decide) rfl
    subst hQf
    exact xLeave (xRunS (As := [.int x4, .int (1 : Int32), .int (8 : Int32)]) (rest := []) ⟨hx, hb, hml, hown, hts⟩ (x_O_requireRange l hfl dC dI cI cB cJ cZ s.heap.size x4 (1 : Int32) (8 : Int32) AX E h) (va_cwS 3 hts (goodS q_330 q_331 q_1 q_332) rfl rfl rfl (by decide +kernel) ⟨Nat.le_of_ble_eq_true rfl, Nat.le_of_ble_eq_true rfl⟩) ⟨fun a U g mk q => by obtain ⟨q0, q1, qP, qK, qD, qG⟩ := q; exact ⟨q0, q1, qP, va_K.moved (u := U) (U := U.calling g mk a) (Vm.Alike.refl U.vm) qK, qD, qG.calling⟩, fun U hU hW => ⟨rfl, by rw [hU], by rw [hU]; exact hPc, va_K.moved hW.alike hK, hDc, by rw [hU]; exact hG.warm hW⟩⟩ rfl rfl hl.1 rfl (lv_room (Nat.le_of_ble_eq_true rfl)) d_O_piece_18 ⟨Nat.le_of_ble_eq_true rfl, Nat.le_of_ble_eq_true rfl⟩) hlocks (fun x hxm => hnoh x hxm _)
  obtain ⟨Q18, hq18, h⟩ := h
  have hPc := hP.sub (ws' := (cw_O_requireRange)) [] rfl
  have hDc := hD.sub (ws' := (cw_O_requireRange)) [] (by decide) rfl
  refine ro_callv (va_runS (As := [.int x4, .int (1 : Int32), .int (8 : Int32)]) (rest := []) ⟨hx, hb, hml, hown, hts⟩ (s_O_requireRange l dC dI cI cB cJ cZ s.heap.size x4 (1 : Int32) (8 : Int32) Q18 hq18) (va_cwS 3 hts (goodS q_330 q_331 q_1 q_332) rfl rfl rfl (by decide +kernel) ⟨Nat.le_of_ble_eq_true rfl, Nat.le_of_ble_eq_true rfl⟩) ⟨fun a U g mk q => by obtain ⟨q0, q1, qP, qK, qD⟩ := q; exact ⟨q0, q1, qP, va_K.moved (u := U) (U := U.calling g mk a) (Vm.Alike.refl U.vm) qK, qD⟩, fun U hU hW => ⟨rfl, by rw [hU], by rw [hU]; exact hPc, va_K.moved hW.alike hK, hDc⟩⟩ rfl rfl hl.1 rfl (lv_room (Nat.le_of_ble_eq_true rfl)) d_O_piece_18 ⟨Nat.le_of_ble_eq_true rfl, Nat.le_of_ble_eq_true rfl⟩) (fun hw => ?_)
  have h := h () hw
  clear hPc hDc
  refine lv_aload_n hx hb d_O_piece_21 rfl (lv_at hl 0 rfl) ?_
  refine va_get (D := (dC, dI)) (ci := 0) (v := .ref a_outlines) (C := R_O) (T := F_O) (N := 4) hx hb hts i_O_in hown hK hP 0 rfl rfl 1 (by decide) (hts _ q_195) (fun _ h9 => h9) rfl d_O_piece_22 ?_
  refine lv_iload_n hx hb d_O_piece_25 rfl (lv_at hl 1 rfl) ?_
  refine lv_iload_n hx hb d_O_piece_26 rfl (lv_at hl 2 rfl) ?_
  refine lv_iload_n hx hb d_O_piece_27 rfl (lv_at hl 3 rfl) ?_
  refine lv_iload hx hb d_O_piece_28 (lv_at hl 4 rfl) ?_
  exact h.elim
def tp_O_polygon (n_outlines_begins n_shape_points n_outlines_xs n_outlines_ys n_shape_costs n_shape_restByTwo n_shape_rest n_shape_xs n_shape_ys n_shape_angles n_shape_turns : Nat) (c_outlines_count : Int32) (c_outlines_traced : Int32) (c_row_count : Int32) (c_shape_count : Int32) (c_shape_cost : Int32) (f_outlines_begins : Nat → Int32) (f_shape_points : Nat → Int32) (f_outlines_xs : Nat → Int32) (f_outlines_ys : Nat → Int32) (f_shape_costs : Nat → Int32) (f_shape_restByTwo : Nat → Int32) (f_shape_rest : Nat → Int32) (f_shape_xs : Nat → Int32) (f_shape_ys : Nat → Int32) (f_shape_angles : Nat → Int32) (f_shape_turns : Nat → Int32) (x1 : Int32) (x2 : Int32) (E : String) : Prop :=
  (tp_O_requireTraced c_outlines_traced E) ∨ ∃ Q1 : Unit → Prop, wp_O_requireTraced c_outlines_traced Q1 ∧ ∀ (_ : Unit), Q1 () → (tp_O_requireIndex x1 c_outlines_count E) ∨ ∃ Q12 : Unit → Prop, wp_O_requireIndex x1 c_outlines_count Q12 ∧ ∀ (_ : Unit), Q12 () → (tp_O_requireRange x2 (1 : Int32) (8 : Int32) E) ∨ ∃ Q19 : Unit → Prop, wp_O_requireRange x2 (1 : Int32) (8 : Int32) Q19 ∧ ∀ (_ : Unit), Q19 () → False
set_option maxHeartbeats 4000000 in
set_option maxRecDepth 100000 in
theorem x_O_polygon (l : Launch) (hfl : l.stackTraces = false) (dC : Nat → ClassId) (dI : Nat → Nat → Nat) (cI cB cJ cZ : ClassId) (a_this a_outlines a_row a_shape a_outlines_begins a_shape_points a_outlines_xs a_outlines_ys a_shape_costs a_shape_restByTwo a_shape_rest a_shape_xs a_shape_ys a_shape_angles a_shape_turns a_picture a_outlines_layers a_outlines_areas a_outlines_walked a_row_fewest a_row_takenLengths a_row_takenPulls a_row_firsts a_row_lengths a_row_pulls a_row_handX a_row_handY : Nat) (sz : Nat) (n_outlines_begins n_shape_points n_outlines_xs n_outlines_ys n_shape_costs n_shape_restByTwo n_shape_rest n_shape_xs n_shape_ys n_shape_angles n_shape_turns : Nat) (c_outlines_count : Int32) (c_outlines_traced : Int32) (c_row_count : Int32) (c_shape_count : Int32) (c_shape_cost : Int32) (f_outlines_begins : Nat → Int32) (f_shape_points : Nat → Int32) (f_outlines_xs : Nat → Int32) (f_outlines_ys : Nat → Int32) (f_shape_costs : Nat → Int32) (f_shape_restByTwo : Nat → Int32) (f_shape_rest : Nat → Int32) (f_shape_xs : Nat → Int32) (f_shape_ys : Nat → Int32) (f_shape_angles : Nat → Int32) (f_shape_turns : Nat → Int32) (x1 : Int32) (x2 : Int32) (AX : Nat → Prop) (E : String) (h : tp_O_polygon n_outlines_begins n_shape_points n_outlines_xs n_outlines_ys n_shape_costs n_shape_restByTwo n_shape_rest n_shape_xs n_shape_ys n_shape_angles n_shape_turns c_outlines_count c_outlines_traced c_row_count c_shape_count c_shape_cost f_outlines_begins f_shape_points f_outlines_xs f_outlines_ys f_shape_costs f_shape_restByTwo f_shape_rest f_shape_xs f_shape_ys f_shape_angles f_shape_turns x1 x2 E) : MetX l y_O_polygon w_O_polygon ({ frames := 7, cells := 1, slots := 6, locals := 132 }) (va_Pc [.ref a_this, .int x1, .int x2] (fun U => U.heap.size = sz ∧ va_P (dC, dI) vwCl (cw_O_polygon cB cI a_this a_outlines a_row a_shape a_outlines_begins a_shape_points a_outlines_xs a_outlines_ys a_shape_costs a_shape_restByTwo a_shape_rest a_shape_xs a_shape_ys a_shape_angles a_shape_turns a_picture a_outlines_layers a_outlines_areas a_outlines_walked a_row_fewest a_row_takenLengths a_row_takenPulls a_row_firsts a_row_lengths a_row_pulls a_row_handX a_row_handY n_outlines_begins n_shape_points n_outlines_xs n_outlines_ys n_shape_costs n_shape_restByTwo n_shape_rest n_shape_xs n_shape_ys n_shape_angles n_shape_turns c_outlines_count c_outlines_traced c_row_count c_shape_count c_shape_cost f_outlines_begins f_shape_points f_outlines_xs f_outlines_ys f_shape_costs f_shape_restByTwo f_shape_rest f_shape_xs f_shape_ys f_shape_angles f_shape_turns) U.heap ∧ va_K (dC, dI) vwCl [(cI, .int), (cB, .byte), (cJ, .long), (cZ, .boolean)] U ∧ va_D (fun _ => True) (cw_O_polygon cB cI a_this a_outlines a_row a_shape a_outlines_begins a_shape_points a_outlines_xs a_outlines_ys a_shape_costs a_shape_restByTwo a_shape_rest a_shape_xs a_shape_ys a_shape_angles a_shape_turns a_picture a_outlines_layers a_outlines_areas a_outlines_walked a_row_fewest a_row_takenLengths a_row_takenPulls a_row_firsts a_row_lengths a_row_pulls a_row_handX a_row_handY n_outlines_begins n_shape_points n_outlines_xs n_outlines_ys n_shape_costs n_shape_restByTwo n_shape_rest n_shape_xs n_shape_ys n_shape_angles n_shape_turns c_outlines_count c_outlines_traced c_row_count c_shape_count c_shape_cost f_outlines_begins f_shape_points f_outlines_xs f_outlines_ys f_shape_costs f_shape_restByTwo f_shape_rest f_shape_xs f_shape_ys f_shape_angles f_shape_turns) ∧ XG AX U U.heap)) E 1 6 := by
  refine MetX.ofW (cc := b_O_polygon) (maxL := 3) (ret := (some .int)) (by decide +kernel) rfl ?_
  intro p e s m args below meth c s₁ B hml hv
  obtain ⟨rfl, hsz, hP, hK, hD, hG⟩ := hv
  have hx := B.exec
  have hb := B.bytes
  have hr := B.returns
  have hts : ∀ w ∈ allW, w.before _ s = true := fun w hw => atoms_spec (ws := w_O_polygon) B.pre w (List.mem_cons_of_mem _ hw)
  have hown : s.vm.findClass R_O = some m.cls := findClass_of_methodNamed B.named
  have hlocks := B.notSynchronized
  subst hsz
  have hts0 := atoms_spec (ws := w_O_polygon) B.pre
  have hnoh : ∀ x ∈ c.exceptionTable.toList, ∀ pc, covers x pc = false := fun x hxm pc => covers_of_empty (B.noHandlers (hts0 _ List.mem_cons_self)) pc x hxm
  generalize hQf : XQ below E 1 6 ([.ref a_this, .int x1, .int x2] : List Value).toArray s = Qf
  have hl := lv_entry ([.ref a_this, .int x1, .int x2]) (n := 3) (Nat.le_of_ble_eq_true rfl)
  rw [lg_entry_eq]
  generalize (lg_sl ([.ref a_this, .int x1, .int x2]) ++ List.replicate (3 - (lg_sl ([.ref a_this, .int x1, .int x2])).length) Slot.unset).toArray = ls at hl ⊢
  have hl : lv_has ls 3 [(0, .ref a_this), (1, .int x1), (2, .int x2)] := hl
  unfold tp_O_polygon at h
  refine lv_aload_n hx hb d_O_polygon_0 rfl (lv_at hl 0 rfl) ?_
  rcases h with h | h
  · have hPc := hP.sub (ws' := (cw_O_requireTraced a_this a_outlines a_picture a_shape a_row a_outlines_xs a_outlines_ys a_outlines_begins a_outlines_layers a_outlines_areas a_outlines_walked c_outlines_count c_outlines_traced)) [0, 1] rfl
    have hDc := hD.sub (ws' := (cw_O_requireTraced a_this a_outlines a_picture a_shape a_row a_outlines_xs a_outlines_ys a_outlines_begins a_outlines_layers a_outlines_areas a_outlines_walked c_outlines_count c_outlines_traced)) [0, 1] (by decide) rfl
    subst hQf
    exact xLeave (xRunV (As := []) (rest := []) ⟨hx, hb, hml, hown, hts⟩ (x_O_requireTraced l hfl dC dI cI cB cJ cZ a_this a_outlines a_picture a_shape a_row a_outlines_xs a_outlines_ys a_outlines_begins a_outlines_layers a_outlines_areas a_outlines_walked s.heap.size c_outlines_count c_outlines_traced AX E h) (cwV 0 hts (goodV q_410 q_412 q_p8 q_1 q_413) rfl rfl rfl (by decide +kernel) ⟨Nat.le_of_ble_eq_true rfl, Nat.le_of_ble_eq_true rfl⟩) ⟨fun a U g mk q => by obtain ⟨q0, q1, qP, qK, qD, qG⟩ := q; exact ⟨q0, q1, qP, va_K.moved (u := U) (U := U.calling g mk a) (Vm.Alike.refl U.vm) qK, qD, qG.calling⟩, va_recv hK hP (ci := 0) (q0 := 0) rfl rfl, fun U hU hW => ⟨rfl, by rw [hU], by rw [hU]; exact hPc, va_K.moved hW.alike hK, hDc, by rw [hU]; exact hG.warm hW⟩⟩ rfl rfl hl.1 rfl (lv_room (Nat.le_of_ble_eq_true rfl)) d_O_polygon_1 ⟨Nat.le_of_ble_eq_true rfl, Nat.le_of_ble_eq_true rfl⟩) hlocks (fun x hxm => hnoh x hxm _)
  obtain ⟨Q1, hq1, h⟩ := h
  have hPc := hP.sub (ws' := (cw_O_requireTraced a_this a_outlines a_picture a_shape a_row a_outlines_xs a_outlines_ys a_outlines_begins a_outlines_layers a_outlines_areas a_outlines_walked c_outlines_count c_outlines_traced)) [0, 1] rfl
  have hDc := hD.sub (ws' := (cw_O_requireTraced a_this a_outlines a_picture a_shape a_row a_outlines_xs a_outlines_ys a_outlines_begins a_outlines_layers a_outlines_areas a_outlines_walked c_outlines_count c_outlines_traced)) [0, 1] (by decide) rfl
  refine ro_callv (va_runV (As := []) (rest := []) ⟨hx, hb, hml, hown, hts⟩ (s_O_requireTraced l dC dI cI cB cJ cZ a_this a_outlines a_picture a_shape a_row a_outlines_xs a_outlines_ys a_outlines_begins a_outlines_layers a_outlines_areas a_outlines_walked s.heap.size c_outlines_count c_outlines_traced Q1 hq1) (cwV 0 hts (goodV q_410 q_412 q_p8 q_1 q_413) rfl rfl rfl (by decide +kernel) ⟨Nat.le_of_ble_eq_true rfl, Nat.le_of_ble_eq_true rfl⟩) ⟨fun a U g mk q => by obtain ⟨q0, q1, qP, qK, qD⟩ := q; exact ⟨q0, q1, qP, va_K.moved (u := U) (U := U.calling g mk a) (Vm.Alike.refl U.vm) qK, qD⟩, va_recv hK hP (ci := 0) (q0 := 0) rfl rfl, fun U hU hW => ⟨rfl, by rw [hU], by rw [hU]; exact hPc, va_K.moved hW.alike hK, hDc⟩⟩ rfl rfl hl.1 rfl (lv_room (Nat.le_of_ble_eq_true rfl)) d_O_polygon_1 ⟨Nat.le_of_ble_eq_true rfl, Nat.le_of_ble_eq_true rfl⟩) (fun hw => ?_)
  have h := h () hw
  clear hPc hDc
  refine lv_iload_n hx hb d_O_polygon_4 rfl (lv_at hl 1 rfl) ?_
  refine lv_aload_n hx hb d_O_polygon_5 rfl (lv_at hl 0 rfl) ?_
  refine va_get (D := (dC, dI)) (ci := 0) (v := .ref a_outlines) (C := R_O) (T := F_O) (N := 4) hx hb hts i_O_in hown hK hP 0 rfl rfl 1 (by decide) (hts _ q_195) (fun _ h9 => h9) rfl d_O_polygon_6 ?_
  refine va_get (D := (dC, dI)) (ci := 2) (v := .int c_outlines_count) (C := R_U) (T := F_U) (N := 9) hx hb hts i_U_in hown hK hP 1 rfl rfl 7 (by decide) (hts _ q_77) (fun _ h9 => h9) rfl d_O_polygon_9 ?_
  rcases h with h | h
  · have hPc := hP.sub (ws' := (cw_O_requireIndex)) [] rfl
    have hDc := hD.sub (ws' := (cw_O_requireIndex)) [] (by decide) rfl
    subst hQf
    exact xLeave (xRunS (As := [.int x1, .int c_outlines_count]) (rest := []) ⟨hx, hb, hml, hown, hts⟩ (x_O_requireIndex l hfl dC dI cI cB cJ cZ s.heap.size x1 c_outlines_count AX E h) (va_cwS 2 hts (goodS q_430 q_431 q_1 q_432) rfl rfl rfl (by decide +kernel) ⟨Nat.le_of_ble_eq_true rfl, Nat.le_of_ble_eq_true rfl⟩) ⟨fun a U g mk q => by obtain ⟨q0, q1, qP, qK, qD, qG⟩ := q; exact ⟨q0, q1, qP, va_K.moved (u := U) (U := U.calling g mk a) (Vm.Alike.refl U.vm) qK, qD, qG.calling⟩, fun U hU hW => ⟨rfl, by rw [hU], by rw [hU]; exact hPc, va_K.moved hW.alike hK, hDc, by rw [hU]; exact hG.warm hW⟩⟩ rfl rfl hl.1 rfl (lv_room (Nat.le_of_ble_eq_true rfl)) d_O_polygon_12 ⟨Nat.le_of_ble_eq_true rfl, Nat.le_of_ble_eq_true rfl⟩) hlocks (fun x hxm => hnoh x hxm _)
  obtain ⟨Q12, hq12, h⟩ := h
  have hPc := hP.sub (ws' := (cw_O_requireIndex)) [] rfl
  have hDc := hD.sub (ws' := (cw_O_requireIndex)) [] (by decide) rfl
  refine ro_callv (va_runS (As := [.int x1, .int c_outlines_count]) (rest := []) ⟨hx, hb, hml, hown, hts⟩ (s_O_requireIndex l dC dI cI cB cJ cZ s.heap.size x1 c_outlines_count Q12 hq12) (va_cwS 2 hts (goodS q_430 q_431 q_1 q_432) rfl rfl rfl (by decide +kernel) ⟨Nat.le_of_ble_eq_true rfl, Nat.le_of_ble_eq_true rfl⟩) ⟨fun a U g mk q => by obtain ⟨q0, q1, qP, qK, qD⟩ := q; exact ⟨q0, q1, qP, va_K.moved (u := U) (U := U.calling g mk a) (Vm.Alike.refl U.vm) qK, qD⟩, fun U hU hW => ⟨rfl, by rw [hU], by rw [hU]; exact hPc, va_K.moved hW.alike hK, hDc⟩⟩ rfl rfl hl.1 rfl (lv_room (Nat.le_of_ble_eq_true rfl)) d_O_polygon_12 ⟨Nat.le_of_ble_eq_true rfl, Nat.le_of_ble_eq_true rfl⟩) (fun hw => ?_)
  have h := h () hw
  clear hPc hDc
  refine lv_iload_n hx hb d_O_polygon_15 rfl (lv_at hl 2 rfl) ?_
  refine lv_iconst (v := 1) hx hb d_O_polygon_16 (by decide) ?_
  refine lv_bipush (v := 8) hx hb d_O_polygon_17 (by decide) ?_
  rcases h with h | h
  · have hPc := hP.sub (ws' := (cw_O_requireRange)) [] rfl
    have hDc := hD.sub (ws' := (cw_O_requireRange)) [] (by decide) rfl
    subst hQf
    exact xLeave (xRunS (As := [.int x2, .int (1 : Int32), .int (8 : Int32)]) (rest := []) ⟨hx, hb, hml, hown, hts⟩ (x_O_requireRange l hfl dC dI cI cB cJ cZ s.heap.size x2 (1 : Int32) (8 : Int32) AX E h) (va_cwS 3 hts (goodS q_330 q_331 q_1 q_332) rfl rfl rfl (by decide +kernel) ⟨Nat.le_of_ble_eq_true rfl, Nat.le_of_ble_eq_true rfl⟩) ⟨fun a U g mk q => by obtain ⟨q0, q1, qP, qK, qD, qG⟩ := q; exact ⟨q0, q1, qP, va_K.moved (u := U) (U := U.calling g mk a) (Vm.Alike.refl U.vm) qK, qD, qG.calling⟩, fun U hU hW => ⟨rfl, by rw [hU], by rw [hU]; exact hPc, va_K.moved hW.alike hK, hDc, by rw [hU]; exact hG.warm hW⟩⟩ rfl rfl hl.1 rfl (lv_room (Nat.le_of_ble_eq_true rfl)) d_O_polygon_19 ⟨Nat.le_of_ble_eq_true rfl, Nat.le_of_ble_eq_true rfl⟩) hlocks (fun x hxm => hnoh x hxm _)
  obtain ⟨Q19, hq19, h⟩ := h
  have hPc := hP.sub (ws' := (cw_O_requireRange)) [] rfl
  have hDc := hD.sub (ws' := (cw_O_requireRange)) [] (by decide) rfl
  refine ro_callv (va_runS (As := [.int x2, .int (1 : Int32), .int (8 : Int32)]) (rest := []) ⟨hx, hb, hml, hown, hts⟩ (s_O_requireRange l dC dI cI cB cJ cZ s.heap.size x2 (1 : Int32) (8 : Int32) Q19 hq19) (va_cwS 3 hts (goodS q_330 q_331 q_1 q_332) rfl rfl rfl (by decide +kernel) ⟨Nat.le_of_ble_eq_true rfl, Nat.le_of_ble_eq_true rfl⟩) ⟨fun a U g mk q => by obtain ⟨q0, q1, qP, qK, qD⟩ := q; exact ⟨q0, q1, qP, va_K.moved (u := U) (U := U.calling g mk a) (Vm.Alike.refl U.vm) qK, qD⟩, fun U hU hW => ⟨rfl, by rw [hU], by rw [hU]; exact hPc, va_K.moved hW.alike hK, hDc⟩⟩ rfl rfl hl.1 rfl (lv_room (Nat.le_of_ble_eq_true rfl)) d_O_polygon_19 ⟨Nat.le_of_ble_eq_true rfl, Nat.le_of_ble_eq_true rfl⟩) (fun hw => ?_)
  have h := h () hw
  clear hPc hDc
  refine lv_aload_n hx hb d_O_polygon_22 rfl (lv_at hl 0 rfl) ?_
  refine va_get (D := (dC, dI)) (ci := 0) (v := .ref a_row) (C := R_O) (T := F_O) (N := 4) hx hb hts i_O_in hown hK hP 0 rfl rfl 3 (by decide) (hts _ q_197) (fun _ h9 => h9) rfl d_O_polygon_23 ?_
  exact h.elim
def tp_O_requirePolygon (c_shape_count : Int32) (E : String) : Prop :=
  (¬ c_shape_count = 0 → False) ∧ (c_shape_count = 0 → E = "java/lang/IllegalStateException")
set_option maxHeartbeats 4000000 in
set_option maxRecDepth 100000 in
theorem x_O_requirePolygon (l : Launch) (hfl : l.stackTraces = false) (dC : Nat → ClassId) (dI : Nat → Nat → Nat) (cI cB cJ cZ : ClassId) (a_this a_shape a_picture a_outlines a_row a_shape_costs a_shape_rest a_shape_restByTwo a_shape_points a_shape_xs a_shape_ys a_shape_angles a_shape_turns : Nat) (sz : Nat) (c_shape_count : Int32) (c_shape_cost : Int32) (AX : Nat → Prop) (E : String) (h : tp_O_requirePolygon c_shape_count E) : MetX l y_O_requirePolygon w_O_requirePolygon ({ frames := 6, cells := 1, slots := 6, locals := 110 }) (va_Pc [.ref a_this] (fun U => U.heap.size = sz ∧ va_P (dC, dI) vwCl (cw_O_requirePolygon a_this a_shape a_picture a_outlines a_row a_shape_costs a_shape_rest a_shape_restByTwo a_shape_points a_shape_xs a_shape_ys a_shape_angles a_shape_turns c_shape_count c_shape_cost) U.heap ∧ va_K (dC, dI) vwCl [(cI, .int), (cB, .byte), (cJ, .long), (cZ, .boolean)] U ∧ va_D (fun _ => True) (cw_O_requirePolygon a_this a_shape a_picture a_outlines a_row a_shape_costs a_shape_rest a_shape_restByTwo a_shape_points a_shape_xs a_shape_ys a_shape_angles a_shape_turns c_shape_count c_shape_cost) ∧ XG AX U U.heap)) E 1 6 := by
  refine MetX.ofW (cc := b_O_requirePolygon) (maxL := 1) (ret := none) (by decide +kernel) rfl ?_
  intro p e s m args below meth c s₁ B hml hv
  obtain ⟨rfl, hsz, hP, hK, hD, hG⟩ := hv
  have hx := B.exec
  have hb := B.bytes
  have hr := B.returns
  have hts : ∀ w ∈ allW, w.before _ s = true := fun w hw => atoms_spec (ws := w_O_requirePolygon) B.pre w (List.mem_cons_of_mem _ hw)
  have hown : s.vm.findClass R_O = some m.cls := findClass_of_methodNamed B.named
  have hlocks := B.notSynchronized
  subst hsz
  have hts0 := atoms_spec (ws := w_O_requirePolygon) B.pre
  have hnoh : ∀ x ∈ c.exceptionTable.toList, ∀ pc, covers x pc = false := fun x hxm pc => covers_of_empty (B.noHandlers (hts0 _ List.mem_cons_self)) pc x hxm
  generalize hQf : XQ below E 1 6 ([.ref a_this] : List Value).toArray s = Qf
  have hl := lv_entry ([.ref a_this]) (n := 1) (Nat.le_of_ble_eq_true rfl)
  rw [lg_entry_eq]
  generalize (lg_sl ([.ref a_this]) ++ List.replicate (1 - (lg_sl ([.ref a_this])).length) Slot.unset).toArray = ls at hl ⊢
  have hl : lv_has ls 1 [(0, .ref a_this)] := hl
  unfold tp_O_requirePolygon at h
  refine lv_aload_n hx hb d_O_requirePolygon_0 rfl (lv_at hl 0 rfl) ?_
  refine va_get (D := (dC, dI)) (ci := 0) (v := .ref a_shape) (C := R_O) (T := F_O) (N := 4) hx hb hts i_O_in hown hK hP 0 rfl rfl 2 (by decide) (hts _ q_196) (fun _ h9 => h9) rfl d_O_requirePolygon_1 ?_
  refine va_get (D := (dC, dI)) (ci := 3) (v := .int c_shape_count) (C := R_G) (T := F_G) (N := 11) hx hb hts i_G_in hown hK hP 1 rfl rfl 9 (by decide) (hts _ q_127) (fun _ h9 => h9) rfl d_O_requirePolygon_4 ?_
  refine lv_if_ne (tgt := 20) hx hb d_O_requirePolygon_7 (by decide) (fun cc_ => ?_) (fun cc_ => ?_)
  · have h := h.1 cc_
    exact h.elim
  · have h := h.2 cc_
    subst h
    subst hQf
    exact xThrow (l := l) hx hb (hml.trans hl.1.symm) hown hlocks hnoh hfl (E := "java/lang/IllegalStateException") (by decide +kernel) hG hts xai_1 (hts _ q_414) (hts _ q_14) (tx := "there is no polygon at hand") (by decide +kernel) (Nat.le_of_ble_eq_true rfl) (Nat.le_of_ble_eq_true rfl) (Nat.le_of_ble_eq_true rfl) (Nat.le_of_ble_eq_true rfl) d_O_requirePolygon_10 d_O_requirePolygon_13 d_O_requirePolygon_14 d_O_requirePolygon_16 d_O_requirePolygon_19
def tp_O_corner (n_shape_turns n_shape_angles n_shape_ys n_shape_xs n_shape_points : Nat) (c_shape_count : Int32) (f_shape_turns : Nat → Int32) (f_shape_angles : Nat → Int32) (f_shape_ys : Nat → Int32) (f_shape_xs : Nat → Int32) (f_shape_points : Nat → Int32) (x1 : Int32) (x2 : Int32) (E : String) : Prop :=
  (tp_O_requirePolygon c_shape_count E) ∨ ∃ Q1 : Unit → Prop, wp_O_requirePolygon c_shape_count Q1 ∧ ∀ (_ : Unit), Q1 () → (tp_O_requireIndex x1 c_shape_count E) ∨ ∃ Q12 : Unit → Prop, wp_O_requireIndex x1 c_shape_count Q12 ∧ ∀ (_ : Unit), Q12 () → False
set_option maxHeartbeats 4000000 in
set_option maxRecDepth 100000 in
theorem x_O_corner (l : Launch) (hfl : l.stackTraces = false) (dC : Nat → ClassId) (dI : Nat → Nat → Nat) (cI cB cJ cZ : ClassId) (a_this a_shape a_shape_turns a_shape_angles a_shape_ys a_shape_xs a_shape_points a_picture a_outlines a_row a_shape_costs a_shape_rest a_shape_restByTwo : Nat) (sz : Nat) (n_shape_turns n_shape_angles n_shape_ys n_shape_xs n_shape_points : Nat) (c_shape_count : Int32) (c_shape_cost : Int32) (f_shape_turns : Nat → Int32) (f_shape_angles : Nat → Int32) (f_shape_ys : Nat → Int32) (f_shape_xs : Nat → Int32) (f_shape_points : Nat → Int32) (x1 : Int32) (x2 : Int32) (AX : Nat → Prop) (E : String) (h : tp_O_corner n_shape_turns n_shape_angles n_shape_ys n_shape_xs n_shape_points c_shape_count f_shape_turns f_shape_angles f_shape_ys f_shape_xs f_shape_points x1 x2 E) : MetX l y_O_corner w_O_corner ({ frames := 7, cells := 1, slots := 6, locals := 131 }) (va_Pc [.ref a_this, .int x1, .int x2] (fun U => U.heap.size = sz ∧ va_P (dC, dI) vwCl (cw_O_corner cI a_this a_shape a_shape_turns a_shape_angles a_shape_ys a_shape_xs a_shape_points a_picture a_outlines a_row a_shape_costs a_shape_rest a_shape_restByTwo n_shape_turns n_shape_angles n_shape_ys n_shape_xs n_shape_points c_shape_count c_shape_cost f_shape_turns f_shape_angles f_shape_ys f_shape_xs f_shape_points) U.heap ∧ va_K (dC, dI) vwCl [(cI, .int), (cB, .byte), (cJ, .long), (cZ, .boolean)] U ∧ va_D (fun _ => True) (cw_O_corner cI a_this a_shape a_shape_turns a_shape_angles a_shape_ys a_shape_xs a_shape_points a_picture a_outlines a_row a_shape_costs a_shape_rest a_shape_restByTwo n_shape_turns n_shape_angles n_shape_ys n_shape_xs n_shape_points c_shape_count c_shape_cost f_shape_turns f_shape_angles f_shape_ys f_shape_xs f_shape_points) ∧ XG AX U U.heap)) E 1 6 := by
  refine MetX.ofW (cc := b_O_corner) (maxL := 3) (ret := (some .int)) (by decide +kernel) rfl ?_
  intro p e s m args below meth c s₁ B hml hv
  obtain ⟨rfl, hsz, hP, hK, hD, hG⟩ := hv
  have hx := B.exec
  have hb := B.bytes
  have hr := B.returns
  have hts : ∀ w ∈ allW, w.before _ s = true := fun w hw => atoms_spec (ws := w_O_corner) B.pre w (List.mem_cons_of_mem _ hw)
  have hown : s.vm.findClass R_O = some m.cls := findClass_of_methodNamed B.named
  have hlocks := B.notSynchronized
  subst hsz
  have hts0 := atoms_spec (ws := w_O_corner) B.pre
  have hnoh : ∀ x ∈ c.exceptionTable.toList, ∀ pc, covers x pc = false := fun x hxm pc => covers_of_empty (B.noHandlers (hts0 _ List.mem_cons_self)) pc x hxm
  generalize hQf : XQ below E 1 6 ([.ref a_this, .int x1, .int x2] : List Value).toArray s = Qf
  have hl := lv_entry ([.ref a_this, .int x1, .int x2]) (n := 3) (Nat.le_of_ble_eq_true rfl)
  rw [lg_entry_eq]
  generalize (lg_sl ([.ref a_this, .int x1, .int x2]) ++ List.replicate (3 - (lg_sl ([.ref a_this, .int x1, .int x2])).length) Slot.unset).toArray = ls at hl ⊢
  have hl : lv_has ls 3 [(0, .ref a_this), (1, .int x1), (2, .int x2)] := hl
  unfold tp_O_corner at h
  refine lv_aload_n hx hb d_O_corner_0 rfl (lv_at hl 0 rfl) ?_
  rcases h with h | h
  · have hPc := hP.sub (ws' := (cw_O_requirePolygon a_this a_shape a_picture a_outlines a_row a_shape_costs a_shape_rest a_shape_restByTwo a_shape_points a_shape_xs a_shape_ys a_shape_angles a_shape_turns c_shape_count c_shape_cost)) [0, 1] rfl
    have hDc := hD.sub (ws' := (cw_O_requirePolygon a_this a_shape a_picture a_outlines a_row a_shape_costs a_shape_rest a_shape_restByTwo a_shape_points a_shape_xs a_shape_ys a_shape_angles a_shape_turns c_shape_count c_shape_cost)) [0, 1] (by decide) rfl
    subst hQf
    exact xLeave (xRunV (As := []) (rest := []) ⟨hx, hb, hml, hown, hts⟩ (x_O_requirePolygon l hfl dC dI cI cB cJ cZ a_this a_shape a_picture a_outlines a_row a_shape_costs a_shape_rest a_shape_restByTwo a_shape_points a_shape_xs a_shape_ys a_shape_angles a_shape_turns s.heap.size c_shape_count c_shape_cost AX E h) (cwV 0 hts (goodV q_553 q_555 q_p20 q_1 q_556) rfl rfl rfl (by decide +kernel) ⟨Nat.le_of_ble_eq_true rfl, Nat.le_of_ble_eq_true rfl⟩) ⟨fun a U g mk q => by obtain ⟨q0, q1, qP, qK, qD, qG⟩ := q; exact ⟨q0, q1, qP, va_K.moved (u := U) (U := U.calling g mk a) (Vm.Alike.refl U.vm) qK, qD, qG.calling⟩, va_recv hK hP (ci := 0) (q0 := 0) rfl rfl, fun U hU hW => ⟨rfl, by rw [hU], by rw [hU]; exact hPc, va_K.moved hW.alike hK, hDc, by rw [hU]; exact hG.warm hW⟩⟩ rfl rfl hl.1 rfl (lv_room (Nat.le_of_ble_eq_true rfl)) d_O_corner_1 ⟨Nat.le_of_ble_eq_true rfl, Nat.le_of_ble_eq_true rfl⟩) hlocks (fun x hxm => hnoh x hxm _)
  obtain ⟨Q1, hq1, h⟩ := h
  have hPc := hP.sub (ws' := (cw_O_requirePolygon a_this a_shape a_picture a_outlines a_row a_shape_costs a_shape_rest a_shape_restByTwo a_shape_points a_shape_xs a_shape_ys a_shape_angles a_shape_turns c_shape_count c_shape_cost)) [0, 1] rfl
  have hDc := hD.sub (ws' := (cw_O_requirePolygon a_this a_shape a_picture a_outlines a_row a_shape_costs a_shape_rest a_shape_restByTwo a_shape_points a_shape_xs a_shape_ys a_shape_angles a_shape_turns c_shape_count c_shape_cost)) [0, 1] (by decide) rfl
  refine ro_callv (va_runV (As := []) (rest := []) ⟨hx, hb, hml, hown, hts⟩ (s_O_requirePolygon l dC dI cI cB cJ cZ a_this a_shape a_picture a_outlines a_row a_shape_costs a_shape_rest a_shape_restByTwo a_shape_points a_shape_xs a_shape_ys a_shape_angles a_shape_turns s.heap.size c_shape_count c_shape_cost Q1 hq1) (cwV 0 hts (goodV q_553 q_555 q_p20 q_1 q_556) rfl rfl rfl (by decide +kernel) ⟨Nat.le_of_ble_eq_true rfl, Nat.le_of_ble_eq_true rfl⟩) ⟨fun a U g mk q => by obtain ⟨q0, q1, qP, qK, qD⟩ := q; exact ⟨q0, q1, qP, va_K.moved (u := U) (U := U.calling g mk a) (Vm.Alike.refl U.vm) qK, qD⟩, va_recv hK hP (ci := 0) (q0 := 0) rfl rfl, fun U hU hW => ⟨rfl, by rw [hU], by rw [hU]; exact hPc, va_K.moved hW.alike hK, hDc⟩⟩ rfl rfl hl.1 rfl (lv_room (Nat.le_of_ble_eq_true rfl)) d_O_corner_1 ⟨Nat.le_of_ble_eq_true rfl, Nat.le_of_ble_eq_true rfl⟩) (fun hw => ?_)
  have h := h () hw
  clear hPc hDc
  refine lv_iload_n hx hb d_O_corner_4 rfl (lv_at hl 1 rfl) ?_
  refine lv_aload_n hx hb d_O_corner_5 rfl (lv_at hl 0 rfl) ?_
  refine va_get (D := (dC, dI)) (ci := 0) (v := .ref a_shape) (C := R_O) (T := F_O) (N := 4) hx hb hts i_O_in hown hK hP 0 rfl rfl 2 (by decide) (hts _ q_196) (fun _ h9 => h9) rfl d_O_corner_6 ?_
  refine va_get (D := (dC, dI)) (ci := 3) (v := .int c_shape_count) (C := R_G) (T := F_G) (N := 11) hx hb hts i_G_in hown hK hP 1 rfl rfl 9 (by decide) (hts _ q_127) (fun _ h9 => h9) rfl d_O_corner_9 ?_
  rcases h with h | h
  · have hPc := hP.sub (ws' := (cw_O_requireIndex)) [] rfl
    have hDc := hD.sub (ws' := (cw_O_requireIndex)) [] (by decide) rfl
    subst hQf
    exact xLeave (xRunS (As := [.int x1, .int c_shape_count]) (rest := []) ⟨hx, hb, hml, hown, hts⟩ (x_O_requireIndex l hfl dC dI cI cB cJ cZ s.heap.size x1 c_shape_count AX E h) (va_cwS 2 hts (goodS q_430 q_431 q_1 q_432) rfl rfl rfl (by decide +kernel) ⟨Nat.le_of_ble_eq_true rfl, Nat.le_of_ble_eq_true rfl⟩) ⟨fun a U g mk q => by obtain ⟨q0, q1, qP, qK, qD, qG⟩ := q; exact ⟨q0, q1, qP, va_K.moved (u := U) (U := U.calling g mk a) (Vm.Alike.refl U.vm) qK, qD, qG.calling⟩, fun U hU hW => ⟨rfl, by rw [hU], by rw [hU]; exact hPc, va_K.moved hW.alike hK, hDc, by rw [hU]; exact hG.warm hW⟩⟩ rfl rfl hl.1 rfl (lv_room (Nat.le_of_ble_eq_true rfl)) d_O_corner_12 ⟨Nat.le_of_ble_eq_true rfl, Nat.le_of_ble_eq_true rfl⟩) hlocks (fun x hxm => hnoh x hxm _)
  obtain ⟨Q12, hq12, h⟩ := h
  have hPc := hP.sub (ws' := (cw_O_requireIndex)) [] rfl
  have hDc := hD.sub (ws' := (cw_O_requireIndex)) [] (by decide) rfl
  refine ro_callv (va_runS (As := [.int x1, .int c_shape_count]) (rest := []) ⟨hx, hb, hml, hown, hts⟩ (s_O_requireIndex l dC dI cI cB cJ cZ s.heap.size x1 c_shape_count Q12 hq12) (va_cwS 2 hts (goodS q_430 q_431 q_1 q_432) rfl rfl rfl (by decide +kernel) ⟨Nat.le_of_ble_eq_true rfl, Nat.le_of_ble_eq_true rfl⟩) ⟨fun a U g mk q => by obtain ⟨q0, q1, qP, qK, qD⟩ := q; exact ⟨q0, q1, qP, va_K.moved (u := U) (U := U.calling g mk a) (Vm.Alike.refl U.vm) qK, qD⟩, fun U hU hW => ⟨rfl, by rw [hU], by rw [hU]; exact hPc, va_K.moved hW.alike hK, hDc⟩⟩ rfl rfl hl.1 rfl (lv_room (Nat.le_of_ble_eq_true rfl)) d_O_corner_12 ⟨Nat.le_of_ble_eq_true rfl, Nat.le_of_ble_eq_true rfl⟩) (fun hw => ?_)
  have h := h () hw
  clear hPc hDc
  refine lv_iload_n hx hb d_O_corner_15 rfl (lv_at hl 2 rfl) ?_
  exact h.elim
def tp_O_curves (n_shape_angles n_row_fewest n_row_firsts n_row_takenLengths n_row_lengths n_row_takenPulls n_row_pulls n_shape_turns n_shape_xs n_row_handX n_shape_ys n_row_handY : Nat) (c_shape_count : Int32) (c_row_count : Int32) (f_shape_angles : Nat → Int32) (f_row_fewest : Nat → Int32) (f_row_firsts : Nat → Int32) (f_row_takenLengths : Nat → Int32) (f_row_lengths : Nat → Int32) (f_row_takenPulls : Nat → Int32) (f_row_pulls : Nat → Int32) (f_shape_turns : Nat → Int32) (f_shape_xs : Nat → Int32) (f_row_handX : Nat → Int32) (f_shape_ys : Nat → Int32) (f_row_handY : Nat → Int32) (x1 : Int32) (x2 : Int32) (E : String) : Prop :=
  (tp_O_requirePolygon c_shape_count E) ∨ ∃ Q1 : Unit → Prop, wp_O_requirePolygon c_shape_count Q1 ∧ ∀ (_ : Unit), Q1 () → (tp_O_requireRange x1 (0 : Int32) (65 : Int32) E) ∨ ∃ Q8 : Unit → Prop, wp_O_requireRange x1 (0 : Int32) (65 : Int32) Q8 ∧ ∀ (_ : Unit), Q8 () → (tp_O_requireRange x2 (0 : Int32) (64 : Int32) E) ∨ ∃ Q15 : Unit → Prop, wp_O_requireRange x2 (0 : Int32) (64 : Int32) Q15 ∧ ∀ (_ : Unit), Q15 () → False
set_option maxHeartbeats 4000000 in
set_option maxRecDepth 100000 in
theorem x_O_curves (l : Launch) (hfl : l.stackTraces = false) (dC : Nat → ClassId) (dI : Nat → Nat → Nat) (cI cB cJ cZ : ClassId) (a_this a_shape a_row a_shape_angles a_row_fewest a_row_firsts a_row_takenLengths a_row_lengths a_row_takenPulls a_row_pulls a_shape_turns a_shape_xs a_row_handX a_shape_ys a_row_handY a_picture a_outlines a_shape_costs a_shape_rest a_shape_restByTwo a_shape_points : Nat) (sz : Nat) (n_shape_angles n_row_fewest n_row_firsts n_row_takenLengths n_row_lengths n_row_takenPulls n_row_pulls n_shape_turns n_shape_xs n_row_handX n_shape_ys n_row_handY : Nat) (c_shape_count : Int32) (c_shape_cost : Int32) (c_row_count : Int32) (f_shape_angles : Nat → Int32) (f_row_fewest : Nat → Int32) (f_row_firsts : Nat → Int32) (f_row_takenLengths : Nat → Int32) (f_row_lengths : Nat → Int32) (f_row_takenPulls : Nat → Int32) (f_row_pulls : Nat → Int32) (f_shape_turns : Nat → Int32) (f_shape_xs : Nat → Int32) (f_row_handX : Nat → Int32) (f_shape_ys : Nat → Int32) (f_row_handY : Nat → Int32) (x1 : Int32) (x2 : Int32) (AX : Nat → Prop) (E : String) (h : tp_O_curves n_shape_angles n_row_fewest n_row_firsts n_row_takenLengths n_row_lengths n_row_takenPulls n_row_pulls n_shape_turns n_shape_xs n_row_handX n_shape_ys n_row_handY c_shape_count c_row_count f_shape_angles f_row_fewest f_row_firsts f_row_takenLengths f_row_lengths f_row_takenPulls f_row_pulls f_shape_turns f_shape_xs f_row_handX f_shape_ys f_row_handY x1 x2 E) : MetX l y_O_curves w_O_curves ({ frames := 7, cells := 1, slots := 6, locals := 175 }) (va_Pc [.ref a_this, .int x1, .int x2] (fun U => U.heap.size = sz ∧ va_P (dC, dI) vwCl (cw_O_curves cI a_this a_shape a_row a_shape_angles a_row_fewest a_row_firsts a_row_takenLengths a_row_lengths a_row_takenPulls a_row_pulls a_shape_turns a_shape_xs a_row_handX a_shape_ys a_row_handY a_picture a_outlines a_shape_costs a_shape_rest a_shape_restByTwo a_shape_points n_shape_angles n_row_fewest n_row_firsts n_row_takenLengths n_row_lengths n_row_takenPulls n_row_pulls n_shape_turns n_shape_xs n_row_handX n_shape_ys n_row_handY c_shape_count c_shape_cost c_row_count f_shape_angles f_row_fewest f_row_firsts f_row_takenLengths f_row_lengths f_row_takenPulls f_row_pulls f_shape_turns f_shape_xs f_row_handX f_shape_ys f_row_handY) U.heap ∧ va_K (dC, dI) vwCl [(cI, .int), (cB, .byte), (cJ, .long), (cZ, .boolean)] U ∧ va_D (fun _ => True) (cw_O_curves cI a_this a_shape a_row a_shape_angles a_row_fewest a_row_firsts a_row_takenLengths a_row_lengths a_row_takenPulls a_row_pulls a_shape_turns a_shape_xs a_row_handX a_shape_ys a_row_handY a_picture a_outlines a_shape_costs a_shape_rest a_shape_restByTwo a_shape_points n_shape_angles n_row_fewest n_row_firsts n_row_takenLengths n_row_lengths n_row_takenPulls n_row_pulls n_shape_turns n_shape_xs n_row_handX n_shape_ys n_row_handY c_shape_count c_shape_cost c_row_count f_shape_angles f_row_fewest f_row_firsts f_row_takenLengths f_row_lengths f_row_takenPulls f_row_pulls f_shape_turns f_shape_xs f_row_handX f_shape_ys f_row_handY) ∧ XG AX U U.heap)) E 1 6 := by
  refine MetX.ofW (cc := b_O_curves) (maxL := 3) (ret := (some .int)) (by decide +kernel) rfl ?_
  intro p e s m args below meth c s₁ B hml hv
  obtain ⟨rfl, hsz, hP, hK, hD, hG⟩ := hv
  have hx := B.exec
  have hb := B.bytes
  have hr := B.returns
  have hts : ∀ w ∈ allW, w.before _ s = true := fun w hw => atoms_spec (ws := w_O_curves) B.pre w (List.mem_cons_of_mem _ hw)
  have hown : s.vm.findClass R_O = some m.cls := findClass_of_methodNamed B.named
  have hlocks := B.notSynchronized
  subst hsz
  have hts0 := atoms_spec (ws := w_O_curves) B.pre
  have hnoh : ∀ x ∈ c.exceptionTable.toList, ∀ pc, covers x pc = false := fun x hxm pc => covers_of_empty (B.noHandlers (hts0 _ List.mem_cons_self)) pc x hxm
  generalize hQf : XQ below E 1 6 ([.ref a_this, .int x1, .int x2] : List Value).toArray s = Qf
  have hl := lv_entry ([.ref a_this, .int x1, .int x2]) (n := 3) (Nat.le_of_ble_eq_true rfl)
  rw [lg_entry_eq]
  generalize (lg_sl ([.ref a_this, .int x1, .int x2]) ++ List.replicate (3 - (lg_sl ([.ref a_this, .int x1, .int x2])).length) Slot.unset).toArray = ls at hl ⊢
  have hl : lv_has ls 3 [(0, .ref a_this), (1, .int x1), (2, .int x2)] := hl
  unfold tp_O_curves at h
  refine lv_aload_n hx hb d_O_curves_0 rfl (lv_at hl 0 rfl) ?_
  rcases h with h | h
  · have hPc := hP.sub (ws' := (cw_O_requirePolygon a_this a_shape a_picture a_outlines a_row a_shape_costs a_shape_rest a_shape_restByTwo a_shape_points a_shape_xs a_shape_ys a_shape_angles a_shape_turns c_shape_count c_shape_cost)) [0, 1] rfl
    have hDc := hD.sub (ws' := (cw_O_requirePolygon a_this a_shape a_picture a_outlines a_row a_shape_costs a_shape_rest a_shape_restByTwo a_shape_points a_shape_xs a_shape_ys a_shape_angles a_shape_turns c_shape_count c_shape_cost)) [0, 1] (by decide) rfl
    subst hQf
    exact xLeave (xRunV (As := []) (rest := []) ⟨hx, hb, hml, hown, hts⟩ (x_O_requirePolygon l hfl dC dI cI cB cJ cZ a_this a_shape a_picture a_outlines a_row a_shape_costs a_shape_rest a_shape_restByTwo a_shape_points a_shape_xs a_shape_ys a_shape_angles a_shape_turns s.heap.size c_shape_count c_shape_cost AX E h) (cwV 0 hts (goodV q_553 q_555 q_p20 q_1 q_556) rfl rfl rfl (by decide +kernel) ⟨Nat.le_of_ble_eq_true rfl, Nat.le_of_ble_eq_true rfl⟩) ⟨fun a U g mk q => by obtain ⟨q0, q1, qP, qK, qD, qG⟩ := q; exact ⟨q0, q1, qP, va_K.moved (u := U) (U := U.calling g mk a) (Vm.Alike.refl U.vm) qK, qD, qG.calling⟩, va_recv hK hP (ci := 0) (q0 := 0) rfl rfl, fun U hU hW => ⟨rfl, by rw [hU], by rw [hU]; exact hPc, va_K.moved hW.alike hK, hDc, by rw [hU]; exact hG.warm hW⟩⟩ rfl rfl hl.1 rfl (lv_room (Nat.le_of_ble_eq_true rfl)) d_O_curves_1 ⟨Nat.le_of_ble_eq_true rfl, Nat.le_of_ble_eq_true rfl⟩) hlocks (fun x hxm => hnoh x hxm _)
  obtain ⟨Q1, hq1, h⟩ := h
  have hPc := hP.sub (ws' := (cw_O_requirePolygon a_this a_shape a_picture a_outlines a_row a_shape_costs a_shape_rest a_shape_restByTwo a_shape_points a_shape_xs a_shape_ys a_shape_angles a_shape_turns c_shape_count c_shape_cost)) [0, 1] rfl
  have hDc := hD.sub (ws' := (cw_O_requirePolygon a_this a_shape a_picture a_outlines a_row a_shape_costs a_shape_rest a_shape_restByTwo a_shape_points a_shape_xs a_shape_ys a_shape_angles a_shape_turns c_shape_count c_shape_cost)) [0, 1] (by decide) rfl
  refine ro_callv (va_runV (As := []) (rest := []) ⟨hx, hb, hml, hown, hts⟩ (s_O_requirePolygon l dC dI cI cB cJ cZ a_this a_shape a_picture a_outlines a_row a_shape_costs a_shape_rest a_shape_restByTwo a_shape_points a_shape_xs a_shape_ys a_shape_angles a_shape_turns s.heap.size c_shape_count c_shape_cost Q1 hq1) (cwV 0 hts (goodV q_553 q_555 q_p20 q_1 q_556) rfl rfl rfl (by decide +kernel) ⟨Nat.le_of_ble_eq_true rfl, Nat.le_of_ble_eq_true rfl⟩) ⟨fun a U g mk q => by obtain ⟨q0, q1, qP, qK, qD⟩ := q; exact ⟨q0, q1, qP, va_K.moved (u := U) (U := U.calling g mk a) (Vm.Alike.refl U.vm) qK, qD⟩, va_recv hK hP (ci := 0) (q0 := 0) rfl rfl, fun U hU hW => ⟨rfl, by rw [hU], by rw [hU]; exact hPc, va_K.moved hW.alike hK, hDc⟩⟩ rfl rfl hl.1 rfl (lv_room (Nat.le_of_ble_eq_true rfl)) d_O_curves_1 ⟨Nat.le_of_ble_eq_true rfl, Nat.le_of_ble_eq_true rfl⟩) (fun hw => ?_)
  have h := h () hw
  clear hPc hDc
  refine lv_iload_n hx hb d_O_curves_4 rfl (lv_at hl 1 rfl) ?_
  refine lv_iconst (v := 0) hx hb d_O_curves_5 (by decide) ?_
  refine lv_bipush (v := 65) hx hb d_O_curves_6 (by decide) ?_
  rcases h with h | h
  · have hPc := hP.sub (ws' := (cw_O_requireRange)) [] rfl
    have hDc := hD.sub (ws' := (cw_O_requireRange)) [] (by decide) rfl
    subst hQf
    exact xLeave (xRunS (As := [.int x1, .int (0 : Int32), .int (65 : Int32)]) (rest := []) ⟨hx, hb, hml, hown, hts⟩ (x_O_requireRange l hfl dC dI cI cB cJ cZ s.heap.size x1 (0 : Int32) (65 : Int32) AX E h) (va_cwS 3 hts (goodS q_330 q_331 q_1 q_332) rfl rfl rfl (by decide +kernel) ⟨Nat.le_of_ble_eq_true rfl, Nat.le_of_ble_eq_true rfl⟩) ⟨fun a U g mk q => by obtain ⟨q0, q1, qP, qK, qD, qG⟩ := q; exact ⟨q0, q1, qP, va_K.moved (u := U) (U := U.calling g mk a) (Vm.Alike.refl U.vm) qK, qD, qG.calling⟩, fun U hU hW => ⟨rfl, by rw [hU], by rw [hU]; exact hPc, va_K.moved hW.alike hK, hDc, by rw [hU]; exact hG.warm hW⟩⟩ rfl rfl hl.1 rfl (lv_room (Nat.le_of_ble_eq_true rfl)) d_O_curves_8 ⟨Nat.le_of_ble_eq_true rfl, Nat.le_of_ble_eq_true rfl⟩) hlocks (fun x hxm => hnoh x hxm _)
  obtain ⟨Q8, hq8, h⟩ := h
  have hPc := hP.sub (ws' := (cw_O_requireRange)) [] rfl
  have hDc := hD.sub (ws' := (cw_O_requireRange)) [] (by decide) rfl
  refine ro_callv (va_runS (As := [.int x1, .int (0 : Int32), .int (65 : Int32)]) (rest := []) ⟨hx, hb, hml, hown, hts⟩ (s_O_requireRange l dC dI cI cB cJ cZ s.heap.size x1 (0 : Int32) (65 : Int32) Q8 hq8) (va_cwS 3 hts (goodS q_330 q_331 q_1 q_332) rfl rfl rfl (by decide +kernel) ⟨Nat.le_of_ble_eq_true rfl, Nat.le_of_ble_eq_true rfl⟩) ⟨fun a U g mk q => by obtain ⟨q0, q1, qP, qK, qD⟩ := q; exact ⟨q0, q1, qP, va_K.moved (u := U) (U := U.calling g mk a) (Vm.Alike.refl U.vm) qK, qD⟩, fun U hU hW => ⟨rfl, by rw [hU], by rw [hU]; exact hPc, va_K.moved hW.alike hK, hDc⟩⟩ rfl rfl hl.1 rfl (lv_room (Nat.le_of_ble_eq_true rfl)) d_O_curves_8 ⟨Nat.le_of_ble_eq_true rfl, Nat.le_of_ble_eq_true rfl⟩) (fun hw => ?_)
  have h := h () hw
  clear hPc hDc
  refine lv_iload_n hx hb d_O_curves_11 rfl (lv_at hl 2 rfl) ?_
  refine lv_iconst (v := 0) hx hb d_O_curves_12 (by decide) ?_
  refine lv_bipush (v := 64) hx hb d_O_curves_13 (by decide) ?_
  rcases h with h | h
  · have hPc := hP.sub (ws' := (cw_O_requireRange)) [] rfl
    have hDc := hD.sub (ws' := (cw_O_requireRange)) [] (by decide) rfl
    subst hQf
    exact xLeave (xRunS (As := [.int x2, .int (0 : Int32), .int (64 : Int32)]) (rest := []) ⟨hx, hb, hml, hown, hts⟩ (x_O_requireRange l hfl dC dI cI cB cJ cZ s.heap.size x2 (0 : Int32) (64 : Int32) AX E h) (va_cwS 3 hts (goodS q_330 q_331 q_1 q_332) rfl rfl rfl (by decide +kernel) ⟨Nat.le_of_ble_eq_true rfl, Nat.le_of_ble_eq_true rfl⟩) ⟨fun a U g mk q => by obtain ⟨q0, q1, qP, qK, qD, qG⟩ := q; exact ⟨q0, q1, qP, va_K.moved (u := U) (U := U.calling g mk a) (Vm.Alike.refl U.vm) qK, qD, qG.calling⟩, fun U hU hW => ⟨rfl, by rw [hU], by rw [hU]; exact hPc, va_K.moved hW.alike hK, hDc, by rw [hU]; exact hG.warm hW⟩⟩ rfl rfl hl.1 rfl (lv_room (Nat.le_of_ble_eq_true rfl)) d_O_curves_15 ⟨Nat.le_of_ble_eq_true rfl, Nat.le_of_ble_eq_true rfl⟩) hlocks (fun x hxm => hnoh x hxm _)
  obtain ⟨Q15, hq15, h⟩ := h
  have hPc := hP.sub (ws' := (cw_O_requireRange)) [] rfl
  have hDc := hD.sub (ws' := (cw_O_requireRange)) [] (by decide) rfl
  refine ro_callv (va_runS (As := [.int x2, .int (0 : Int32), .int (64 : Int32)]) (rest := []) ⟨hx, hb, hml, hown, hts⟩ (s_O_requireRange l dC dI cI cB cJ cZ s.heap.size x2 (0 : Int32) (64 : Int32) Q15 hq15) (va_cwS 3 hts (goodS q_330 q_331 q_1 q_332) rfl rfl rfl (by decide +kernel) ⟨Nat.le_of_ble_eq_true rfl, Nat.le_of_ble_eq_true rfl⟩) ⟨fun a U g mk q => by obtain ⟨q0, q1, qP, qK, qD⟩ := q; exact ⟨q0, q1, qP, va_K.moved (u := U) (U := U.calling g mk a) (Vm.Alike.refl U.vm) qK, qD⟩, fun U hU hW => ⟨rfl, by rw [hU], by rw [hU]; exact hPc, va_K.moved hW.alike hK, hDc⟩⟩ rfl rfl hl.1 rfl (lv_room (Nat.le_of_ble_eq_true rfl)) d_O_curves_15 ⟨Nat.le_of_ble_eq_true rfl, Nat.le_of_ble_eq_true rfl⟩) (fun hw => ?_)
  have h := h () hw
  clear hPc hDc
  refine lv_aload_n hx hb d_O_curves_18 rfl (lv_at hl 0 rfl) ?_
  refine va_get (D := (dC, dI)) (ci := 0) (v := .ref a_row) (C := R_O) (T := F_O) (N := 4) hx hb hts i_O_in hown hK hP 0 rfl rfl 3 (by decide) (hts _ q_197) (fun _ h9 => h9) rfl d_O_curves_19 ?_
  refine lv_iload_n hx hb d_O_curves_22 rfl (lv_at hl 1 rfl) ?_
  refine lv_iload_n hx hb d_O_curves_23 rfl (lv_at hl 2 rfl) ?_
  exact h.elim
def tp_O_requireCurve (c_row_count : Int32) (x1 : Int32) (E : String) : Prop :=
  (¬ c_row_count = 0 → (tp_O_requireIndex x1 c_row_count E) ∨ ∃ Q28 : Unit → Prop, wp_O_requireIndex x1 c_row_count Q28 ∧ ∀ (_ : Unit), Q28 () → False) ∧ (c_row_count = 0 → E = "java/lang/IllegalStateException")
set_option maxHeartbeats 4000000 in
set_option maxRecDepth 100000 in
theorem x_O_requireCurve (l : Launch) (hfl : l.stackTraces = false) (dC : Nat → ClassId) (dI : Nat → Nat → Nat) (cI cB cJ cZ : ClassId) (a_this a_row a_picture a_outlines a_shape a_row_fewest a_row_takenLengths a_row_takenPulls a_row_firsts a_row_lengths a_row_pulls a_row_handX a_row_handY : Nat) (sz : Nat) (c_row_count : Int32) (x1 : Int32) (AX : Nat → Prop) (E : String) (h : tp_O_requireCurve c_row_count x1 E) : MetX l y_O_requireCurve w_O_requireCurve ({ frames := 7, cells := 1, slots := 6, locals := 131 }) (va_Pc [.ref a_this, .int x1] (fun U => U.heap.size = sz ∧ va_P (dC, dI) vwCl (cw_O_requireCurve a_this a_row a_picture a_outlines a_shape a_row_fewest a_row_takenLengths a_row_takenPulls a_row_firsts a_row_lengths a_row_pulls a_row_handX a_row_handY c_row_count) U.heap ∧ va_K (dC, dI) vwCl [(cI, .int), (cB, .byte), (cJ, .long), (cZ, .boolean)] U ∧ va_D (fun _ => True) (cw_O_requireCurve a_this a_row a_picture a_outlines a_shape a_row_fewest a_row_takenLengths a_row_takenPulls a_row_firsts a_row_lengths a_row_pulls a_row_handX a_row_handY c_row_count) ∧ XG AX U U.heap)) E 1 6 := by
  refine MetX.ofW (cc := b_O_requireCurve) (maxL := 2) (ret := none) (by decide +kernel) rfl ?_
  intro p e s m args below meth c s₁ B hml hv
  obtain ⟨rfl, hsz, hP, hK, hD, hG⟩ := hv
  have hx := B.exec
  have hb := B.bytes
  have hr := B.returns
  have hts : ∀ w ∈ allW, w.before _ s = true := fun w hw => atoms_spec (ws := w_O_requireCurve) B.pre w (List.mem_cons_of_mem _ hw)
  have hown : s.vm.findClass R_O = some m.cls := findClass_of_methodNamed B.named
  have hlocks := B.notSynchronized
  subst hsz
  have hts0 := atoms_spec (ws := w_O_requireCurve) B.pre
  have hnoh : ∀ x ∈ c.exceptionTable.toList, ∀ pc, covers x pc = false := fun x hxm pc => covers_of_empty (B.noHandlers (hts0 _ List.mem_cons_self)) pc x hxm
  generalize hQf : XQ below E 1 6 ([.ref a_this, .int x1] : List Value).toArray s = Qf
  have hl := lv_entry ([.ref a_this, .int x1]) (n := 2) (Nat.le_of_ble_eq_true rfl)
  rw [lg_entry_eq]
  generalize (lg_sl ([.ref a_this, .int x1]) ++ List.replicate (2 - (lg_sl ([.ref a_this, .int x1])).length) Slot.unset).toArray = ls at hl ⊢
  have hl : lv_has ls 2 [(0, .ref a_this), (1, .int x1)] := hl
  unfold tp_O_requireCurve at h
  refine lv_aload_n hx hb d_O_requireCurve_0 rfl (lv_at hl 0 rfl) ?_
  refine va_get (D := (dC, dI)) (ci := 0) (v := .ref a_row) (C := R_O) (T := F_O) (N := 4) hx hb hts i_O_in hown hK hP 0 rfl rfl 3 (by decide) (hts _ q_197) (fun _ h9 => h9) rfl d_O_requireCurve_1 ?_
  refine va_get (D := (dC, dI)) (ci := 4) (v := .int c_row_count) (C := R_C) (T := F_C) (N := 10) hx hb hts i_C_in hown hK hP 1 rfl rfl 9 (by decide) (hts _ q_172) (fun _ h9 => h9) rfl d_O_requireCurve_4 ?_
  refine lv_if_ne (tgt := 20) hx hb d_O_requireCurve_7 (by decide) (fun cc_ => ?_) (fun cc_ => ?_)
  · have h := h.1 cc_
    refine lv_iload_n hx hb d_O_requireCurve_20 rfl (lv_at hl 1 rfl) ?_
    refine lv_aload_n hx hb d_O_requireCurve_21 rfl (lv_at hl 0 rfl) ?_
    refine va_get (D := (dC, dI)) (ci := 0) (v := .ref a_row) (C := R_O) (T := F_O) (N := 4) hx hb hts i_O_in hown hK hP 0 rfl rfl 3 (by decide) (hts _ q_197) (fun _ h9 => h9) rfl d_O_requireCurve_22 ?_
    refine va_get (D := (dC, dI)) (ci := 4) (v := .int c_row_count) (C := R_C) (T := F_C) (N := 10) hx hb hts i_C_in hown hK hP 1 rfl rfl 9 (by decide) (hts _ q_172) (fun _ h9 => h9) rfl d_O_requireCurve_25 ?_
    rcases h with h | h
    · have hPc := hP.sub (ws' := (cw_O_requireIndex)) [] rfl
      have hDc := hD.sub (ws' := (cw_O_requireIndex)) [] (by decide) rfl
      subst hQf
      exact xLeave (xRunS (As := [.int x1, .int c_row_count]) (rest := []) ⟨hx, hb, hml, hown, hts⟩ (x_O_requireIndex l hfl dC dI cI cB cJ cZ s.heap.size x1 c_row_count AX E h) (va_cwS 2 hts (goodS q_430 q_431 q_1 q_432) rfl rfl rfl (by decide +kernel) ⟨Nat.le_of_ble_eq_true rfl, Nat.le_of_ble_eq_true rfl⟩) ⟨fun a U g mk q => by obtain ⟨q0, q1, qP, qK, qD, qG⟩ := q; exact ⟨q0, q1, qP, va_K.moved (u := U) (U := U.calling g mk a) (Vm.Alike.refl U.vm) qK, qD, qG.calling⟩, fun U hU hW => ⟨rfl, by rw [hU], by rw [hU]; exact hPc, va_K.moved hW.alike hK, hDc, by rw [hU]; exact hG.warm hW⟩⟩ rfl rfl hl.1 rfl (lv_room (Nat.le_of_ble_eq_true rfl)) d_O_requireCurve_28 ⟨Nat.le_of_ble_eq_true rfl, Nat.le_of_ble_eq_true rfl⟩) hlocks (fun x hxm => hnoh x hxm _)
    obtain ⟨Q28, hq28, h⟩ := h
    have hPc := hP.sub (ws' := (cw_O_requireIndex)) [] rfl
    have hDc := hD.sub (ws' := (cw_O_requireIndex)) [] (by decide) rfl
    refine ro_callv (va_runS (As := [.int x1, .int c_row_count]) (rest := []) ⟨hx, hb, hml, hown, hts⟩ (s_O_requireIndex l dC dI cI cB cJ cZ s.heap.size x1 c_row_count Q28 hq28) (va_cwS 2 hts (goodS q_430 q_431 q_1 q_432) rfl rfl rfl (by decide +kernel) ⟨Nat.le_of_ble_eq_true rfl, Nat.le_of_ble_eq_true rfl⟩) ⟨fun a U g mk q => by obtain ⟨q0, q1, qP, qK, qD⟩ := q; exact ⟨q0, q1, qP, va_K.moved (u := U) (U := U.calling g mk a) (Vm.Alike.refl U.vm) qK, qD⟩, fun U hU hW => ⟨rfl, by rw [hU], by rw [hU]; exact hPc, va_K.moved hW.alike hK, hDc⟩⟩ rfl rfl hl.1 rfl (lv_room (Nat.le_of_ble_eq_true rfl)) d_O_requireCurve_28 ⟨Nat.le_of_ble_eq_true rfl, Nat.le_of_ble_eq_true rfl⟩) (fun hw => ?_)
    have h := h () hw
    clear hPc hDc
    exact h.elim
  · have h := h.2 cc_
    subst h
    subst hQf
    exact xThrow (l := l) hx hb (hml.trans hl.1.symm) hown hlocks hnoh hfl (E := "java/lang/IllegalStateException") (by decide +kernel) hG hts xai_1 (hts _ q_414) (hts _ q_14) (tx := "there are no curves") (by decide +kernel) (Nat.le_of_ble_eq_true rfl) (Nat.le_of_ble_eq_true rfl) (Nat.le_of_ble_eq_true rfl) (Nat.le_of_ble_eq_true rfl) d_O_requireCurve_10 d_O_requireCurve_13 d_O_requireCurve_14 d_O_requireCurve_16 d_O_requireCurve_19
def tp_O_curve (n_row_firsts n_row_lengths n_row_pulls n_shape_xs n_row_handX n_shape_ys n_row_handY : Nat) (c_row_count : Int32) (f_row_firsts : Nat → Int32) (f_row_lengths : Nat → Int32) (f_row_pulls : Nat → Int32) (c_shape_count : Int32) (f_shape_xs : Nat → Int32) (f_row_handX : Nat → Int32) (f_shape_ys : Nat → Int32) (f_row_handY : Nat → Int32) (x1 : Int32) (x2 : Int32) (E : String) : Prop :=
  (tp_O_requireCurve c_row_count x1 E) ∨ ∃ Q2 : Unit → Prop, wp_O_requireCurve c_row_count x1 Q2 ∧ ∀ (_ : Unit), Q2 () → False
set_option maxHeartbeats 4000000 in
set_option maxRecDepth 100000 in
theorem x_O_curve (l : Launch) (hfl : l.stackTraces = false) (dC : Nat → ClassId) (dI : Nat → Nat → Nat) (cI cB cJ cZ : ClassId) (a_this a_row a_row_firsts a_row_lengths a_row_pulls a_shape a_shape_xs a_row_handX a_shape_ys a_row_handY a_picture a_outlines a_row_fewest a_row_takenLengths a_row_takenPulls a_shape_costs a_shape_rest a_shape_restByTwo a_shape_points a_shape_angles a_shape_turns : Nat) (sz : Nat) (n_row_firsts n_row_lengths n_row_pulls n_shape_xs n_row_handX n_shape_ys n_row_handY : Nat) (c_row_count : Int32) (f_row_firsts : Nat → Int32) (f_row_lengths : Nat → Int32) (f_row_pulls : Nat → Int32) (c_shape_count : Int32) (c_shape_cost : Int32) (f_shape_xs : Nat → Int32) (f_row_handX : Nat → Int32) (f_shape_ys : Nat → Int32) (f_row_handY : Nat → Int32) (x1 : Int32) (x2 : Int32) (AX : Nat → Prop) (E : String) (h : tp_O_curve n_row_firsts n_row_lengths n_row_pulls n_shape_xs n_row_handX n_shape_ys n_row_handY c_row_count f_row_firsts f_row_lengths f_row_pulls c_shape_count f_shape_xs f_row_handX f_shape_ys f_row_handY x1 x2 E) : MetX l y_O_curve w_O_curve ({ frames := 8, cells := 1, slots := 6, locals := 152 }) (va_Pc [.ref a_this, .int x1, .int x2] (fun U => U.heap.size = sz ∧ va_P (dC, dI) vwCl (cw_O_curve cI a_this a_row a_row_firsts a_row_lengths a_row_pulls a_shape a_shape_xs a_row_handX a_shape_ys a_row_handY a_picture a_outlines a_row_fewest a_row_takenLengths a_row_takenPulls a_shape_costs a_shape_rest a_shape_restByTwo a_shape_points a_shape_angles a_shape_turns n_row_firsts n_row_lengths n_row_pulls n_shape_xs n_row_handX n_shape_ys n_row_handY c_row_count f_row_firsts f_row_lengths f_row_pulls c_shape_count c_shape_cost f_shape_xs f_row_handX f_shape_ys f_row_handY) U.heap ∧ va_K (dC, dI) vwCl [(cI, .int), (cB, .byte), (cJ, .long), (cZ, .boolean)] U ∧ va_D (fun _ => True) (cw_O_curve cI a_this a_row a_row_firsts a_row_lengths a_row_pulls a_shape a_shape_xs a_row_handX a_shape_ys a_row_handY a_picture a_outlines a_row_fewest a_row_takenLengths a_row_takenPulls a_shape_costs a_shape_rest a_shape_restByTwo a_shape_points a_shape_angles a_shape_turns n_row_firsts n_row_lengths n_row_pulls n_shape_xs n_row_handX n_shape_ys n_row_handY c_row_count f_row_firsts f_row_lengths f_row_pulls c_shape_count c_shape_cost f_shape_xs f_row_handX f_shape_ys f_row_handY) ∧ XG AX U U.heap)) E 1 6 := by
  refine MetX.ofW (cc := b_O_curve) (maxL := 3) (ret := (some .int)) (by decide +kernel) rfl ?_
  intro p e s m args below meth c s₁ B hml hv
  obtain ⟨rfl, hsz, hP, hK, hD, hG⟩ := hv
  have hx := B.exec
  have hb := B.bytes
  have hr := B.returns
  have hts : ∀ w ∈ allW, w.before _ s = true := fun w hw => atoms_spec (ws := w_O_curve) B.pre w (List.mem_cons_of_mem _ hw)
  have hown : s.vm.findClass R_O = some m.cls := findClass_of_methodNamed B.named
  have hlocks := B.notSynchronized
  subst hsz
  have hts0 := atoms_spec (ws := w_O_curve) B.pre
  have hnoh : ∀ x ∈ c.exceptionTable.toList, ∀ pc, covers x pc = false := fun x hxm pc => covers_of_empty (B.noHandlers (hts0 _ List.mem_cons_self)) pc x hxm
  generalize hQf : XQ below E 1 6 ([.ref a_this, .int x1, .int x2] : List Value).toArray s = Qf
  have hl := lv_entry ([.ref a_this, .int x1, .int x2]) (n := 3) (Nat.le_of_ble_eq_true rfl)
  rw [lg_entry_eq]
  generalize (lg_sl ([.ref a_this, .int x1, .int x2]) ++ List.replicate (3 - (lg_sl ([.ref a_this, .int x1, .int x2])).length) Slot.unset).toArray = ls at hl ⊢
  have hl : lv_has ls 3 [(0, .ref a_this), (1, .int x1), (2, .int x2)] := hl
  unfold tp_O_curve at h
  refine lv_aload_n hx hb d_O_curve_0 rfl (lv_at hl 0 rfl) ?_
  refine lv_iload_n hx hb d_O_curve_1 rfl (lv_at hl 1 rfl) ?_
  rcases h with h | h
  · have hPc := hP.sub (ws' := (cw_O_requireCurve a_this a_row a_picture a_outlines a_shape a_row_fewest a_row_takenLengths a_row_takenPulls a_row_firsts a_row_lengths a_row_pulls a_row_handX a_row_handY c_row_count)) [0, 1] rfl
    have hDc := hD.sub (ws' := (cw_O_requireCurve a_this a_row a_picture a_outlines a_shape a_row_fewest a_row_takenLengths a_row_takenPulls a_row_firsts a_row_lengths a_row_pulls a_row_handX a_row_handY c_row_count)) [0, 1] (by decide) rfl
    subst hQf
    exact xLeave (xRunV (As := [.int x1]) (rest := []) ⟨hx, hb, hml, hown, hts⟩ (x_O_requireCurve l hfl dC dI cI cB cJ cZ a_this a_row a_picture a_outlines a_shape a_row_fewest a_row_takenLengths a_row_takenPulls a_row_firsts a_row_lengths a_row_pulls a_row_handX a_row_handY s.heap.size c_row_count x1 AX E h) (cwV 1 hts (goodV q_620 q_622 q_p29 q_1 q_623) rfl rfl rfl (by decide +kernel) ⟨Nat.le_of_ble_eq_true rfl, Nat.le_of_ble_eq_true rfl⟩) ⟨fun a U g mk q => by obtain ⟨q0, q1, qP, qK, qD, qG⟩ := q; exact ⟨q0, q1, qP, va_K.moved (u := U) (U := U.calling g mk a) (Vm.Alike.refl U.vm) qK, qD, qG.calling⟩, va_recv hK hP (ci := 0) (q0 := 0) rfl rfl, fun U hU hW => ⟨rfl, by rw [hU], by rw [hU]; exact hPc, va_K.moved hW.alike hK, hDc, by rw [hU]; exact hG.warm hW⟩⟩ rfl rfl hl.1 rfl (lv_room (Nat.le_of_ble_eq_true rfl)) d_O_curve_2 ⟨Nat.le_of_ble_eq_true rfl, Nat.le_of_ble_eq_true rfl⟩) hlocks (fun x hxm => hnoh x hxm _)
  obtain ⟨Q2, hq2, h⟩ := h
  have hPc := hP.sub (ws' := (cw_O_requireCurve a_this a_row a_picture a_outlines a_shape a_row_fewest a_row_takenLengths a_row_takenPulls a_row_firsts a_row_lengths a_row_pulls a_row_handX a_row_handY c_row_count)) [0, 1] rfl
  have hDc := hD.sub (ws' := (cw_O_requireCurve a_this a_row a_picture a_outlines a_shape a_row_fewest a_row_takenLengths a_row_takenPulls a_row_firsts a_row_lengths a_row_pulls a_row_handX a_row_handY c_row_count)) [0, 1] (by decide) rfl
  refine ro_callv (va_runV (As := [.int x1]) (rest := []) ⟨hx, hb, hml, hown, hts⟩ (s_O_requireCurve l dC dI cI cB cJ cZ a_this a_row a_picture a_outlines a_shape a_row_fewest a_row_takenLengths a_row_takenPulls a_row_firsts a_row_lengths a_row_pulls a_row_handX a_row_handY s.heap.size c_row_count x1 Q2 hq2) (cwV 1 hts (goodV q_620 q_622 q_p29 q_1 q_623) rfl rfl rfl (by decide +kernel) ⟨Nat.le_of_ble_eq_true rfl, Nat.le_of_ble_eq_true rfl⟩) ⟨fun a U g mk q => by obtain ⟨q0, q1, qP, qK, qD⟩ := q; exact ⟨q0, q1, qP, va_K.moved (u := U) (U := U.calling g mk a) (Vm.Alike.refl U.vm) qK, qD⟩, va_recv hK hP (ci := 0) (q0 := 0) rfl rfl, fun U hU hW => ⟨rfl, by rw [hU], by rw [hU]; exact hPc, va_K.moved hW.alike hK, hDc⟩⟩ rfl rfl hl.1 rfl (lv_room (Nat.le_of_ble_eq_true rfl)) d_O_curve_2 ⟨Nat.le_of_ble_eq_true rfl, Nat.le_of_ble_eq_true rfl⟩) (fun hw => ?_)
  have h := h () hw
  clear hPc hDc
  refine lv_iload_n hx hb d_O_curve_5 rfl (lv_at hl 2 rfl) ?_
  exact h.elim
def tp_O_place (n_row_firsts n_row_lengths n_row_pulls n_shape_xs n_row_handX n_shape_ys n_row_handY : Nat) (c_row_count : Int32) (f_row_firsts : Nat → Int32) (f_row_lengths : Nat → Int32) (f_row_pulls : Nat → Int32) (c_shape_count : Int32) (f_shape_xs : Nat → Int32) (f_row_handX : Nat → Int32) (f_shape_ys : Nat → Int32) (f_row_handY : Nat → Int32) (x1 : Int32) (x2 : Int32) (x3 : Int32) (E : String) : Prop :=
  (tp_O_requireCurve c_row_count x1 E) ∨ ∃ Q2 : Unit → Prop, wp_O_requireCurve c_row_count x1 Q2 ∧ ∀ (_ : Unit), Q2 () → (tp_O_requireRange x2 (0 : Int32) (8 : Int32) E) ∨ ∃ Q9 : Unit → Prop, wp_O_requireRange x2 (0 : Int32) (8 : Int32) Q9 ∧ ∀ (_ : Unit), Q9 () → (tp_O_requireRange x3 (0 : Int32) (1 : Int32) E) ∨ ∃ Q15 : Unit → Prop, wp_O_requireRange x3 (0 : Int32) (1 : Int32) Q15 ∧ ∀ (_ : Unit), Q15 () → False
set_option maxHeartbeats 4000000 in
set_option maxRecDepth 100000 in
theorem x_O_place (l : Launch) (hfl : l.stackTraces = false) (dC : Nat → ClassId) (dI : Nat → Nat → Nat) (cI cB cJ cZ : ClassId) (a_this a_row a_row_firsts a_row_lengths a_row_pulls a_shape a_shape_xs a_row_handX a_shape_ys a_row_handY a_picture a_outlines a_row_fewest a_row_takenLengths a_row_takenPulls a_shape_costs a_shape_rest a_shape_restByTwo a_shape_points a_shape_angles a_shape_turns : Nat) (sz : Nat) (n_row_firsts n_row_lengths n_row_pulls n_shape_xs n_row_handX n_shape_ys n_row_handY : Nat) (c_row_count : Int32) (f_row_firsts : Nat → Int32) (f_row_lengths : Nat → Int32) (f_row_pulls : Nat → Int32) (c_shape_count : Int32) (c_shape_cost : Int32) (f_shape_xs : Nat → Int32) (f_row_handX : Nat → Int32) (f_shape_ys : Nat → Int32) (f_row_handY : Nat → Int32) (x1 : Int32) (x2 : Int32) (x3 : Int32) (AX : Nat → Prop) (E : String) (h : tp_O_place n_row_firsts n_row_lengths n_row_pulls n_shape_xs n_row_handX n_shape_ys n_row_handY c_row_count f_row_firsts f_row_lengths f_row_pulls c_shape_count f_shape_xs f_row_handX f_shape_ys f_row_handY x1 x2 x3 E) : MetX l y_O_place w_O_place ({ frames := 8, cells := 1, slots := 6, locals := 152 }) (va_Pc [.ref a_this, .int x1, .int x2, .int x3] (fun U => U.heap.size = sz ∧ va_P (dC, dI) vwCl (cw_O_place cI a_this a_row a_row_firsts a_row_lengths a_row_pulls a_shape a_shape_xs a_row_handX a_shape_ys a_row_handY a_picture a_outlines a_row_fewest a_row_takenLengths a_row_takenPulls a_shape_costs a_shape_rest a_shape_restByTwo a_shape_points a_shape_angles a_shape_turns n_row_firsts n_row_lengths n_row_pulls n_shape_xs n_row_handX n_shape_ys n_row_handY c_row_count f_row_firsts f_row_lengths f_row_pulls c_shape_count c_shape_cost f_shape_xs f_row_handX f_shape_ys f_row_handY) U.heap ∧ va_K (dC, dI) vwCl [(cI, .int), (cB, .byte), (cJ, .long), (cZ, .boolean)] U ∧ va_D (fun _ => True) (cw_O_place cI a_this a_row a_row_firsts a_row_lengths a_row_pulls a_shape a_shape_xs a_row_handX a_shape_ys a_row_handY a_picture a_outlines a_row_fewest a_row_takenLengths a_row_takenPulls a_shape_costs a_shape_rest a_shape_restByTwo a_shape_points a_shape_angles a_shape_turns n_row_firsts n_row_lengths n_row_pulls n_shape_xs n_row_handX n_shape_ys n_row_handY c_row_count f_row_firsts f_row_lengths f_row_pulls c_shape_count c_shape_cost f_shape_xs f_row_handX f_shape_ys f_row_handY) ∧ XG AX U U.heap)) E 1 6 := by
  refine MetX.ofW (cc := b_O_place) (maxL := 4) (ret := (some .int)) (by decide +kernel) rfl ?_
  intro p e s m args below meth c s₁ B hml hv
  obtain ⟨rfl, hsz, hP, hK, hD, hG⟩ := hv
  have hx := B.exec
  have hb := B.bytes
  have hr := B.returns
  have hts : ∀ w ∈ allW, w.before _ s = true := fun w hw => atoms_spec (ws := w_O_place) B.pre w (List.mem_cons_of_mem _ hw)
  have hown : s.vm.findClass R_O = some m.cls := findClass_of_methodNamed B.named
  have hlocks := B.notSynchronized
  subst hsz
  have hts0 := atoms_spec (ws := w_O_place) B.pre
  have hnoh : ∀ x ∈ c.exceptionTable.toList, ∀ pc, covers x pc = false := fun x hxm pc => covers_of_empty (B.noHandlers (hts0 _ List.mem_cons_self)) pc x hxm
  generalize hQf : XQ below E 1 6 ([.ref a_this, .int x1, .int x2, .int x3] : List Value).toArray s = Qf
  have hl := lv_entry ([.ref a_this, .int x1, .int x2, .int x3]) (n := 4) (Nat.le_of_ble_eq_true rfl)
  rw [lg_entry_eq]
  generalize (lg_sl ([.ref a_this, .int x1, .int x2, .int x3]) ++ List.replicate (4 - (lg_sl ([.ref a_this, .int x1, .int x2, .int x3])).length) Slot.unset).toArray = ls at hl ⊢
  have hl : lv_has ls 4 [(0, .ref a_this), (1, .int x1), (2, .int x2), (3, .int x3)] := hl
  unfold tp_O_place at h
  refine lv_aload_n hx hb d_O_place_0 rfl (lv_at hl 0 rfl) ?_
  refine lv_iload_n hx hb d_O_place_1 rfl (lv_at hl 1 rfl) ?_
  rcases h with h | h
  · have hPc := hP.sub (ws' := (cw_O_requireCurve a_this a_row a_picture a_outlines a_shape a_row_fewest a_row_takenLengths a_row_takenPulls a_row_firsts a_row_lengths a_row_pulls a_row_handX a_row_handY c_row_count)) [0, 1] rfl
    have hDc := hD.sub (ws' := (cw_O_requireCurve a_this a_row a_picture a_outlines a_shape a_row_fewest a_row_takenLengths a_row_takenPulls a_row_firsts a_row_lengths a_row_pulls a_row_handX a_row_handY c_row_count)) [0, 1] (by decide) rfl
    subst hQf
    exact xLeave (xRunV (As := [.int x1]) (rest := []) ⟨hx, hb, hml, hown, hts⟩ (x_O_requireCurve l hfl dC dI cI cB cJ cZ a_this a_row a_picture a_outlines a_shape a_row_fewest a_row_takenLengths a_row_takenPulls a_row_firsts a_row_lengths a_row_pulls a_row_handX a_row_handY s.heap.size c_row_count x1 AX E h) (cwV 1 hts (goodV q_620 q_622 q_p29 q_1 q_623) rfl rfl rfl (by decide +kernel) ⟨Nat.le_of_ble_eq_true rfl, Nat.le_of_ble_eq_true rfl⟩) ⟨fun a U g mk q => by obtain ⟨q0, q1, qP, qK, qD, qG⟩ := q; exact ⟨q0, q1, qP, va_K.moved (u := U) (U := U.calling g mk a) (Vm.Alike.refl U.vm) qK, qD, qG.calling⟩, va_recv hK hP (ci := 0) (q0 := 0) rfl rfl, fun U hU hW => ⟨rfl, by rw [hU], by rw [hU]; exact hPc, va_K.moved hW.alike hK, hDc, by rw [hU]; exact hG.warm hW⟩⟩ rfl rfl hl.1 rfl (lv_room (Nat.le_of_ble_eq_true rfl)) d_O_place_2 ⟨Nat.le_of_ble_eq_true rfl, Nat.le_of_ble_eq_true rfl⟩) hlocks (fun x hxm => hnoh x hxm _)
  obtain ⟨Q2, hq2, h⟩ := h
  have hPc := hP.sub (ws' := (cw_O_requireCurve a_this a_row a_picture a_outlines a_shape a_row_fewest a_row_takenLengths a_row_takenPulls a_row_firsts a_row_lengths a_row_pulls a_row_handX a_row_handY c_row_count)) [0, 1] rfl
  have hDc := hD.sub (ws' := (cw_O_requireCurve a_this a_row a_picture a_outlines a_shape a_row_fewest a_row_takenLengths a_row_takenPulls a_row_firsts a_row_lengths a_row_pulls a_row_handX a_row_handY c_row_count)) [0, 1] (by decide) rfl
  refine ro_callv (va_runV (As := [.int x1]) (rest := []) ⟨hx, hb, hml, hown, hts⟩ (s_O_requireCurve l dC dI cI cB cJ cZ a_this a_row a_picture a_outlines a_shape a_row_fewest a_row_takenLengths a_row_takenPulls a_row_firsts a_row_lengths a_row_pulls a_row_handX a_row_handY s.heap.size c_row_count x1 Q2 hq2) (cwV 1 hts (goodV q_620 q_622 q_p29 q_1 q_623) rfl rfl rfl (by decide +kernel) ⟨Nat.le_of_ble_eq_true rfl, Nat.le_of_ble_eq_true rfl⟩) ⟨fun a U g mk q => by obtain ⟨q0, q1, qP, qK, qD⟩ := q; exact ⟨q0, q1, qP, va_K.moved (u := U) (U := U.calling g mk a) (Vm.Alike.refl U.vm) qK, qD⟩, va_recv hK hP (ci := 0) (q0 := 0) rfl rfl, fun U hU hW => ⟨rfl, by rw [hU], by rw [hU]; exact hPc, va_K.moved hW.alike hK, hDc⟩⟩ rfl rfl hl.1 rfl (lv_room (Nat.le_of_ble_eq_true rfl)) d_O_place_2 ⟨Nat.le_of_ble_eq_true rfl, Nat.le_of_ble_eq_true rfl⟩) (fun hw => ?_)
  have h := h () hw
  clear hPc hDc
  refine lv_iload_n hx hb d_O_place_5 rfl (lv_at hl 2 rfl) ?_
  refine lv_iconst (v := 0) hx hb d_O_place_6 (by decide) ?_
  refine lv_bipush (v := 8) hx hb d_O_place_7 (by decide) ?_
  rcases h with h | h
  · have hPc := hP.sub (ws' := (cw_O_requireRange)) [] rfl
    have hDc := hD.sub (ws' := (cw_O_requireRange)) [] (by decide) rfl
    subst hQf
    exact xLeave (xRunS (As := [.int x2, .int (0 : Int32), .int (8 : Int32)]) (rest := []) ⟨hx, hb, hml, hown, hts⟩ (x_O_requireRange l hfl dC dI cI cB cJ cZ s.heap.size x2 (0 : Int32) (8 : Int32) AX E h) (va_cwS 3 hts (goodS q_330 q_331 q_1 q_332) rfl rfl rfl (by decide +kernel) ⟨Nat.le_of_ble_eq_true rfl, Nat.le_of_ble_eq_true rfl⟩) ⟨fun a U g mk q => by obtain ⟨q0, q1, qP, qK, qD, qG⟩ := q; exact ⟨q0, q1, qP, va_K.moved (u := U) (U := U.calling g mk a) (Vm.Alike.refl U.vm) qK, qD, qG.calling⟩, fun U hU hW => ⟨rfl, by rw [hU], by rw [hU]; exact hPc, va_K.moved hW.alike hK, hDc, by rw [hU]; exact hG.warm hW⟩⟩ rfl rfl hl.1 rfl (lv_room (Nat.le_of_ble_eq_true rfl)) d_O_place_9 ⟨Nat.le_of_ble_eq_true rfl, Nat.le_of_ble_eq_true rfl⟩) hlocks (fun x hxm => hnoh x hxm _)
  obtain ⟨Q9, hq9, h⟩ := h
  have hPc := hP.sub (ws' := (cw_O_requireRange)) [] rfl
  have hDc := hD.sub (ws' := (cw_O_requireRange)) [] (by decide) rfl
  refine ro_callv (va_runS (As := [.int x2, .int (0 : Int32), .int (8 : Int32)]) (rest := []) ⟨hx, hb, hml, hown, hts⟩ (s_O_requireRange l dC dI cI cB cJ cZ s.heap.size x2 (0 : Int32) (8 : Int32) Q9 hq9) (va_cwS 3 hts (goodS q_330 q_331 q_1 q_332) rfl rfl rfl (by decide +kernel) ⟨Nat.le_of_ble_eq_true rfl, Nat.le_of_ble_eq_true rfl⟩) ⟨fun a U g mk q => by obtain ⟨q0, q1, qP, qK, qD⟩ := q; exact ⟨q0, q1, qP, va_K.moved (u := U) (U := U.calling g mk a) (Vm.Alike.refl U.vm) qK, qD⟩, fun U hU hW => ⟨rfl, by rw [hU], by rw [hU]; exact hPc, va_K.moved hW.alike hK, hDc⟩⟩ rfl rfl hl.1 rfl (lv_room (Nat.le_of_ble_eq_true rfl)) d_O_place_9 ⟨Nat.le_of_ble_eq_true rfl, Nat.le_of_ble_eq_true rfl⟩) (fun hw => ?_)
  have h := h () hw
  clear hPc hDc
  refine lv_iload_n hx hb d_O_place_12 rfl (lv_at hl 3 rfl) ?_
  refine lv_iconst (v := 0) hx hb d_O_place_13 (by decide) ?_
  refine lv_iconst (v := 1) hx hb d_O_place_14 (by decide) ?_
  rcases h with h | h
  · have hPc := hP.sub (ws' := (cw_O_requireRange)) [] rfl
    have hDc := hD.sub (ws' := (cw_O_requireRange)) [] (by decide) rfl
    subst hQf
    exact xLeave (xRunS (As := [.int x3, .int (0 : Int32), .int (1 : Int32)]) (rest := []) ⟨hx, hb, hml, hown, hts⟩ (x_O_requireRange l hfl dC dI cI cB cJ cZ s.heap.size x3 (0 : Int32) (1 : Int32) AX E h) (va_cwS 3 hts (goodS q_330 q_331 q_1 q_332) rfl rfl rfl (by decide +kernel) ⟨Nat.le_of_ble_eq_true rfl, Nat.le_of_ble_eq_true rfl⟩) ⟨fun a U g mk q => by obtain ⟨q0, q1, qP, qK, qD, qG⟩ := q; exact ⟨q0, q1, qP, va_K.moved (u := U) (U := U.calling g mk a) (Vm.Alike.refl U.vm) qK, qD, qG.calling⟩, fun U hU hW => ⟨rfl, by rw [hU], by rw [hU]; exact hPc, va_K.moved hW.alike hK, hDc, by rw [hU]; exact hG.warm hW⟩⟩ rfl rfl hl.1 rfl (lv_room (Nat.le_of_ble_eq_true rfl)) d_O_place_15 ⟨Nat.le_of_ble_eq_true rfl, Nat.le_of_ble_eq_true rfl⟩) hlocks (fun x hxm => hnoh x hxm _)
  obtain ⟨Q15, hq15, h⟩ := h
  have hPc := hP.sub (ws' := (cw_O_requireRange)) [] rfl
  have hDc := hD.sub (ws' := (cw_O_requireRange)) [] (by decide) rfl
  refine ro_callv (va_runS (As := [.int x3, .int (0 : Int32), .int (1 : Int32)]) (rest := []) ⟨hx, hb, hml, hown, hts⟩ (s_O_requireRange l dC dI cI cB cJ cZ s.heap.size x3 (0 : Int32) (1 : Int32) Q15 hq15) (va_cwS 3 hts (goodS q_330 q_331 q_1 q_332) rfl rfl rfl (by decide +kernel) ⟨Nat.le_of_ble_eq_true rfl, Nat.le_of_ble_eq_true rfl⟩) ⟨fun a U g mk q => by obtain ⟨q0, q1, qP, qK, qD⟩ := q; exact ⟨q0, q1, qP, va_K.moved (u := U) (U := U.calling g mk a) (Vm.Alike.refl U.vm) qK, qD⟩, fun U hU hW => ⟨rfl, by rw [hU], by rw [hU]; exact hPc, va_K.moved hW.alike hK, hDc⟩⟩ rfl rfl hl.1 rfl (lv_room (Nat.le_of_ble_eq_true rfl)) d_O_place_15 ⟨Nat.le_of_ble_eq_true rfl, Nat.le_of_ble_eq_true rfl⟩) (fun hw => ?_)
  have h := h () hw
  clear hPc hDc
  refine lv_aload_n hx hb d_O_place_18 rfl (lv_at hl 0 rfl) ?_
  refine va_get (D := (dC, dI)) (ci := 0) (v := .ref a_row) (C := R_O) (T := F_O) (N := 4) hx hb hts i_O_in hown hK hP 0 rfl rfl 3 (by decide) (hts _ q_197) (fun _ h9 => h9) rfl d_O_place_19 ?_
  refine lv_iload_n hx hb d_O_place_22 rfl (lv_at hl 1 rfl) ?_
  refine lv_iload_n hx hb d_O_place_23 rfl (lv_at hl 2 rfl) ?_
  refine lv_iload_n hx hb d_O_place_24 rfl (lv_at hl 3 rfl) ?_
  exact h.elim
def tp_O_near (n_row_firsts n_row_lengths n_row_pulls n_shape_xs n_row_handX n_shape_ys n_row_handY : Nat) (c_row_count : Int32) (f_row_firsts : Nat → Int32) (f_row_lengths : Nat → Int32) (f_row_pulls : Nat → Int32) (c_shape_count : Int32) (f_shape_xs : Nat → Int32) (f_row_handX : Nat → Int32) (f_shape_ys : Nat → Int32) (f_row_handY : Nat → Int32) (x1 : Int32) (x2 : Int32) (x3 : Int32) (E : String) : Prop :=
  (tp_O_requireCurve c_row_count x1 E) ∨ ∃ Q2 : Unit → Prop, wp_O_requireCurve c_row_count x1 Q2 ∧ ∀ (_ : Unit), Q2 () → (tp_O_requireRange x2 (0 : Int32) (8 : Int32) E) ∨ ∃ Q9 : Unit → Prop, wp_O_requireRange x2 (0 : Int32) (8 : Int32) Q9 ∧ ∀ (_ : Unit), Q9 () → (tp_O_requireRange x3 (0 : Int32) (64 : Int32) E) ∨ ∃ Q16 : Unit → Prop, wp_O_requireRange x3 (0 : Int32) (64 : Int32) Q16 ∧ ∀ (_ : Unit), Q16 () → False
set_option maxHeartbeats 4000000 in
set_option maxRecDepth 100000 in
theorem x_O_near (l : Launch) (hfl : l.stackTraces = false) (dC : Nat → ClassId) (dI : Nat → Nat → Nat) (cI cB cJ cZ : ClassId) (a_this a_row a_row_firsts a_row_lengths a_row_pulls a_shape a_shape_xs a_row_handX a_shape_ys a_row_handY a_picture a_outlines a_row_fewest a_row_takenLengths a_row_takenPulls a_shape_costs a_shape_rest a_shape_restByTwo a_shape_points a_shape_angles a_shape_turns : Nat) (sz : Nat) (n_row_firsts n_row_lengths n_row_pulls n_shape_xs n_row_handX n_shape_ys n_row_handY : Nat) (c_row_count : Int32) (f_row_firsts : Nat → Int32) (f_row_lengths : Nat → Int32) (f_row_pulls : Nat → Int32) (c_shape_count : Int32) (c_shape_cost : Int32) (f_shape_xs : Nat → Int32) (f_row_handX : Nat → Int32) (f_shape_ys : Nat → Int32) (f_row_handY : Nat → Int32) (x1 : Int32) (x2 : Int32) (x3 : Int32) (AX : Nat → Prop) (E : String) (h : tp_O_near n_row_firsts n_row_lengths n_row_pulls n_shape_xs n_row_handX n_shape_ys n_row_handY c_row_count f_row_firsts f_row_lengths f_row_pulls c_shape_count f_shape_xs f_row_handX f_shape_ys f_row_handY x1 x2 x3 E) : MetX l y_O_near w_O_near ({ frames := 8, cells := 1, slots := 6, locals := 152 }) (va_Pc [.ref a_this, .int x1, .int x2, .int x3] (fun U => U.heap.size = sz ∧ va_P (dC, dI) vwCl (cw_O_near cI a_this a_row a_row_firsts a_row_lengths a_row_pulls a_shape a_shape_xs a_row_handX a_shape_ys a_row_handY a_picture a_outlines a_row_fewest a_row_takenLengths a_row_takenPulls a_shape_costs a_shape_rest a_shape_restByTwo a_shape_points a_shape_angles a_shape_turns n_row_firsts n_row_lengths n_row_pulls n_shape_xs n_row_handX n_shape_ys n_row_handY c_row_count f_row_firsts f_row_lengths f_row_pulls c_shape_count c_shape_cost f_shape_xs f_row_handX f_shape_ys f_row_handY) U.heap ∧ va_K (dC, dI) vwCl [(cI, .int), (cB, .byte), (cJ, .long), (cZ, .boolean)] U ∧ va_D (fun _ => True) (cw_O_near cI a_this a_row a_row_firsts a_row_lengths a_row_pulls a_shape a_shape_xs a_row_handX a_shape_ys a_row_handY a_picture a_outlines a_row_fewest a_row_takenLengths a_row_takenPulls a_shape_costs a_shape_rest a_shape_restByTwo a_shape_points a_shape_angles a_shape_turns n_row_firsts n_row_lengths n_row_pulls n_shape_xs n_row_handX n_shape_ys n_row_handY c_row_count f_row_firsts f_row_lengths f_row_pulls c_shape_count c_shape_cost f_shape_xs f_row_handX f_shape_ys f_row_handY) ∧ XG AX U U.heap)) E 1 6 := by
  refine MetX.ofW (cc := b_O_near) (maxL := 4) (ret := (some .boolean)) (by decide +kernel) rfl ?_
  intro p e s m args below meth c s₁ B hml hv
  obtain ⟨rfl, hsz, hP, hK, hD, hG⟩ := hv
  have hx := B.exec
  have hb := B.bytes
  have hr := B.returns
  have hts : ∀ w ∈ allW, w.before _ s = true := fun w hw => atoms_spec (ws := w_O_near) B.pre w (List.mem_cons_of_mem _ hw)
  have hown : s.vm.findClass R_O = some m.cls := findClass_of_methodNamed B.named
  have hlocks := B.notSynchronized
  subst hsz
  have hts0 := atoms_spec (ws := w_O_near) B.pre
  have hnoh : ∀ x ∈ c.exceptionTable.toList, ∀ pc, covers x pc = false := fun x hxm pc => covers_of_empty (B.noHandlers (hts0 _ List.mem_cons_self)) pc x hxm
  generalize hQf : XQ below E 1 6 ([.ref a_this, .int x1, .int x2, .int x3] : List Value).toArray s = Qf
  have hl := lv_entry ([.ref a_this, .int x1, .int x2, .int x3]) (n := 4) (Nat.le_of_ble_eq_true rfl)
  rw [lg_entry_eq]
  generalize (lg_sl ([.ref a_this, .int x1, .int x2, .int x3]) ++ List.replicate (4 - (lg_sl ([.ref a_this, .int x1, .int x2, .int x3])).length) Slot.unset).toArray = ls at hl ⊢
  have hl : lv_has ls 4 [(0, .ref a_this), (1, .int x1), (2, .int x2), (3, .int x3)] := hl
  unfold tp_O_near at h
  refine lv_aload_n hx hb d_O_near_0 rfl (lv_at hl 0 rfl) ?_
  refine lv_iload_n hx hb d_O_near_1 rfl (lv_at hl 1 rfl) ?_
  rcases h with h | h
  · have hPc := hP.sub (ws' := (cw_O_requireCurve a_this a_row a_picture a_outlines a_shape a_row_fewest a_row_takenLengths a_row_takenPulls a_row_firsts a_row_lengths a_row_pulls a_row_handX a_row_handY c_row_count)) [0, 1] rfl
    have hDc := hD.sub (ws' := (cw_O_requireCurve a_this a_row a_picture a_outlines a_shape a_row_fewest a_row_takenLengths a_row_takenPulls a_row_firsts a_row_lengths a_row_pulls a_row_handX a_row_handY c_row_count)) [0, 1] (by decide) rfl
    subst hQf
    exact xLeave (xRunV (As := [.int x1]) (rest := []) ⟨hx, hb, hml, hown, hts⟩ (x_O_requireCurve l hfl dC dI cI cB cJ cZ a_this a_row a_picture a_outlines a_shape a_row_fewest a_row_takenLengths a_row_takenPulls a_row_firsts a_row_lengths a_row_pulls a_row_handX a_row_handY s.heap.size c_row_count x1 AX E h) (cwV 1 hts (goodV q_620 q_622 q_p29 q_1 q_623) rfl rfl rfl (by decide +kernel) ⟨Nat.le_of_ble_eq_true rfl, Nat.le_of_ble_eq_true rfl⟩) ⟨fun a U g mk q => by obtain ⟨q0, q1, qP, qK, qD, qG⟩ := q; exact ⟨q0, q1, qP, va_K.moved (u := U) (U := U.calling g mk a) (Vm.Alike.refl U.vm) qK, qD, qG.calling⟩, va_recv hK hP (ci := 0) (q0 := 0) rfl rfl, fun U hU hW => ⟨rfl, by rw [hU], by rw [hU]; exact hPc, va_K.moved hW.alike hK, hDc, by rw [hU]; exact hG.warm hW⟩⟩ rfl rfl hl.1 rfl (lv_room (Nat.le_of_ble_eq_true rfl)) d_O_near_2 ⟨Nat.le_of_ble_eq_true rfl, Nat.le_of_ble_eq_true rfl⟩) hlocks (fun x hxm => hnoh x hxm _)
  obtain ⟨Q2, hq2, h⟩ := h
  have hPc := hP.sub (ws' := (cw_O_requireCurve a_this a_row a_picture a_outlines a_shape a_row_fewest a_row_takenLengths a_row_takenPulls a_row_firsts a_row_lengths a_row_pulls a_row_handX a_row_handY c_row_count)) [0, 1] rfl
  have hDc := hD.sub (ws' := (cw_O_requireCurve a_this a_row a_picture a_outlines a_shape a_row_fewest a_row_takenLengths a_row_takenPulls a_row_firsts a_row_lengths a_row_pulls a_row_handX a_row_handY c_row_count)) [0, 1] (by decide) rfl
  refine ro_callv (va_runV (As := [.int x1]) (rest := []) ⟨hx, hb, hml, hown, hts⟩ (s_O_requireCurve l dC dI cI cB cJ cZ a_this a_row a_picture a_outlines a_shape a_row_fewest a_row_takenLengths a_row_takenPulls a_row_firsts a_row_lengths a_row_pulls a_row_handX a_row_handY s.heap.size c_row_count x1 Q2 hq2) (cwV 1 hts (goodV q_620 q_622 q_p29 q_1 q_623) rfl rfl rfl (by decide +kernel) ⟨Nat.le_of_ble_eq_true rfl, Nat.le_of_ble_eq_true rfl⟩) ⟨fun a U g mk q => by obtain ⟨q0, q1, qP, qK, qD⟩ := q; exact ⟨q0, q1, qP, va_K.moved (u := U) (U := U.calling g mk a) (Vm.Alike.refl U.vm) qK, qD⟩, va_recv hK hP (ci := 0) (q0 := 0) rfl rfl, fun U hU hW => ⟨rfl, by rw [hU], by rw [hU]; exact hPc, va_K.moved hW.alike hK, hDc⟩⟩ rfl rfl hl.1 rfl (lv_room (Nat.le_of_ble_eq_true rfl)) d_O_near_2 ⟨Nat.le_of_ble_eq_true rfl, Nat.le_of_ble_eq_true rfl⟩) (fun hw => ?_)
  have h := h () hw
  clear hPc hDc
  refine lv_iload_n hx hb d_O_near_5 rfl (lv_at hl 2 rfl) ?_
  refine lv_iconst (v := 0) hx hb d_O_near_6 (by decide) ?_
  refine lv_bipush (v := 8) hx hb d_O_near_7 (by decide) ?_
  rcases h with h | h
  · have hPc := hP.sub (ws' := (cw_O_requireRange)) [] rfl
    have hDc := hD.sub (ws' := (cw_O_requireRange)) [] (by decide) rfl
    subst hQf
    exact xLeave (xRunS (As := [.int x2, .int (0 : Int32), .int (8 : Int32)]) (rest := []) ⟨hx, hb, hml, hown, hts⟩ (x_O_requireRange l hfl dC dI cI cB cJ cZ s.heap.size x2 (0 : Int32) (8 : Int32) AX E h) (va_cwS 3 hts (goodS q_330 q_331 q_1 q_332) rfl rfl rfl (by decide +kernel) ⟨Nat.le_of_ble_eq_true rfl, Nat.le_of_ble_eq_true rfl⟩) ⟨fun a U g mk q => by obtain ⟨q0, q1, qP, qK, qD, qG⟩ := q; exact ⟨q0, q1, qP, va_K.moved (u := U) (U := U.calling g mk a) (Vm.Alike.refl U.vm) qK, qD, qG.calling⟩, fun U hU hW => ⟨rfl, by rw [hU], by rw [hU]; exact hPc, va_K.moved hW.alike hK, hDc, by rw [hU]; exact hG.warm hW⟩⟩ rfl rfl hl.1 rfl (lv_room (Nat.le_of_ble_eq_true rfl)) d_O_near_9 ⟨Nat.le_of_ble_eq_true rfl, Nat.le_of_ble_eq_true rfl⟩) hlocks (fun x hxm => hnoh x hxm _)
  obtain ⟨Q9, hq9, h⟩ := h
  have hPc := hP.sub (ws' := (cw_O_requireRange)) [] rfl
  have hDc := hD.sub (ws' := (cw_O_requireRange)) [] (by decide) rfl
  refine ro_callv (va_runS (As := [.int x2, .int (0 : Int32), .int (8 : Int32)]) (rest := []) ⟨hx, hb, hml, hown, hts⟩ (s_O_requireRange l dC dI cI cB cJ cZ s.heap.size x2 (0 : Int32) (8 : Int32) Q9 hq9) (va_cwS 3 hts (goodS q_330 q_331 q_1 q_332) rfl rfl rfl (by decide +kernel) ⟨Nat.le_of_ble_eq_true rfl, Nat.le_of_ble_eq_true rfl⟩) ⟨fun a U g mk q => by obtain ⟨q0, q1, qP, qK, qD⟩ := q; exact ⟨q0, q1, qP, va_K.moved (u := U) (U := U.calling g mk a) (Vm.Alike.refl U.vm) qK, qD⟩, fun U hU hW => ⟨rfl, by rw [hU], by rw [hU]; exact hPc, va_K.moved hW.alike hK, hDc⟩⟩ rfl rfl hl.1 rfl (lv_room (Nat.le_of_ble_eq_true rfl)) d_O_near_9 ⟨Nat.le_of_ble_eq_true rfl, Nat.le_of_ble_eq_true rfl⟩) (fun hw => ?_)
  have h := h () hw
  clear hPc hDc
  refine lv_iload_n hx hb d_O_near_12 rfl (lv_at hl 3 rfl) ?_
  refine lv_iconst (v := 0) hx hb d_O_near_13 (by decide) ?_
  refine lv_bipush (v := 64) hx hb d_O_near_14 (by decide) ?_
  rcases h with h | h
  · have hPc := hP.sub (ws' := (cw_O_requireRange)) [] rfl
    have hDc := hD.sub (ws' := (cw_O_requireRange)) [] (by decide) rfl
    subst hQf
    exact xLeave (xRunS (As := [.int x3, .int (0 : Int32), .int (64 : Int32)]) (rest := []) ⟨hx, hb, hml, hown, hts⟩ (x_O_requireRange l hfl dC dI cI cB cJ cZ s.heap.size x3 (0 : Int32) (64 : Int32) AX E h) (va_cwS 3 hts (goodS q_330 q_331 q_1 q_332) rfl rfl rfl (by decide +kernel) ⟨Nat.le_of_ble_eq_true rfl, Nat.le_of_ble_eq_true rfl⟩) ⟨fun a U g mk q => by obtain ⟨q0, q1, qP, qK, qD, qG⟩ := q; exact ⟨q0, q1, qP, va_K.moved (u := U) (U := U.calling g mk a) (Vm.Alike.refl U.vm) qK, qD, qG.calling⟩, fun U hU hW => ⟨rfl, by rw [hU], by rw [hU]; exact hPc, va_K.moved hW.alike hK, hDc, by rw [hU]; exact hG.warm hW⟩⟩ rfl rfl hl.1 rfl (lv_room (Nat.le_of_ble_eq_true rfl)) d_O_near_16 ⟨Nat.le_of_ble_eq_true rfl, Nat.le_of_ble_eq_true rfl⟩) hlocks (fun x hxm => hnoh x hxm _)
  obtain ⟨Q16, hq16, h⟩ := h
  have hPc := hP.sub (ws' := (cw_O_requireRange)) [] rfl
  have hDc := hD.sub (ws' := (cw_O_requireRange)) [] (by decide) rfl
  refine ro_callv (va_runS (As := [.int x3, .int (0 : Int32), .int (64 : Int32)]) (rest := []) ⟨hx, hb, hml, hown, hts⟩ (s_O_requireRange l dC dI cI cB cJ cZ s.heap.size x3 (0 : Int32) (64 : Int32) Q16 hq16) (va_cwS 3 hts (goodS q_330 q_331 q_1 q_332) rfl rfl rfl (by decide +kernel) ⟨Nat.le_of_ble_eq_true rfl, Nat.le_of_ble_eq_true rfl⟩) ⟨fun a U g mk q => by obtain ⟨q0, q1, qP, qK, qD⟩ := q; exact ⟨q0, q1, qP, va_K.moved (u := U) (U := U.calling g mk a) (Vm.Alike.refl U.vm) qK, qD⟩, fun U hU hW => ⟨rfl, by rw [hU], by rw [hU]; exact hPc, va_K.moved hW.alike hK, hDc⟩⟩ rfl rfl hl.1 rfl (lv_room (Nat.le_of_ble_eq_true rfl)) d_O_near_16 ⟨Nat.le_of_ble_eq_true rfl, Nat.le_of_ble_eq_true rfl⟩) (fun hw => ?_)
  have h := h () hw
  clear hPc hDc
  refine lv_aload_n hx hb d_O_near_19 rfl (lv_at hl 0 rfl) ?_
  refine va_get (D := (dC, dI)) (ci := 0) (v := .ref a_row) (C := R_O) (T := F_O) (N := 4) hx hb hts i_O_in hown hK hP 0 rfl rfl 3 (by decide) (hts _ q_197) (fun _ h9 => h9) rfl d_O_near_20 ?_
  refine lv_iload_n hx hb d_O_near_23 rfl (lv_at hl 1 rfl) ?_
  refine lv_iload_n hx hb d_O_near_24 rfl (lv_at hl 2 rfl) ?_
  refine lv_iload_n hx hb d_O_near_25 rfl (lv_at hl 3 rfl) ?_
  exact h.elim
