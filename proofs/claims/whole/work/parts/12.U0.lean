def wp_U_forget (c_count : Int32) (c_traced : Int32) (post : (Int32 × Int32) → Prop) : Prop :=
  post ((0 : Int32), (0 : Int32))
abbrev cw_U_forget (a_this a_picture a_xs a_ys a_begins a_layers a_areas a_walked : Nat) (c_count : Int32) (c_traced : Int32) : va_W := [(a_this, .inr (2, [.ref a_picture, .ref a_xs, .ref a_ys, .ref a_begins, .ref a_layers, .ref a_areas, .ref a_walked, .int c_count, .int c_traced]))]
abbrev qq_U_forget (dC : Nat → ClassId) (dI : Nat → Nat → Nat) (cI cB cJ cZ : ClassId) (a_this a_picture a_xs a_ys a_begins a_layers a_areas a_walked : Nat) (A : Nat → Prop) (post : (Int32 × Int32) → Prop) : Array Value → State → Outcome → State → Prop := va_Qv post (fun u t => va_P (dC, dI) vwCl (cw_U_forget a_this a_picture a_xs a_ys a_begins a_layers a_areas a_walked u.1 u.2) t.heap ∧ va_K (dC, dI) vwCl [(cI, .int), (cB, .byte), (cJ, .long), (cZ, .boolean)] t ∧ va_D A (cw_U_forget a_this a_picture a_xs a_ys a_begins a_layers a_areas a_walked u.1 u.2)) A
set_option maxHeartbeats 4000000 in
set_option maxRecDepth 100000 in
theorem c_U_forget (l : Launch) (dC : Nat → ClassId) (dI : Nat → Nat → Nat) (cI cB cJ cZ : ClassId) (a_this a_picture a_xs a_ys a_begins a_layers a_areas a_walked : Nat) (sz : Nat) (c_count : Int32) (c_traced : Int32) (post : (Int32 × Int32) → Prop) (h : wp_U_forget c_count c_traced post) : Met l y_U_forget w_U_forget ({ frames := 0, cells := 0, slots := 0, locals := 0 }) (va_Pc [.ref a_this] (fun U => U.heap.size = sz ∧ va_P (dC, dI) vwCl (cw_U_forget a_this a_picture a_xs a_ys a_begins a_layers a_areas a_walked c_count c_traced) U.heap ∧ va_K (dC, dI) vwCl [(cI, .int), (cB, .byte), (cJ, .long), (cZ, .boolean)] U ∧ va_D (fun _ => True) (cw_U_forget a_this a_picture a_xs a_ys a_begins a_layers a_areas a_walked c_count c_traced))) (qq_U_forget dC dI cI cB cJ cZ a_this a_picture a_xs a_ys a_begins a_layers a_areas a_walked (va_A (cw_U_forget a_this a_picture a_xs a_ys a_begins a_layers a_areas a_walked c_count c_traced) sz) post) 0 0 (va_A (cw_U_forget a_this a_picture a_xs a_ys a_begins a_layers a_areas a_walked c_count c_traced) sz) := by
  refine Met.ofW (cc := b_U_forget) (maxL := 1) (ret := none) (by decide +kernel) rfl ?_
  intro p e s m args below meth c s₁ B hml hv
  obtain ⟨rfl, hsz, hP, hK, hD0⟩ := hv
  have hx := B.exec
  have hb := B.bytes
  have hr := B.returns
  have hts : ∀ w ∈ allW, w.before _ s = true := fun w hw => atoms_spec (ws := w_U_forget) B.pre w (List.mem_cons_of_mem _ hw)
  have hown : s.vm.findClass R_U = some m.cls := findClass_of_methodNamed B.named
  have hlocks := B.notSynchronized
  subst hsz
  have hD := hD0.self (sz := s.heap.size)
  generalize hAe : va_A (cw_U_forget a_this a_picture a_xs a_ys a_begins a_layers a_areas a_walked c_count c_traced) s.heap.size = A at hD ⊢
  have hA : ∀ q : Nat, s.heap.size ≤ q → A q := fun q h => by rw [← hAe]; exact Or.inr h
  have hS : va_S A s.heap s.heap [] := va_S.rf
  clear hD0
  generalize hQf : MQ below (qq_U_forget dC dI cI cB cJ cZ a_this a_picture a_xs a_ys a_begins a_layers a_areas a_walked A post) ([.ref a_this] : List Value).toArray s 0 0 A = Qf
  have hl := lv_entry ([.ref a_this]) (n := 1) (Nat.le_of_ble_eq_true rfl)
  rw [lg_entry_eq]
  generalize (lg_sl ([.ref a_this]) ++ List.replicate (1 - (lg_sl ([.ref a_this])).length) Slot.unset).toArray = ls at hl ⊢
  have hl : lv_has ls 1 [(0, .ref a_this)] := hl
  unfold wp_U_forget at h
  refine lv_aload_n hx hb d_U_forget_0 rfl (lv_at hl 0 rfl) ?_
  refine lv_iconst (v := 0) hx hb d_U_forget_1 (by decide) ?_
  refine va_put (D := (dC, dI)) (ci := 2) (v := .int (0 : Int32)) (ty := .boolean) (C := R_U) (T := F_U) (N := 9) hx hb hts i_U_in t_U t_U_ok n_U_ne hown hK hP hD hS 0 rfl rfl 8 (by decide) (hts _ q_78) (fun _ h9 => h9) rfl (by decide +kernel) (by rfl) (by rfl) (Nat.le_of_ble_eq_true rfl) d_U_forget_2 (fun H locs hP hD hS => ?_)
  have hP : va_P (dC, dI) vwCl (cw_U_forget a_this a_picture a_xs a_ys a_begins a_layers a_areas a_walked c_count (0 : Int32)) H := hP
  have hD : va_D A (cw_U_forget a_this a_picture a_xs a_ys a_begins a_layers a_areas a_walked c_count (0 : Int32)) := hD
  refine lv_aload_n hx hb d_U_forget_5 rfl (lv_at hl 0 rfl) ?_
  refine lv_iconst (v := 0) hx hb d_U_forget_6 (by decide) ?_
  refine va_put (D := (dC, dI)) (ci := 2) (v := .int (0 : Int32)) (ty := .int) (C := R_U) (T := F_U) (N := 9) hx hb hts i_U_in t_U t_U_ok n_U_ne hown hK hP hD hS 0 rfl rfl 7 (by decide) (hts _ q_76) (fun _ h9 => h9) rfl (by decide +kernel) (by rfl) (by rfl) (Nat.le_of_ble_eq_true rfl) d_U_forget_7 (fun H locs hP hD hS => ?_)
  have hP : va_P (dC, dI) vwCl (cw_U_forget a_this a_picture a_xs a_ys a_begins a_layers a_areas a_walked (0 : Int32) (0 : Int32)) H := hP
  have hD : va_D A (cw_U_forget a_this a_picture a_xs a_ys a_begins a_layers a_areas a_walked (0 : Int32) (0 : Int32)) := hD
  subst hQf
  exact W.vret hx hb hr (fun t ht hW => ⟨⟨((0 : Int32), (0 : Int32)), rfl, h, by rw [ht]; exact hP, va_K.moved hW.alike hK, hD⟩, hS.F ht⟩) hS.2.2 d_U_forget_10
def wp_U_beginsOutline_J51 (n_picture_colours n_walked : Nat) (c_picture_width : Int32) (c_picture_height : Int32) (f_picture_colours : Nat → Int32) (f_walked : Nat → Int32) (post : Int32 → Unit → Prop) : Prop :=
  post (0 : Int32) ()
def wp_U_beginsOutline (n_picture_colours n_walked : Nat) (c_picture_width : Int32) (c_picture_height : Int32) (f_picture_colours : Nat → Int32) (f_walked : Nat → Int32) (x1 : Int32) (x2 : Int32) (x3 : Int32) (post : Int32 → Unit → Prop) : Prop :=
  ∃ Q7 : Int32 → Unit → Prop, wp_P_isInside n_picture_colours c_picture_width c_picture_height f_picture_colours x1 x2 x3 Q7 ∧ ∀ (r7 : Int32), Q7 r7 () → (r7 = 0 → wp_U_beginsOutline_J51 n_picture_colours n_walked c_picture_width c_picture_height f_picture_colours f_walked post) ∧ (¬ r7 = 0 → ∃ Q22 : Int32 → Unit → Prop, wp_P_isInside n_picture_colours c_picture_width c_picture_height f_picture_colours x1 (x2 - (1 : Int32)) x3 Q22 ∧ ∀ (r22 : Int32), Q22 r22 () → (¬ r22 = 0 → wp_U_beginsOutline_J51 n_picture_colours n_walked c_picture_width c_picture_height f_picture_colours f_walked post) ∧ (r22 = 0 → vp_in ((x2 * c_picture_width) + x1) n_walked ∧ (¬ (f_walked ((x2 * c_picture_width) + x1).toNatClampNeg) = 0 → wp_U_beginsOutline_J51 n_picture_colours n_walked c_picture_width c_picture_height f_picture_colours f_walked post) ∧ ((f_walked ((x2 * c_picture_width) + x1).toNatClampNeg) = 0 → post (1 : Int32) ())))
abbrev cw_U_beginsOutline (cB : ClassId) (a_this a_picture a_picture_colours a_walked a_xs a_ys a_begins a_layers a_areas : Nat) (n_picture_colours n_walked : Nat) (c_count : Int32) (c_traced : Int32) (c_picture_width : Int32) (c_picture_height : Int32) (f_picture_colours : Nat → Int32) (f_walked : Nat → Int32) : va_W := [(a_this, .inr (2, [.ref a_picture, .ref a_xs, .ref a_ys, .ref a_begins, .ref a_layers, .ref a_areas, .ref a_walked, .int c_count, .int c_traced])), (a_picture, .inr (1, [.int c_picture_width, .int c_picture_height, .ref a_picture_colours])), (a_picture_colours, .inl (cB, n_picture_colours, .inl f_picture_colours)), (a_walked, .inl (cB, n_walked, .inl f_walked))]
abbrev qq_U_beginsOutline (dC : Nat → ClassId) (dI : Nat → Nat → Nat) (cI cB cJ cZ : ClassId) (a_this a_picture a_picture_colours a_walked a_xs a_ys a_begins a_layers a_areas : Nat) (n_picture_colours n_walked : Nat) (c_count : Int32) (c_traced : Int32) (c_picture_width : Int32) (c_picture_height : Int32) (f_picture_colours : Nat → Int32) (f_walked : Nat → Int32) (A : Nat → Prop) (post : Int32 → Unit → Prop) : Array Value → State → Outcome → State → Prop := va_Qi post (fun _ t => va_P (dC, dI) vwCl (cw_U_beginsOutline cB a_this a_picture a_picture_colours a_walked a_xs a_ys a_begins a_layers a_areas n_picture_colours n_walked c_count c_traced c_picture_width c_picture_height f_picture_colours f_walked) t.heap ∧ va_K (dC, dI) vwCl [(cI, .int), (cB, .byte), (cJ, .long), (cZ, .boolean)] t ∧ va_D A (cw_U_beginsOutline cB a_this a_picture a_picture_colours a_walked a_xs a_ys a_begins a_layers a_areas n_picture_colours n_walked c_count c_traced c_picture_width c_picture_height f_picture_colours f_walked)) A
set_option maxHeartbeats 4000000 in
set_option maxRecDepth 100000 in
theorem c_U_beginsOutline (l : Launch) (dC : Nat → ClassId) (dI : Nat → Nat → Nat) (cI cB cJ cZ : ClassId) (a_this a_picture a_picture_colours a_walked a_xs a_ys a_begins a_layers a_areas : Nat) (sz : Nat) (n_picture_colours n_walked : Nat) (c_count : Int32) (c_traced : Int32) (c_picture_width : Int32) (c_picture_height : Int32) (f_picture_colours : Nat → Int32) (f_walked : Nat → Int32) (x1 : Int32) (x2 : Int32) (x3 : Int32) (post : Int32 → Unit → Prop) (h : wp_U_beginsOutline n_picture_colours n_walked c_picture_width c_picture_height f_picture_colours f_walked x1 x2 x3 post) : Met l y_U_beginsOutline w_U_beginsOutline ({ frames := 2, cells := 0, slots := 0, locals := 45 }) (va_Pc [.ref a_this, .int x1, .int x2, .int x3] (fun U => U.heap.size = sz ∧ va_P (dC, dI) vwCl (cw_U_beginsOutline cB a_this a_picture a_picture_colours a_walked a_xs a_ys a_begins a_layers a_areas n_picture_colours n_walked c_count c_traced c_picture_width c_picture_height f_picture_colours f_walked) U.heap ∧ va_K (dC, dI) vwCl [(cI, .int), (cB, .byte), (cJ, .long), (cZ, .boolean)] U ∧ va_D (fun _ => True) (cw_U_beginsOutline cB a_this a_picture a_picture_colours a_walked a_xs a_ys a_begins a_layers a_areas n_picture_colours n_walked c_count c_traced c_picture_width c_picture_height f_picture_colours f_walked))) (qq_U_beginsOutline dC dI cI cB cJ cZ a_this a_picture a_picture_colours a_walked a_xs a_ys a_begins a_layers a_areas n_picture_colours n_walked c_count c_traced c_picture_width c_picture_height f_picture_colours f_walked (va_A (cw_U_beginsOutline cB a_this a_picture a_picture_colours a_walked a_xs a_ys a_begins a_layers a_areas n_picture_colours n_walked c_count c_traced c_picture_width c_picture_height f_picture_colours f_walked) sz) post) 0 0 (va_A (cw_U_beginsOutline cB a_this a_picture a_picture_colours a_walked a_xs a_ys a_begins a_layers a_areas n_picture_colours n_walked c_count c_traced c_picture_width c_picture_height f_picture_colours f_walked) sz) := by
  refine Met.ofW (cc := b_U_beginsOutline) (maxL := 4) (ret := (some .boolean)) (by decide +kernel) rfl ?_
  intro p e s m args below meth c s₁ B hml hv
  obtain ⟨rfl, hsz, hP, hK, hD0⟩ := hv
  have hx := B.exec
  have hb := B.bytes
  have hr := B.returns
  have hts : ∀ w ∈ allW, w.before _ s = true := fun w hw => atoms_spec (ws := w_U_beginsOutline) B.pre w (List.mem_cons_of_mem _ hw)
  have hown : s.vm.findClass R_U = some m.cls := findClass_of_methodNamed B.named
  have hlocks := B.notSynchronized
  subst hsz
  have hD := hD0.self (sz := s.heap.size)
  generalize hAe : va_A (cw_U_beginsOutline cB a_this a_picture a_picture_colours a_walked a_xs a_ys a_begins a_layers a_areas n_picture_colours n_walked c_count c_traced c_picture_width c_picture_height f_picture_colours f_walked) s.heap.size = A at hD ⊢
  have hA : ∀ q : Nat, s.heap.size ≤ q → A q := fun q h => by rw [← hAe]; exact Or.inr h
  have hS : va_S A s.heap s.heap [] := va_S.rf
  clear hD0
  generalize hQf : MQ below (qq_U_beginsOutline dC dI cI cB cJ cZ a_this a_picture a_picture_colours a_walked a_xs a_ys a_begins a_layers a_areas n_picture_colours n_walked c_count c_traced c_picture_width c_picture_height f_picture_colours f_walked A post) ([.ref a_this, .int x1, .int x2, .int x3] : List Value).toArray s 0 0 A = Qf
  have hl := lv_entry ([.ref a_this, .int x1, .int x2, .int x3]) (n := 4) (Nat.le_of_ble_eq_true rfl)
  rw [lg_entry_eq]
  generalize (lg_sl ([.ref a_this, .int x1, .int x2, .int x3]) ++ List.replicate (4 - (lg_sl ([.ref a_this, .int x1, .int x2, .int x3])).length) Slot.unset).toArray = ls at hl ⊢
  have hl : lv_has ls 4 [(0, .ref a_this), (1, .int x1), (2, .int x2), (3, .int x3)] := hl
  unfold wp_U_beginsOutline at h
  have J51 : ∀ (H : Heap) (locs : List Loc) (ls : Array Slot), wp_U_beginsOutline_J51 n_picture_colours n_walked c_picture_width c_picture_height f_picture_colours f_walked post → va_P (dC, dI) vwCl (cw_U_beginsOutline cB a_this a_picture a_picture_colours a_walked a_xs a_ys a_begins a_layers a_areas n_picture_colours n_walked c_count c_traced c_picture_width c_picture_height f_picture_colours f_walked) H → va_D A (cw_U_beginsOutline cB a_this a_picture a_picture_colours a_walked a_xs a_ys a_begins a_layers a_areas n_picture_colours n_walked c_count c_traced c_picture_width c_picture_height f_picture_colours f_walked) → va_S A s.heap H locs → lv_has ls 4 [] → W p l e (headSpec w_U_beginsOutline ({ frames := 2, cells := 0, slots := 0, locals := 45 })).room s m ([.ref a_this, .int x1, .int x2, .int x3] : List Value).toArray below meth c H locs 0 0 Qf (F0 m 51 ls []) := by
    intro H locs ls h hP hD hS hl
    unfold wp_U_beginsOutline_J51 at h
    refine lv_iconst (v := 0) hx hb d_U_beginsOutline_51 (by decide) ?_
    subst hQf
    exact W.zret (v := (0 : Int32)) hx hb hr (by rfl) (fun t ht hW => ⟨⟨(0 : Int32), (), rfl, h, by rw [ht]; exact hP, va_K.moved hW.alike hK, hD⟩, hS.F ht⟩) hS.2.2 d_U_beginsOutline_52
  refine lv_aload_n hx hb d_U_beginsOutline_0 rfl (lv_at hl 0 rfl) ?_
  refine va_get (D := (dC, dI)) (ci := 2) (v := .ref a_picture) (C := R_U) (T := F_U) (N := 9) hx hb hts i_U_in hown hK hP 0 rfl rfl 0 (by decide) (hts _ q_61) (fun _ h9 => h9) rfl d_U_beginsOutline_1 ?_
  refine lv_iload_n hx hb d_U_beginsOutline_4 rfl (lv_at hl 1 rfl) ?_
  refine lv_iload_n hx hb d_U_beginsOutline_5 rfl (lv_at hl 2 rfl) ?_
  refine lv_iload_n hx hb d_U_beginsOutline_6 rfl (lv_at hl 3 rfl) ?_
  obtain ⟨Q7, hq7, h⟩ := h
  have hPc := hP.sub (ws' := (cw_P_isInside cB a_picture a_picture_colours n_picture_colours c_picture_width c_picture_height f_picture_colours)) [1, 2] rfl
  have hDc := hD.sub (ws' := (cw_P_isInside cB a_picture a_picture_colours n_picture_colours c_picture_width c_picture_height f_picture_colours)) [1, 2] (by decide) rfl
  have hFc := va_free (wc := (cw_P_isInside cB a_picture a_picture_colours n_picture_colours c_picture_width c_picture_height f_picture_colours)) hD hS hA [1, 2] rfl
  refine va_calli (va_runV (As := [.int x1, .int x2, .int x3]) (rest := []) ⟨hx, hb, hml, hown, hts⟩ (c_P_isInside l dC dI cI cB cJ cZ a_picture a_picture_colours s.heap.size n_picture_colours c_picture_width c_picture_height f_picture_colours x1 x2 x3 Q7 hq7) (cwV 3 hts (goodV q_369 q_370 q_371 q_2 q_372) rfl rfl rfl (by decide +kernel) ⟨Nat.le_of_ble_eq_true rfl, Nat.le_of_ble_eq_true rfl⟩) ⟨fun a U g mk q => by obtain ⟨q0, q1, qP, qK, qD⟩ := q; exact ⟨q0, q1, qP, va_K.moved (u := U) (U := U.calling g mk a) (Vm.Alike.refl U.vm) qK, qD⟩, va_recv hK hPc (ci := 1) (q0 := 0) rfl rfl, fun U hU hW => ⟨rfl, by rw [hU], by rw [hU]; exact hPc, va_K.moved hW.alike hK, hDc.weaken (fun _ _ _ _ => trivial)⟩⟩ rfl rfl hl.1 rfl (lv_room (Nat.le_of_ble_eq_true rfl)) d_U_beginsOutline_7 ⟨Nat.le_of_ble_eq_true rfl, Nat.le_of_ble_eq_true rfl⟩) hS (fun q _ h => hFc q h) hFc (fun r7 u7 t H1 locs ht hvm hw hB hz1 hk1 hS => ?_)
  cases u7
  obtain ⟨hP1, -, hD1⟩ := hB
  rw [ht] at hP1
  have h := h r7 hw
  obtain ⟨hP, hD⟩ := va_join (wr := [(a_this, .inr (2, [.ref a_picture, .ref a_xs, .ref a_ys, .ref a_begins, .ref a_layers, .ref a_areas, .ref a_walked, .int c_count, .int c_traced])), (a_walked, .inl (cB, n_walked, .inl f_walked))]) (w1 := (cw_P_isInside cB a_picture a_picture_colours n_picture_colours c_picture_width c_picture_height f_picture_colours)) hP hD [1, 2] [0, 3] rfl rfl (by decide) (by decide) hk1 hFc hP1 hD1
  clear hP1 hD1 hk1 hPc hDc hFc
  generalize H1 = H at hP hS ⊢
  have hP : va_P (dC, dI) vwCl (cw_U_beginsOutline cB a_this a_picture a_picture_colours a_walked a_xs a_ys a_begins a_layers a_areas n_picture_colours n_walked c_count c_traced c_picture_width c_picture_height f_picture_colours f_walked) H := hP.sub [0, 2, 3, 1] rfl
  have hD : va_D A (cw_U_beginsOutline cB a_this a_picture a_picture_colours a_walked a_xs a_ys a_begins a_layers a_areas n_picture_colours n_walked c_count c_traced c_picture_width c_picture_height f_picture_colours f_walked) := hD.sub [0, 2, 3, 1] (by decide) rfl
  refine lv_if_eq (tgt := 51) hx hb d_U_beginsOutline_10 (by decide) (fun cc_ => ?_) (fun cc_ => ?_)
  · have h := h.1 cc_
    exact J51 _ _ _ h hP hD hS (lv_sub hl [] rfl)
  · have h := h.2 cc_
    refine lv_aload_n hx hb d_U_beginsOutline_13 rfl (lv_at hl 0 rfl) ?_
    refine va_get (D := (dC, dI)) (ci := 2) (v := .ref a_picture) (C := R_U) (T := F_U) (N := 9) hx hb hts i_U_in hown hK hP 0 rfl rfl 0 (by decide) (hts _ q_61) (fun _ h9 => h9) rfl d_U_beginsOutline_14 ?_
    refine lv_iload_n hx hb d_U_beginsOutline_17 rfl (lv_at hl 1 rfl) ?_
    refine lv_iload_n hx hb d_U_beginsOutline_18 rfl (lv_at hl 2 rfl) ?_
    refine lv_iconst (v := 1) hx hb d_U_beginsOutline_19 (by decide) ?_
    refine lv_isub hx hb d_U_beginsOutline_20 ?_
    refine lv_iload_n hx hb d_U_beginsOutline_21 rfl (lv_at hl 3 rfl) ?_
    obtain ⟨Q22, hq22, h⟩ := h
    have hPc := hP.sub (ws' := (cw_P_isInside cB a_picture a_picture_colours n_picture_colours c_picture_width c_picture_height f_picture_colours)) [1, 2] rfl
    have hDc := hD.sub (ws' := (cw_P_isInside cB a_picture a_picture_colours n_picture_colours c_picture_width c_picture_height f_picture_colours)) [1, 2] (by decide) rfl
    have hFc := va_free (wc := (cw_P_isInside cB a_picture a_picture_colours n_picture_colours c_picture_width c_picture_height f_picture_colours)) hD hS hA [1, 2] rfl
    refine va_calli (va_runV (As := [.int x1, .int (x2 - (1 : Int32)), .int x3]) (rest := []) ⟨hx, hb, hml, hown, hts⟩ (c_P_isInside l dC dI cI cB cJ cZ a_picture a_picture_colours H.size n_picture_colours c_picture_width c_picture_height f_picture_colours x1 (x2 - (1 : Int32)) x3 Q22 hq22) (cwV 3 hts (goodV q_369 q_370 q_371 q_2 q_372) rfl rfl rfl (by decide +kernel) ⟨Nat.le_of_ble_eq_true rfl, Nat.le_of_ble_eq_true rfl⟩) ⟨fun a U g mk q => by obtain ⟨q0, q1, qP, qK, qD⟩ := q; exact ⟨q0, q1, qP, va_K.moved (u := U) (U := U.calling g mk a) (Vm.Alike.refl U.vm) qK, qD⟩, va_recv hK hPc (ci := 1) (q0 := 0) rfl rfl, fun U hU hW => ⟨rfl, by rw [hU], by rw [hU]; exact hPc, va_K.moved hW.alike hK, hDc.weaken (fun _ _ _ _ => trivial)⟩⟩ rfl rfl hl.1 rfl (lv_room (Nat.le_of_ble_eq_true rfl)) d_U_beginsOutline_22 ⟨Nat.le_of_ble_eq_true rfl, Nat.le_of_ble_eq_true rfl⟩) hS (fun q _ h => hFc q h) hFc (fun r22 u22 t H1 locs ht hvm hw hB hz1 hk1 hS => ?_)
    cases u22
    obtain ⟨hP1, -, hD1⟩ := hB
    rw [ht] at hP1
    have h := h r22 hw
    obtain ⟨hP, hD⟩ := va_join (wr := [(a_this, .inr (2, [.ref a_picture, .ref a_xs, .ref a_ys, .ref a_begins, .ref a_layers, .ref a_areas, .ref a_walked, .int c_count, .int c_traced])), (a_walked, .inl (cB, n_walked, .inl f_walked))]) (w1 := (cw_P_isInside cB a_picture a_picture_colours n_picture_colours c_picture_width c_picture_height f_picture_colours)) hP hD [1, 2] [0, 3] rfl rfl (by decide) (by decide) hk1 hFc hP1 hD1
    clear hP1 hD1 hk1 hPc hDc hFc
    generalize H1 = H at hP hS ⊢
    have hP : va_P (dC, dI) vwCl (cw_U_beginsOutline cB a_this a_picture a_picture_colours a_walked a_xs a_ys a_begins a_layers a_areas n_picture_colours n_walked c_count c_traced c_picture_width c_picture_height f_picture_colours f_walked) H := hP.sub [0, 2, 3, 1] rfl
    have hD : va_D A (cw_U_beginsOutline cB a_this a_picture a_picture_colours a_walked a_xs a_ys a_begins a_layers a_areas n_picture_colours n_walked c_count c_traced c_picture_width c_picture_height f_picture_colours f_walked) := hD.sub [0, 2, 3, 1] (by decide) rfl
    refine lv_if_ne (tgt := 51) hx hb d_U_beginsOutline_25 (by decide) (fun cc_ => ?_) (fun cc_ => ?_)
    · have h := h.1 cc_
      exact J51 _ _ _ h hP hD hS (lv_sub hl [] rfl)
    · have h := h.2 cc_
      refine lv_aload_n hx hb d_U_beginsOutline_28 rfl (lv_at hl 0 rfl) ?_
      refine va_get (D := (dC, dI)) (ci := 2) (v := .ref a_walked) (C := R_U) (T := F_U) (N := 9) hx hb hts i_U_in hown hK hP 0 rfl rfl 6 (by decide) (hts _ q_75) (fun _ h9 => h9) rfl d_U_beginsOutline_29 ?_
      refine lv_iload_n hx hb d_U_beginsOutline_32 rfl (lv_at hl 2 rfl) ?_
      refine lv_aload_n hx hb d_U_beginsOutline_33 rfl (lv_at hl 0 rfl) ?_
      refine va_get (D := (dC, dI)) (ci := 2) (v := .ref a_picture) (C := R_U) (T := F_U) (N := 9) hx hb hts i_U_in hown hK hP 0 rfl rfl 0 (by decide) (hts _ q_61) (fun _ h9 => h9) rfl d_U_beginsOutline_34 ?_
      refine va_get (D := (dC, dI)) (ci := 1) (v := .int c_picture_width) (C := R_P) (T := F_P) (N := 3) hx hb hts i_P_in hown hK hP 1 rfl rfl 0 (by decide) (hts _ q_37) (fun _ h9 => h9) rfl d_U_beginsOutline_37 ?_
      refine lv_imul hx hb d_U_beginsOutline_40 ?_
      refine lv_iload_n hx hb d_U_beginsOutline_41 rfl (lv_at hl 1 rfl) ?_
      refine lv_iadd hx hb d_U_beginsOutline_42 ?_
      obtain ⟨hin, h⟩ := h
      refine va_bald hx hb hK hP 3 1 rfl rfl hin d_U_beginsOutline_43 ?_
      refine lv_if_ne (tgt := 51) hx hb d_U_beginsOutline_44 (by decide) (fun cc_ => ?_) (fun cc_ => ?_)
      · have h := h.1 cc_
        exact J51 _ _ _ h hP hD hS (lv_sub hl [] rfl)
      · have h := h.2 cc_
        refine lv_iconst (v := 1) hx hb d_U_beginsOutline_47 (by decide) ?_
        refine lv_goto (tgt := 52) hx hb d_U_beginsOutline_48 (by decide) ?_
        subst hQf
        exact W.zret (v := (1 : Int32)) hx hb hr (by rfl) (fun t ht hW => ⟨⟨(1 : Int32), (), rfl, h, by rw [ht]; exact hP, va_K.moved hW.alike hK, hD⟩, hS.F ht⟩) hS.2.2 d_U_beginsOutline_52
def wp_U_insideRound_J47 (n_picture_colours : Nat) (c_picture_width : Int32) (c_picture_height : Int32) (f_picture_colours : Nat → Int32) (x1 : Int32) (x2 : Int32) (x3 : Int32) (x4 : Int32) (x5 : Int32) (x6 : Int32) (back8 : (Int32 × Int32) → Prop) (back21 : (Int32 × Int32) → Prop) (post : Int32 → Unit → Prop) : Prop :=
  ∀ x6_47 : Int32, x6_47 = x6 + (1 : Int32) → back21 (x4, x6_47)
def wp_U_insideRound_L21 (n_picture_colours : Nat) (c_picture_width : Int32) (c_picture_height : Int32) (f_picture_colours : Nat → Int32) (x1 : Int32) (x2 : Int32) (x3 : Int32) (x5 : Int32) (back8 : (Int32 × Int32) → Prop) (post : Int32 → Unit → Prop) (back21 : (Int32 × Int32) → Prop) (x4 : Int32) (x6 : Int32) : Prop :=
  ((x1 + (2 : Int32)) ≤ x6 → ∀ x5_53 : Int32, x5_53 = x5 + (1 : Int32) → back8 (x4, x5_53)) ∧ (¬ (x1 + (2 : Int32)) ≤ x6 → ∃ Q38 : Int32 → Unit → Prop, wp_P_isInside n_picture_colours c_picture_width c_picture_height f_picture_colours x6 x5 x3 Q38 ∧ ∀ (r38 : Int32), Q38 r38 () → (r38 = 0 → wp_U_insideRound_J47 n_picture_colours c_picture_width c_picture_height f_picture_colours x1 x2 x3 x4 x5 x6 back8 back21 post) ∧ (¬ r38 = 0 → ∀ x4_44 : Int32, x4_44 = x4 + (1 : Int32) → wp_U_insideRound_J47 n_picture_colours c_picture_width c_picture_height f_picture_colours x1 x2 x3 x4_44 x5 x6 back8 back21 post))
def wp_U_insideRound_L8 (n_picture_colours : Nat) (c_picture_width : Int32) (c_picture_height : Int32) (f_picture_colours : Nat → Int32) (x1 : Int32) (x2 : Int32) (x3 : Int32) (post : Int32 → Unit → Prop) (back8 : (Int32 × Int32) → Prop) (x4 : Int32) (x5 : Int32) : Prop :=
  ((x2 + (2 : Int32)) ≤ x5 → post x4 ()) ∧ (¬ (x2 + (2 : Int32)) ≤ x5 → ∀ x6_19 : Int32, x6_19 = (x1 - (2 : Int32)) → lpW (fun b z => wp_U_insideRound_L21 n_picture_colours c_picture_width c_picture_height f_picture_colours x1 x2 x3 x5 back8 post b z.1 z.2) (x4, x6_19))
def wp_U_insideRound (n_picture_colours : Nat) (c_picture_width : Int32) (c_picture_height : Int32) (f_picture_colours : Nat → Int32) (x1 : Int32) (x2 : Int32) (x3 : Int32) (post : Int32 → Unit → Prop) : Prop :=
  ∀ x5_6 : Int32, x5_6 = (x2 - (2 : Int32)) → lpW (fun b z => wp_U_insideRound_L8 n_picture_colours c_picture_width c_picture_height f_picture_colours x1 x2 x3 post b z.1 z.2) ((0 : Int32), x5_6)
abbrev cw_U_insideRound (cB : ClassId) (a_this a_picture a_picture_colours a_xs a_ys a_begins a_layers a_areas a_walked : Nat) (n_picture_colours : Nat) (c_count : Int32) (c_traced : Int32) (c_picture_width : Int32) (c_picture_height : Int32) (f_picture_colours : Nat → Int32) : va_W := [(a_this, .inr (2, [.ref a_picture, .ref a_xs, .ref a_ys, .ref a_begins, .ref a_layers, .ref a_areas, .ref a_walked, .int c_count, .int c_traced])), (a_picture, .inr (1, [.int c_picture_width, .int c_picture_height, .ref a_picture_colours])), (a_picture_colours, .inl (cB, n_picture_colours, .inl f_picture_colours))]
abbrev qq_U_insideRound (dC : Nat → ClassId) (dI : Nat → Nat → Nat) (cI cB cJ cZ : ClassId) (a_this a_picture a_picture_colours a_xs a_ys a_begins a_layers a_areas a_walked : Nat) (n_picture_colours : Nat) (c_count : Int32) (c_traced : Int32) (c_picture_width : Int32) (c_picture_height : Int32) (f_picture_colours : Nat → Int32) (A : Nat → Prop) (post : Int32 → Unit → Prop) : Array Value → State → Outcome → State → Prop := va_Qi post (fun _ t => va_P (dC, dI) vwCl (cw_U_insideRound cB a_this a_picture a_picture_colours a_xs a_ys a_begins a_layers a_areas a_walked n_picture_colours c_count c_traced c_picture_width c_picture_height f_picture_colours) t.heap ∧ va_K (dC, dI) vwCl [(cI, .int), (cB, .byte), (cJ, .long), (cZ, .boolean)] t ∧ va_D A (cw_U_insideRound cB a_this a_picture a_picture_colours a_xs a_ys a_begins a_layers a_areas a_walked n_picture_colours c_count c_traced c_picture_width c_picture_height f_picture_colours)) A
set_option maxHeartbeats 4000000 in
set_option maxRecDepth 100000 in
theorem c_U_insideRound (l : Launch) (dC : Nat → ClassId) (dI : Nat → Nat → Nat) (cI cB cJ cZ : ClassId) (a_this a_picture a_picture_colours a_xs a_ys a_begins a_layers a_areas a_walked : Nat) (sz : Nat) (n_picture_colours : Nat) (c_count : Int32) (c_traced : Int32) (c_picture_width : Int32) (c_picture_height : Int32) (f_picture_colours : Nat → Int32) (x1 : Int32) (x2 : Int32) (x3 : Int32) (post : Int32 → Unit → Prop) (h : wp_U_insideRound n_picture_colours c_picture_width c_picture_height f_picture_colours x1 x2 x3 post) : Met l y_U_insideRound w_U_insideRound ({ frames := 2, cells := 0, slots := 0, locals := 45 }) (va_Pc [.ref a_this, .int x1, .int x2, .int x3] (fun U => U.heap.size = sz ∧ va_P (dC, dI) vwCl (cw_U_insideRound cB a_this a_picture a_picture_colours a_xs a_ys a_begins a_layers a_areas a_walked n_picture_colours c_count c_traced c_picture_width c_picture_height f_picture_colours) U.heap ∧ va_K (dC, dI) vwCl [(cI, .int), (cB, .byte), (cJ, .long), (cZ, .boolean)] U ∧ va_D (fun _ => True) (cw_U_insideRound cB a_this a_picture a_picture_colours a_xs a_ys a_begins a_layers a_areas a_walked n_picture_colours c_count c_traced c_picture_width c_picture_height f_picture_colours))) (qq_U_insideRound dC dI cI cB cJ cZ a_this a_picture a_picture_colours a_xs a_ys a_begins a_layers a_areas a_walked n_picture_colours c_count c_traced c_picture_width c_picture_height f_picture_colours (va_A (cw_U_insideRound cB a_this a_picture a_picture_colours a_xs a_ys a_begins a_layers a_areas a_walked n_picture_colours c_count c_traced c_picture_width c_picture_height f_picture_colours) sz) post) 0 0 (va_A (cw_U_insideRound cB a_this a_picture a_picture_colours a_xs a_ys a_begins a_layers a_areas a_walked n_picture_colours c_count c_traced c_picture_width c_picture_height f_picture_colours) sz) := by
  refine Met.ofW (cc := b_U_insideRound) (maxL := 7) (ret := (some .int)) (by decide +kernel) rfl ?_
  intro p e s m args below meth c s₁ B hml hv
  obtain ⟨rfl, hsz, hP, hK, hD0⟩ := hv
  have hx := B.exec
  have hb := B.bytes
  have hr := B.returns
  have hts : ∀ w ∈ allW, w.before _ s = true := fun w hw => atoms_spec (ws := w_U_insideRound) B.pre w (List.mem_cons_of_mem _ hw)
  have hown : s.vm.findClass R_U = some m.cls := findClass_of_methodNamed B.named
  have hlocks := B.notSynchronized
  subst hsz
  have hD := hD0.self (sz := s.heap.size)
  generalize hAe : va_A (cw_U_insideRound cB a_this a_picture a_picture_colours a_xs a_ys a_begins a_layers a_areas a_walked n_picture_colours c_count c_traced c_picture_width c_picture_height f_picture_colours) s.heap.size = A at hD ⊢
  have hA : ∀ q : Nat, s.heap.size ≤ q → A q := fun q h => by rw [← hAe]; exact Or.inr h
  have hS : va_S A s.heap s.heap [] := va_S.rf
  clear hD0
  generalize hQf : MQ below (qq_U_insideRound dC dI cI cB cJ cZ a_this a_picture a_picture_colours a_xs a_ys a_begins a_layers a_areas a_walked n_picture_colours c_count c_traced c_picture_width c_picture_height f_picture_colours A post) ([.ref a_this, .int x1, .int x2, .int x3] : List Value).toArray s 0 0 A = Qf
  have hl := lv_entry ([.ref a_this, .int x1, .int x2, .int x3]) (n := 7) (Nat.le_of_ble_eq_true rfl)
  rw [lg_entry_eq]
  generalize (lg_sl ([.ref a_this, .int x1, .int x2, .int x3]) ++ List.replicate (7 - (lg_sl ([.ref a_this, .int x1, .int x2, .int x3])).length) Slot.unset).toArray = ls at hl ⊢
  have hl : lv_has ls 7 [(0, .ref a_this), (1, .int x1), (2, .int x2), (3, .int x3)] := hl
  unfold wp_U_insideRound at h
  refine lv_iconst (v := 0) hx hb d_U_insideRound_0 (by decide) ?_
  refine lv_istore (lv' := [(4, .int (0 : Int32)), (0, .ref a_this), (1, .int x1), (2, .int x2), (3, .int x3)]) hx hb d_U_insideRound_1 hl (by decide) rfl (fun ls hl => ?_)
  refine lv_iload_n hx hb d_U_insideRound_3 rfl (lv_at hl 3 rfl) ?_
  refine lv_iconst (v := 2) hx hb d_U_insideRound_4 (by decide) ?_
  refine lv_isub hx hb d_U_insideRound_5 ?_
  refine lv_topi (fun x5_6 e_x5_6 => ?_)
  have h := h x5_6 e_x5_6
  refine lv_istore (lv' := [(5, .int x5_6), (4, .int (0 : Int32)), (0, .ref a_this), (1, .int x1), (2, .int x2), (3, .int x3)]) hx hb d_U_insideRound_6 hl (by decide) rfl (fun ls hl => ?_)
  refine lpW_ind (Wp := fun z => ∀ (H : Heap) (locs : List Loc) (ls : Array Slot), va_P (dC, dI) vwCl (cw_U_insideRound cB a_this a_picture a_picture_colours a_xs a_ys a_begins a_layers a_areas a_walked n_picture_colours c_count c_traced c_picture_width c_picture_height f_picture_colours) H → va_D A (cw_U_insideRound cB a_this a_picture a_picture_colours a_xs a_ys a_begins a_layers a_areas a_walked n_picture_colours c_count c_traced c_picture_width c_picture_height f_picture_colours) → va_S A s.heap H locs → lv_has ls 7 [(0, .ref a_this), (1, .int x1), (2, .int x2), (3, .int x3), (4, .int z.1), (5, .int z.2)] → W p l e (headSpec w_U_insideRound ({ frames := 2, cells := 0, slots := 0, locals := 45 })).room s m ([.ref a_this, .int x1, .int x2, .int x3] : List Value).toArray below meth c H locs 0 0 Qf (F0 m 8 ls [])) h ?_ _ _ _ hP hD hS (lv_sub hl [2, 3, 4, 5, 1, 0] rfl)
  rintro ⟨x4_l8, x5_l8⟩ back8 h hb8 H locs ls hP hD hS hl
  have h : wp_U_insideRound_L8 n_picture_colours c_picture_width c_picture_height f_picture_colours x1 x2 x3 post back8 x4_l8 x5_l8 := h
  have hP : va_P (dC, dI) vwCl (cw_U_insideRound cB a_this a_picture a_picture_colours a_xs a_ys a_begins a_layers a_areas a_walked n_picture_colours c_count c_traced c_picture_width c_picture_height f_picture_colours) H := hP
  have hD : va_D A (cw_U_insideRound cB a_this a_picture a_picture_colours a_xs a_ys a_begins a_layers a_areas a_walked n_picture_colours c_count c_traced c_picture_width c_picture_height f_picture_colours) := hD
  have hl : lv_has ls 7 [(0, .ref a_this), (1, .int x1), (2, .int x2), (3, .int x3), (4, .int x4_l8), (5, .int x5_l8)] := hl
  unfold wp_U_insideRound_L8 at h
  refine lv_iload hx hb d_U_insideRound_8 (lv_at hl 5 rfl) ?_
  refine lv_iload_n hx hb d_U_insideRound_10 rfl (lv_at hl 2 rfl) ?_
  refine lv_iconst (v := 2) hx hb d_U_insideRound_11 (by decide) ?_
  refine lv_iadd hx hb d_U_insideRound_12 ?_
  refine lv_icmp_ge (tgt := 59) hx hb d_U_insideRound_13 (by decide) (fun cc_ => ?_) (fun cc_ => ?_)
  · have h := h.1 cc_
    refine lv_iload hx hb d_U_insideRound_59 (lv_at hl 4 rfl) ?_
    subst hQf
    exact W.iret (v := x4_l8) hx hb hr (fun t ht hW => ⟨⟨x4_l8, (), rfl, h, by rw [ht]; exact hP, va_K.moved hW.alike hK, hD⟩, hS.F ht⟩) hS.2.2 d_U_insideRound_61
  · have h := h.2 cc_
    refine lv_iload_n hx hb d_U_insideRound_16 rfl (lv_at hl 1 rfl) ?_
    refine lv_iconst (v := 2) hx hb d_U_insideRound_17 (by decide) ?_
    refine lv_isub hx hb d_U_insideRound_18 ?_
    refine lv_topi (fun x6_19 e_x6_19 => ?_)
    have h := h x6_19 e_x6_19
    refine lv_istore (lv' := [(6, .int x6_19), (0, .ref a_this), (1, .int x1), (2, .int x2), (3, .int x3), (4, .int x4_l8), (5, .int x5_l8)]) hx hb d_U_insideRound_19 hl (by decide) rfl (fun ls hl => ?_)
    refine lpW_ind (Wp := fun z => ∀ (H : Heap) (locs : List Loc) (ls : Array Slot), va_P (dC, dI) vwCl (cw_U_insideRound cB a_this a_picture a_picture_colours a_xs a_ys a_begins a_layers a_areas a_walked n_picture_colours c_count c_traced c_picture_width c_picture_height f_picture_colours) H → va_D A (cw_U_insideRound cB a_this a_picture a_picture_colours a_xs a_ys a_begins a_layers a_areas a_walked n_picture_colours c_count c_traced c_picture_width c_picture_height f_picture_colours) → va_S A s.heap H locs → lv_has ls 7 [(0, .ref a_this), (1, .int x1), (2, .int x2), (3, .int x3), (4, .int z.1), (5, .int x5_l8), (6, .int z.2)] → W p l e (headSpec w_U_insideRound ({ frames := 2, cells := 0, slots := 0, locals := 45 })).room s m ([.ref a_this, .int x1, .int x2, .int x3] : List Value).toArray below meth c H locs 0 0 Qf (F0 m 21 ls [])) h ?_ _ _ _ hP hD hS (lv_sub hl [1, 2, 3, 4, 5, 6, 0] rfl)
    rintro ⟨x4_l21, x6_l21⟩ back21 h hb21 H locs ls hP hD hS hl
    have h : wp_U_insideRound_L21 n_picture_colours c_picture_width c_picture_height f_picture_colours x1 x2 x3 x5_l8 back8 post back21 x4_l21 x6_l21 := h
    have hP : va_P (dC, dI) vwCl (cw_U_insideRound cB a_this a_picture a_picture_colours a_xs a_ys a_begins a_layers a_areas a_walked n_picture_colours c_count c_traced c_picture_width c_picture_height f_picture_colours) H := hP
    have hD : va_D A (cw_U_insideRound cB a_this a_picture a_picture_colours a_xs a_ys a_begins a_layers a_areas a_walked n_picture_colours c_count c_traced c_picture_width c_picture_height f_picture_colours) := hD
    have hl : lv_has ls 7 [(0, .ref a_this), (1, .int x1), (2, .int x2), (3, .int x3), (4, .int x4_l21), (5, .int x5_l8), (6, .int x6_l21)] := hl
    unfold wp_U_insideRound_L21 at h
    have J47 : ∀ (x4_j47 : Int32) (x6_j47 : Int32) (H : Heap) (locs : List Loc) (ls : Array Slot), wp_U_insideRound_J47 n_picture_colours c_picture_width c_picture_height f_picture_colours x1 x2 x3 x4_j47 x5_l8 x6_j47 back8 back21 post → va_P (dC, dI) vwCl (cw_U_insideRound cB a_this a_picture a_picture_colours a_xs a_ys a_begins a_layers a_areas a_walked n_picture_colours c_count c_traced c_picture_width c_picture_height f_picture_colours) H → va_D A (cw_U_insideRound cB a_this a_picture a_picture_colours a_xs a_ys a_begins a_layers a_areas a_walked n_picture_colours c_count c_traced c_picture_width c_picture_height f_picture_colours) → va_S A s.heap H locs → lv_has ls 7 [(0, .ref a_this), (1, .int x1), (2, .int x2), (3, .int x3), (4, .int x4_j47), (5, .int x5_l8), (6, .int x6_j47)] → W p l e (headSpec w_U_insideRound ({ frames := 2, cells := 0, slots := 0, locals := 45 })).room s m ([.ref a_this, .int x1, .int x2, .int x3] : List Value).toArray below meth c H locs 0 0 Qf (F0 m 47 ls []) := by
      intro x4_j47 x6_j47 H locs ls h hP hD hS hl
      unfold wp_U_insideRound_J47 at h
      obtain ⟨x6_47, e_x6_47⟩ : ∃ y : Int32, y = x6_j47 + (1 : Int32) := ⟨_, rfl⟩
      have h := h x6_47 e_x6_47
      refine lv_iinc (v := x6_47) (lv' := [(6, .int x6_47), (0, .ref a_this), (1, .int x1), (2, .int x2), (3, .int x3), (4, .int x4_j47), (5, .int x5_l8)]) hx hb d_U_insideRound_47 hl (k := 6) rfl (by rw [e_x6_47]; rfl) (by decide) rfl (fun ls hl => ?_)
      refine lv_goto (tgt := 21) hx hb d_U_insideRound_50 (by decide) ?_
      exact hb21 _ h _ _ _ hP hD hS (lv_sub hl [1, 2, 3, 4, 5, 6, 0] rfl)
    refine lv_iload hx hb d_U_insideRound_21 (lv_at hl 6 rfl) ?_
    refine lv_iload_n hx hb d_U_insideRound_23 rfl (lv_at hl 1 rfl) ?_
    refine lv_iconst (v := 2) hx hb d_U_insideRound_24 (by decide) ?_
    refine lv_iadd hx hb d_U_insideRound_25 ?_
    refine lv_icmp_ge (tgt := 53) hx hb d_U_insideRound_26 (by decide) (fun cc_ => ?_) (fun cc_ => ?_)
    · have h := h.1 cc_
      obtain ⟨x5_53, e_x5_53⟩ : ∃ y : Int32, y = x5_l8 + (1 : Int32) := ⟨_, rfl⟩
      have h := h x5_53 e_x5_53
      refine lv_iinc (v := x5_53) (lv' := [(5, .int x5_53), (0, .ref a_this), (1, .int x1), (2, .int x2), (3, .int x3), (4, .int x4_l21), (6, .int x6_l21)]) hx hb d_U_insideRound_53 hl (k := 5) rfl (by rw [e_x5_53]; rfl) (by decide) rfl (fun ls hl => ?_)
      refine lv_goto (tgt := 8) hx hb d_U_insideRound_56 (by decide) ?_
      exact hb8 _ h _ _ _ hP hD hS (lv_sub hl [1, 2, 3, 4, 5, 0] rfl)
    · have h := h.2 cc_
      refine lv_aload_n hx hb d_U_insideRound_29 rfl (lv_at hl 0 rfl) ?_
      refine va_get (D := (dC, dI)) (ci := 2) (v := .ref a_picture) (C := R_U) (T := F_U) (N := 9) hx hb hts i_U_in hown hK hP 0 rfl rfl 0 (by decide) (hts _ q_61) (fun _ h9 => h9) rfl d_U_insideRound_30 ?_
      refine lv_iload hx hb d_U_insideRound_33 (lv_at hl 6 rfl) ?_
      refine lv_iload hx hb d_U_insideRound_35 (lv_at hl 5 rfl) ?_
      refine lv_iload_n hx hb d_U_insideRound_37 rfl (lv_at hl 3 rfl) ?_
      obtain ⟨Q38, hq38, h⟩ := h
      have hPc := hP.sub (ws' := (cw_P_isInside cB a_picture a_picture_colours n_picture_colours c_picture_width c_picture_height f_picture_colours)) [1, 2] rfl
      have hDc := hD.sub (ws' := (cw_P_isInside cB a_picture a_picture_colours n_picture_colours c_picture_width c_picture_height f_picture_colours)) [1, 2] (by decide) rfl
      have hFc := va_free (wc := (cw_P_isInside cB a_picture a_picture_colours n_picture_colours c_picture_width c_picture_height f_picture_colours)) hD hS hA [1, 2] rfl
      refine va_calli (va_runV (As := [.int x6_l21, .int x5_l8, .int x3]) (rest := []) ⟨hx, hb, hml, hown, hts⟩ (c_P_isInside l dC dI cI cB cJ cZ a_picture a_picture_colours H.size n_picture_colours c_picture_width c_picture_height f_picture_colours x6_l21 x5_l8 x3 Q38 hq38) (cwV 3 hts (goodV q_369 q_370 q_371 q_2 q_372) rfl rfl rfl (by decide +kernel) ⟨Nat.le_of_ble_eq_true rfl, Nat.le_of_ble_eq_true rfl⟩) ⟨fun a U g mk q => by obtain ⟨q0, q1, qP, qK, qD⟩ := q; exact ⟨q0, q1, qP, va_K.moved (u := U) (U := U.calling g mk a) (Vm.Alike.refl U.vm) qK, qD⟩, va_recv hK hPc (ci := 1) (q0 := 0) rfl rfl, fun U hU hW => ⟨rfl, by rw [hU], by rw [hU]; exact hPc, va_K.moved hW.alike hK, hDc.weaken (fun _ _ _ _ => trivial)⟩⟩ rfl rfl hl.1 rfl (lv_room (Nat.le_of_ble_eq_true rfl)) d_U_insideRound_38 ⟨Nat.le_of_ble_eq_true rfl, Nat.le_of_ble_eq_true rfl⟩) hS (fun q _ h => hFc q h) hFc (fun r38 u38 t H1 locs ht hvm hw hB hz1 hk1 hS => ?_)
      cases u38
      obtain ⟨hP1, -, hD1⟩ := hB
      rw [ht] at hP1
      have h := h r38 hw
      obtain ⟨hP, hD⟩ := va_join (wr := [(a_this, .inr (2, [.ref a_picture, .ref a_xs, .ref a_ys, .ref a_begins, .ref a_layers, .ref a_areas, .ref a_walked, .int c_count, .int c_traced]))]) (w1 := (cw_P_isInside cB a_picture a_picture_colours n_picture_colours c_picture_width c_picture_height f_picture_colours)) hP hD [1, 2] [0] rfl rfl (by decide) (by decide) hk1 hFc hP1 hD1
      clear hP1 hD1 hk1 hPc hDc hFc
      generalize H1 = H at hP hS ⊢
      have hP : va_P (dC, dI) vwCl (cw_U_insideRound cB a_this a_picture a_picture_colours a_xs a_ys a_begins a_layers a_areas a_walked n_picture_colours c_count c_traced c_picture_width c_picture_height f_picture_colours) H := hP.sub [0, 1, 2] rfl
      have hD : va_D A (cw_U_insideRound cB a_this a_picture a_picture_colours a_xs a_ys a_begins a_layers a_areas a_walked n_picture_colours c_count c_traced c_picture_width c_picture_height f_picture_colours) := hD.sub [0, 1, 2] (by decide) rfl
      refine lv_if_eq (tgt := 47) hx hb d_U_insideRound_41 (by decide) (fun cc_ => ?_) (fun cc_ => ?_)
      · have h := h.1 cc_
        exact J47 x4_l21 x6_l21 _ _ _ h hP hD hS (lv_sub hl [0, 1, 2, 3, 4, 5, 6] rfl)
      · have h := h.2 cc_
        obtain ⟨x4_44, e_x4_44⟩ : ∃ y : Int32, y = x4_l21 + (1 : Int32) := ⟨_, rfl⟩
        have h := h x4_44 e_x4_44
        refine lv_iinc (v := x4_44) (lv' := [(4, .int x4_44), (0, .ref a_this), (1, .int x1), (2, .int x2), (3, .int x3), (5, .int x5_l8), (6, .int x6_l21)]) hx hb d_U_insideRound_44 hl (k := 4) rfl (by rw [e_x4_44]; rfl) (by decide) rfl (fun ls hl => ?_)
        exact J47 x4_44 x6_l21 _ _ _ h hP hD hS (lv_sub hl [1, 2, 3, 4, 0, 5, 6] rfl)
def wp_U_turnsLeft (n_picture_colours : Nat) (c_picture_width : Int32) (c_picture_height : Int32) (f_picture_colours : Nat → Int32) (x1 : Int32) (x2 : Int32) (x3 : Int32) (x4 : Int32) (post : Int32 → Unit → Prop) : Prop :=
  (x4 = (0 : Int32) → post (1 : Int32) ()) ∧ (x4 = (1 : Int32) → post (0 : Int32) ()) ∧ (x4 = (2 : Int32) → ∃ Q36 : Int32 → Unit → Prop, wp_U_insideRound n_picture_colours c_picture_width c_picture_height f_picture_colours x1 x2 x3 Q36 ∧ ∀ (r36 : Int32), Q36 r36 () → ((8 : Int32) < r36 → post (0 : Int32) ()) ∧ (¬ (8 : Int32) < r36 → post (1 : Int32) ())) ∧ (¬ x4 = (0 : Int32) → ¬ x4 = (1 : Int32) → ¬ x4 = (2 : Int32) → (¬ ((x1 + x2) &&& (1 : Int32)) = 0 → post (0 : Int32) ()) ∧ (((x1 + x2) &&& (1 : Int32)) = 0 → post (1 : Int32) ()))
abbrev cw_U_turnsLeft (cB : ClassId) (a_this a_picture a_picture_colours a_xs a_ys a_begins a_layers a_areas a_walked : Nat) (n_picture_colours : Nat) (c_count : Int32) (c_traced : Int32) (c_picture_width : Int32) (c_picture_height : Int32) (f_picture_colours : Nat → Int32) : va_W := [(a_this, .inr (2, [.ref a_picture, .ref a_xs, .ref a_ys, .ref a_begins, .ref a_layers, .ref a_areas, .ref a_walked, .int c_count, .int c_traced])), (a_picture, .inr (1, [.int c_picture_width, .int c_picture_height, .ref a_picture_colours])), (a_picture_colours, .inl (cB, n_picture_colours, .inl f_picture_colours))]
abbrev qq_U_turnsLeft (dC : Nat → ClassId) (dI : Nat → Nat → Nat) (cI cB cJ cZ : ClassId) (a_this a_picture a_picture_colours a_xs a_ys a_begins a_layers a_areas a_walked : Nat) (n_picture_colours : Nat) (c_count : Int32) (c_traced : Int32) (c_picture_width : Int32) (c_picture_height : Int32) (f_picture_colours : Nat → Int32) (A : Nat → Prop) (post : Int32 → Unit → Prop) : Array Value → State → Outcome → State → Prop := va_Qi post (fun _ t => va_P (dC, dI) vwCl (cw_U_turnsLeft cB a_this a_picture a_picture_colours a_xs a_ys a_begins a_layers a_areas a_walked n_picture_colours c_count c_traced c_picture_width c_picture_height f_picture_colours) t.heap ∧ va_K (dC, dI) vwCl [(cI, .int), (cB, .byte), (cJ, .long), (cZ, .boolean)] t ∧ va_D A (cw_U_turnsLeft cB a_this a_picture a_picture_colours a_xs a_ys a_begins a_layers a_areas a_walked n_picture_colours c_count c_traced c_picture_width c_picture_height f_picture_colours)) A
set_option maxHeartbeats 4000000 in
set_option maxRecDepth 100000 in
theorem c_U_turnsLeft (l : Launch) (dC : Nat → ClassId) (dI : Nat → Nat → Nat) (cI cB cJ cZ : ClassId) (a_this a_picture a_picture_colours a_xs a_ys a_begins a_layers a_areas a_walked : Nat) (sz : Nat) (n_picture_colours : Nat) (c_count : Int32) (c_traced : Int32) (c_picture_width : Int32) (c_picture_height : Int32) (f_picture_colours : Nat → Int32) (x1 : Int32) (x2 : Int32) (x3 : Int32) (x4 : Int32) (post : Int32 → Unit → Prop) (h : wp_U_turnsLeft n_picture_colours c_picture_width c_picture_height f_picture_colours x1 x2 x3 x4 post) : Met l y_U_turnsLeft w_U_turnsLeft ({ frames := 3, cells := 0, slots := 0, locals := 71 }) (va_Pc [.ref a_this, .int x1, .int x2, .int x3, .int x4] (fun U => U.heap.size = sz ∧ va_P (dC, dI) vwCl (cw_U_turnsLeft cB a_this a_picture a_picture_colours a_xs a_ys a_begins a_layers a_areas a_walked n_picture_colours c_count c_traced c_picture_width c_picture_height f_picture_colours) U.heap ∧ va_K (dC, dI) vwCl [(cI, .int), (cB, .byte), (cJ, .long), (cZ, .boolean)] U ∧ va_D (fun _ => True) (cw_U_turnsLeft cB a_this a_picture a_picture_colours a_xs a_ys a_begins a_layers a_areas a_walked n_picture_colours c_count c_traced c_picture_width c_picture_height f_picture_colours))) (qq_U_turnsLeft dC dI cI cB cJ cZ a_this a_picture a_picture_colours a_xs a_ys a_begins a_layers a_areas a_walked n_picture_colours c_count c_traced c_picture_width c_picture_height f_picture_colours (va_A (cw_U_turnsLeft cB a_this a_picture a_picture_colours a_xs a_ys a_begins a_layers a_areas a_walked n_picture_colours c_count c_traced c_picture_width c_picture_height f_picture_colours) sz) post) 0 0 (va_A (cw_U_turnsLeft cB a_this a_picture a_picture_colours a_xs a_ys a_begins a_layers a_areas a_walked n_picture_colours c_count c_traced c_picture_width c_picture_height f_picture_colours) sz) := by
  refine Met.ofW (cc := b_U_turnsLeft) (maxL := 5) (ret := (some .boolean)) (by decide +kernel) rfl ?_
  intro p e s m args below meth c s₁ B hml hv
  obtain ⟨rfl, hsz, hP, hK, hD0⟩ := hv
  have hx := B.exec
  have hb := B.bytes
  have hr := B.returns
  have hts : ∀ w ∈ allW, w.before _ s = true := fun w hw => atoms_spec (ws := w_U_turnsLeft) B.pre w (List.mem_cons_of_mem _ hw)
  have hown : s.vm.findClass R_U = some m.cls := findClass_of_methodNamed B.named
  have hlocks := B.notSynchronized
  subst hsz
  have hD := hD0.self (sz := s.heap.size)
  generalize hAe : va_A (cw_U_turnsLeft cB a_this a_picture a_picture_colours a_xs a_ys a_begins a_layers a_areas a_walked n_picture_colours c_count c_traced c_picture_width c_picture_height f_picture_colours) s.heap.size = A at hD ⊢
  have hA : ∀ q : Nat, s.heap.size ≤ q → A q := fun q h => by rw [← hAe]; exact Or.inr h
  have hS : va_S A s.heap s.heap [] := va_S.rf
  clear hD0
  generalize hQf : MQ below (qq_U_turnsLeft dC dI cI cB cJ cZ a_this a_picture a_picture_colours a_xs a_ys a_begins a_layers a_areas a_walked n_picture_colours c_count c_traced c_picture_width c_picture_height f_picture_colours A post) ([.ref a_this, .int x1, .int x2, .int x3, .int x4] : List Value).toArray s 0 0 A = Qf
  have hl := lv_entry ([.ref a_this, .int x1, .int x2, .int x3, .int x4]) (n := 5) (Nat.le_of_ble_eq_true rfl)
  rw [lg_entry_eq]
  generalize (lg_sl ([.ref a_this, .int x1, .int x2, .int x3, .int x4]) ++ List.replicate (5 - (lg_sl ([.ref a_this, .int x1, .int x2, .int x3, .int x4])).length) Slot.unset).toArray = ls at hl ⊢
  have hl : lv_has ls 5 [(0, .ref a_this), (1, .int x1), (2, .int x2), (3, .int x3), (4, .int x4)] := hl
  unfold wp_U_turnsLeft at h
  refine lv_iload hx hb d_U_turnsLeft_0 (lv_at hl 4 rfl) ?_
  by_cases q2_0 : x4 = (0 : Int32)
  · have h := h.1 q2_0
    refine lv_tableIn (off := 26) (tgt := 28) hx hb d_U_turnsLeft_2 (by rw [q2_0]; decide) (by rw [q2_0]; decide) (by rw [q2_0]; rfl) (by decide) ?_
    refine lv_iconst (v := 1) hx hb d_U_turnsLeft_28 (by decide) ?_
    subst hQf
    exact W.zret (v := (1 : Int32)) hx hb hr (by rfl) (fun t ht hW => ⟨⟨(1 : Int32), (), rfl, h, by rw [ht]; exact hP, va_K.moved hW.alike hK, hD⟩, hS.F ht⟩) hS.2.2 d_U_turnsLeft_29
  by_cases q2_1 : x4 = (1 : Int32)
  · have h := h.2.1 q2_1
    refine lv_tableIn (off := 28) (tgt := 30) hx hb d_U_turnsLeft_2 (by rw [q2_1]; decide) (by rw [q2_1]; decide) (by rw [q2_1]; rfl) (by decide) ?_
    refine lv_iconst (v := 0) hx hb d_U_turnsLeft_30 (by decide) ?_
    subst hQf
    exact W.zret (v := (0 : Int32)) hx hb hr (by rfl) (fun t ht hW => ⟨⟨(0 : Int32), (), rfl, h, by rw [ht]; exact hP, va_K.moved hW.alike hK, hD⟩, hS.F ht⟩) hS.2.2 d_U_turnsLeft_31
  by_cases q2_2 : x4 = (2 : Int32)
  · have h := h.2.2.1 q2_2
    refine lv_tableIn (off := 30) (tgt := 32) hx hb d_U_turnsLeft_2 (by rw [q2_2]; decide) (by rw [q2_2]; decide) (by rw [q2_2]; rfl) (by decide) ?_
    refine lv_aload_n hx hb d_U_turnsLeft_32 rfl (lv_at hl 0 rfl) ?_
    refine lv_iload_n hx hb d_U_turnsLeft_33 rfl (lv_at hl 1 rfl) ?_
    refine lv_iload_n hx hb d_U_turnsLeft_34 rfl (lv_at hl 2 rfl) ?_
    refine lv_iload_n hx hb d_U_turnsLeft_35 rfl (lv_at hl 3 rfl) ?_
    obtain ⟨Q36, hq36, h⟩ := h
    have hPc := hP.sub (ws' := (cw_U_insideRound cB a_this a_picture a_picture_colours a_xs a_ys a_begins a_layers a_areas a_walked n_picture_colours c_count c_traced c_picture_width c_picture_height f_picture_colours)) [0, 1, 2] rfl
    have hDc := hD.sub (ws' := (cw_U_insideRound cB a_this a_picture a_picture_colours a_xs a_ys a_begins a_layers a_areas a_walked n_picture_colours c_count c_traced c_picture_width c_picture_height f_picture_colours)) [0, 1, 2] (by decide) rfl
    have hFc := va_free (wc := (cw_U_insideRound cB a_this a_picture a_picture_colours a_xs a_ys a_begins a_layers a_areas a_walked n_picture_colours c_count c_traced c_picture_width c_picture_height f_picture_colours)) hD hS hA [0, 1, 2] rfl
    refine va_calli (va_runV (As := [.int x1, .int x2, .int x3]) (rest := []) ⟨hx, hb, hml, hown, hts⟩ (c_U_insideRound l dC dI cI cB cJ cZ a_this a_picture a_picture_colours a_xs a_ys a_begins a_layers a_areas a_walked s.heap.size n_picture_colours c_count c_traced c_picture_width c_picture_height f_picture_colours x1 x2 x3 Q36 hq36) (cwV 3 hts (goodV q_395 q_397 q_p7 q_4 q_398) rfl rfl rfl (by decide +kernel) ⟨Nat.le_of_ble_eq_true rfl, Nat.le_of_ble_eq_true rfl⟩) ⟨fun a U g mk q => by obtain ⟨q0, q1, qP, qK, qD⟩ := q; exact ⟨q0, q1, qP, va_K.moved (u := U) (U := U.calling g mk a) (Vm.Alike.refl U.vm) qK, qD⟩, va_recv hK hPc (ci := 2) (q0 := 0) rfl rfl, fun U hU hW => ⟨rfl, by rw [hU], by rw [hU]; exact hPc, va_K.moved hW.alike hK, hDc.weaken (fun _ _ _ _ => trivial)⟩⟩ rfl rfl hl.1 rfl (lv_room (Nat.le_of_ble_eq_true rfl)) d_U_turnsLeft_36 ⟨Nat.le_of_ble_eq_true rfl, Nat.le_of_ble_eq_true rfl⟩) hS (fun q _ h => hFc q h) hFc (fun r36 u36 t H1 locs ht hvm hw hB hz1 hk1 hS => ?_)
    cases u36
    obtain ⟨hP1, -, hD1⟩ := hB
    rw [ht] at hP1
    have h := h r36 hw
    obtain ⟨hP, hD⟩ := va_join (wr := []) (w1 := (cw_U_insideRound cB a_this a_picture a_picture_colours a_xs a_ys a_begins a_layers a_areas a_walked n_picture_colours c_count c_traced c_picture_width c_picture_height f_picture_colours)) hP hD [0, 1, 2] [] rfl rfl (by decide) (by decide) hk1 hFc hP1 hD1
    clear hP1 hD1 hk1 hPc hDc hFc
    generalize H1 = H at hP hS ⊢
    have hP : va_P (dC, dI) vwCl (cw_U_turnsLeft cB a_this a_picture a_picture_colours a_xs a_ys a_begins a_layers a_areas a_walked n_picture_colours c_count c_traced c_picture_width c_picture_height f_picture_colours) H := hP.sub [0, 1, 2] rfl
    have hD : va_D A (cw_U_turnsLeft cB a_this a_picture a_picture_colours a_xs a_ys a_begins a_layers a_areas a_walked n_picture_colours c_count c_traced c_picture_width c_picture_height f_picture_colours) := hD.sub [0, 1, 2] (by decide) rfl
    refine lv_bipush (v := 8) hx hb d_U_turnsLeft_39 (by decide) ?_
    refine lv_icmp_gt (tgt := 48) hx hb d_U_turnsLeft_41 (by decide) (fun cc_ => ?_) (fun cc_ => ?_)
    · have h := h.1 cc_
      refine lv_iconst (v := 0) hx hb d_U_turnsLeft_48 (by decide) ?_
      subst hQf
      exact W.zret (v := (0 : Int32)) hx hb hr (by rfl) (fun t ht hW => ⟨⟨(0 : Int32), (), rfl, h, by rw [ht]; exact hP, va_K.moved hW.alike hK, hD⟩, hS.F ht⟩) hS.2.2 d_U_turnsLeft_49
    · have h := h.2 cc_
      refine lv_iconst (v := 1) hx hb d_U_turnsLeft_44 (by decide) ?_
      refine lv_goto (tgt := 49) hx hb d_U_turnsLeft_45 (by decide) ?_
      subst hQf
      exact W.zret (v := (1 : Int32)) hx hb hr (by rfl) (fun t ht hW => ⟨⟨(1 : Int32), (), rfl, h, by rw [ht]; exact hP, va_K.moved hW.alike hK, hD⟩, hS.F ht⟩) hS.2.2 d_U_turnsLeft_49
  have h := h.2.2.2 q2_0 q2_1 q2_2
  have n2_0 := lv_neT q2_0 (a := 0) (by decide)
  have n2_1 := lv_neT q2_1 (a := 1) (by decide)
  have n2_2 := lv_neT q2_2 (a := 2) (by decide)
  refine lv_tableOut (tgt := 50) hx hb d_U_turnsLeft_2 (by omega) (by decide) ?_
  refine lv_iload_n hx hb d_U_turnsLeft_50 rfl (lv_at hl 1 rfl) ?_
  refine lv_iload_n hx hb d_U_turnsLeft_51 rfl (lv_at hl 2 rfl) ?_
  refine lv_iadd hx hb d_U_turnsLeft_52 ?_
  refine lv_iconst (v := 1) hx hb d_U_turnsLeft_53 (by decide) ?_
  refine lv_iand hx hb d_U_turnsLeft_54 ?_
  refine lv_if_ne (tgt := 62) hx hb d_U_turnsLeft_55 (by decide) (fun cc_ => ?_) (fun cc_ => ?_)
  · have h := h.1 cc_
    refine lv_iconst (v := 0) hx hb d_U_turnsLeft_62 (by decide) ?_
    subst hQf
    exact W.zret (v := (0 : Int32)) hx hb hr (by rfl) (fun t ht hW => ⟨⟨(0 : Int32), (), rfl, h, by rw [ht]; exact hP, va_K.moved hW.alike hK, hD⟩, hS.F ht⟩) hS.2.2 d_U_turnsLeft_63
  · have h := h.2 cc_
    refine lv_iconst (v := 1) hx hb d_U_turnsLeft_58 (by decide) ?_
    refine lv_goto (tgt := 63) hx hb d_U_turnsLeft_59 (by decide) ?_
    subst hQf
    exact W.zret (v := (1 : Int32)) hx hb hr (by rfl) (fun t ht hW => ⟨⟨(1 : Int32), (), rfl, h, by rw [ht]; exact hP, va_K.moved hW.alike hK, hD⟩, hS.F ht⟩) hS.2.2 d_U_turnsLeft_63
def wp_U_directionFrom_J106 (n_picture_colours : Nat) (c_picture_width : Int32) (c_picture_height : Int32) (f_picture_colours : Nat → Int32) (x7 : Int32) (post : Int32 → Unit → Prop) : Prop :=
  post x7 ()
def wp_U_directionFrom (n_picture_colours : Nat) (c_picture_width : Int32) (c_picture_height : Int32) (f_picture_colours : Nat → Int32) (x1 : Int32) (x2 : Int32) (x3 : Int32) (x4 : Int32) (x5 : Int32) (post : Int32 → Unit → Prop) : Prop :=
  ∀ x6_5 : Int32, x6_5 = ((x3 + (3 : Int32)) &&& (3 : Int32)) → ∀ x7_12 : Int32, x7_12 = ((x3 + (1 : Int32)) &&& (3 : Int32)) → vp_in x3 4 ∧ vp_in x3 4 ∧ ∃ Q34 : Int32 → Unit → Prop, wp_P_isInside n_picture_colours c_picture_width c_picture_height f_picture_colours (x1 + (tb_AHEAD_X x3.toNatClampNeg)) (x2 + (tb_AHEAD_Y x3.toNatClampNeg)) x4 Q34 ∧ ∀ (r34 : Int32), Q34 r34 () → vp_in x6_5 4 ∧ vp_in x6_5 4 ∧ ∃ Q61 : Int32 → Unit → Prop, wp_P_isInside n_picture_colours c_picture_width c_picture_height f_picture_colours (x1 + (tb_AHEAD_X x6_5.toNatClampNeg)) (x2 + (tb_AHEAD_Y x6_5.toNatClampNeg)) x4 Q61 ∧ ∀ (r61 : Int32), Q61 r61 () → (r34 = 0 → (r61 = 0 → wp_U_directionFrom_J106 n_picture_colours c_picture_width c_picture_height f_picture_colours x7_12 post) ∧ (¬ r61 = 0 → ∃ Q95 : Int32 → Unit → Prop, wp_U_turnsLeft n_picture_colours c_picture_width c_picture_height f_picture_colours x1 x2 x4 x5 Q95 ∧ ∀ (r95 : Int32), Q95 r95 () → (r95 = 0 → wp_U_directionFrom_J106 n_picture_colours c_picture_width c_picture_height f_picture_colours x7_12 post) ∧ (¬ r95 = 0 → post x6_5 ()))) ∧ (¬ r34 = 0 → (r61 = 0 → post x3 ()) ∧ (¬ r61 = 0 → post x6_5 ()))
abbrev cw_U_directionFrom (cB : ClassId) (a_this a_picture a_picture_colours a_xs a_ys a_begins a_layers a_areas a_walked : Nat) (n_picture_colours : Nat) (c_count : Int32) (c_traced : Int32) (c_picture_width : Int32) (c_picture_height : Int32) (f_picture_colours : Nat → Int32) : va_W := [(a_this, .inr (2, [.ref a_picture, .ref a_xs, .ref a_ys, .ref a_begins, .ref a_layers, .ref a_areas, .ref a_walked, .int c_count, .int c_traced])), (a_picture, .inr (1, [.int c_picture_width, .int c_picture_height, .ref a_picture_colours])), (a_picture_colours, .inl (cB, n_picture_colours, .inl f_picture_colours))]
abbrev qq_U_directionFrom (dC : Nat → ClassId) (dI : Nat → Nat → Nat) (cI cB cJ cZ : ClassId) (a_this a_picture a_picture_colours a_xs a_ys a_begins a_layers a_areas a_walked : Nat) (n_picture_colours : Nat) (c_count : Int32) (c_traced : Int32) (c_picture_width : Int32) (c_picture_height : Int32) (f_picture_colours : Nat → Int32) (A : Nat → Prop) (post : Int32 → Unit → Prop) : Array Value → State → Outcome → State → Prop := va_Qi post (fun _ t => va_P (dC, dI) vwCl (cw_U_directionFrom cB a_this a_picture a_picture_colours a_xs a_ys a_begins a_layers a_areas a_walked n_picture_colours c_count c_traced c_picture_width c_picture_height f_picture_colours) t.heap ∧ va_K (dC, dI) vwCl [(cI, .int), (cB, .byte), (cJ, .long), (cZ, .boolean)] t ∧ va_D A (cw_U_directionFrom cB a_this a_picture a_picture_colours a_xs a_ys a_begins a_layers a_areas a_walked n_picture_colours c_count c_traced c_picture_width c_picture_height f_picture_colours)) A
set_option maxHeartbeats 4000000 in
set_option maxRecDepth 100000 in
theorem c_U_directionFrom (l : Launch) (dC : Nat → ClassId) (dI : Nat → Nat → Nat) (cI cB cJ cZ : ClassId) (a_this a_picture a_picture_colours a_xs a_ys a_begins a_layers a_areas a_walked : Nat) (t_AHEAD_X : Nat) (t_AHEAD_Y : Nat) (sz : Nat) (n_picture_colours : Nat) (c_count : Int32) (c_traced : Int32) (c_picture_width : Int32) (c_picture_height : Int32) (f_picture_colours : Nat → Int32) (x1 : Int32) (x2 : Int32) (x3 : Int32) (x4 : Int32) (x5 : Int32) (post : Int32 → Unit → Prop) (h : wp_U_directionFrom n_picture_colours c_picture_width c_picture_height f_picture_colours x1 x2 x3 x4 x5 post) : Met l y_U_directionFrom w_U_directionFrom ({ frames := 4, cells := 0, slots := 0, locals := 95 }) (va_Pc [.ref a_this, .int x1, .int x2, .int x3, .int x4, .int x5] (fun U => U.heap.size = sz ∧ va_P (dC, dI) vwCl (cw_U_directionFrom cB a_this a_picture a_picture_colours a_xs a_ys a_begins a_layers a_areas a_walked n_picture_colours c_count c_traced c_picture_width c_picture_height f_picture_colours) U.heap ∧ va_K (dC, dI) vwCl [(cI, .int), (cB, .byte), (cJ, .long), (cZ, .boolean)] U ∧ va_D (fun _ => True) (cw_U_directionFrom cB a_this a_picture a_picture_colours a_xs a_ys a_begins a_layers a_areas a_walked n_picture_colours c_count c_traced c_picture_width c_picture_height f_picture_colours) ∧ va_Z "OutlineCurves$Outlines" "AHEAD_X" "[I" (.ref t_AHEAD_X) (va_A (cw_U_directionFrom cB a_this a_picture a_picture_colours a_xs a_ys a_begins a_layers a_areas a_walked n_picture_colours c_count c_traced c_picture_width c_picture_height f_picture_colours) sz) U U.heap ∧ va_T .int t_AHEAD_X 4 (fun j => .int (tb_AHEAD_X j)) (va_A (cw_U_directionFrom cB a_this a_picture a_picture_colours a_xs a_ys a_begins a_layers a_areas a_walked n_picture_colours c_count c_traced c_picture_width c_picture_height f_picture_colours) sz) U U.heap ∧ va_Z "OutlineCurves$Outlines" "AHEAD_Y" "[I" (.ref t_AHEAD_Y) (va_A (cw_U_directionFrom cB a_this a_picture a_picture_colours a_xs a_ys a_begins a_layers a_areas a_walked n_picture_colours c_count c_traced c_picture_width c_picture_height f_picture_colours) sz) U U.heap ∧ va_T .int t_AHEAD_Y 4 (fun j => .int (tb_AHEAD_Y j)) (va_A (cw_U_directionFrom cB a_this a_picture a_picture_colours a_xs a_ys a_begins a_layers a_areas a_walked n_picture_colours c_count c_traced c_picture_width c_picture_height f_picture_colours) sz) U U.heap)) (qq_U_directionFrom dC dI cI cB cJ cZ a_this a_picture a_picture_colours a_xs a_ys a_begins a_layers a_areas a_walked n_picture_colours c_count c_traced c_picture_width c_picture_height f_picture_colours (va_A (cw_U_directionFrom cB a_this a_picture a_picture_colours a_xs a_ys a_begins a_layers a_areas a_walked n_picture_colours c_count c_traced c_picture_width c_picture_height f_picture_colours) sz) post) 0 0 (va_A (cw_U_directionFrom cB a_this a_picture a_picture_colours a_xs a_ys a_begins a_layers a_areas a_walked n_picture_colours c_count c_traced c_picture_width c_picture_height f_picture_colours) sz) := by
  refine Met.ofW (cc := b_U_directionFrom) (maxL := 10) (ret := (some .int)) (by decide +kernel) rfl ?_
  intro p e s m args below meth c s₁ B hml hv
  obtain ⟨rfl, hsz, hP, hK, hD0, hZ0, hT0, hZ1, hT1⟩ := hv
  have hx := B.exec
  have hb := B.bytes
  have hr := B.returns
  have hts : ∀ w ∈ allW, w.before _ s = true := fun w hw => atoms_spec (ws := w_U_directionFrom) B.pre w (List.mem_cons_of_mem _ hw)
  have hown : s.vm.findClass R_U = some m.cls := findClass_of_methodNamed B.named
  have hlocks := B.notSynchronized
  subst hsz
  have hD := hD0.self (sz := s.heap.size)
  generalize hAe : va_A (cw_U_directionFrom cB a_this a_picture a_picture_colours a_xs a_ys a_begins a_layers a_areas a_walked n_picture_colours c_count c_traced c_picture_width c_picture_height f_picture_colours) s.heap.size = A at hD hZ0 hT0 hZ1 hT1 ⊢
  have hA : ∀ q : Nat, s.heap.size ≤ q → A q := fun q h => by rw [← hAe]; exact Or.inr h
  have hS : va_S A s.heap s.heap [] := va_S.rf
  clear hD0
  generalize hQf : MQ below (qq_U_directionFrom dC dI cI cB cJ cZ a_this a_picture a_picture_colours a_xs a_ys a_begins a_layers a_areas a_walked n_picture_colours c_count c_traced c_picture_width c_picture_height f_picture_colours A post) ([.ref a_this, .int x1, .int x2, .int x3, .int x4, .int x5] : List Value).toArray s 0 0 A = Qf
  have hl := lv_entry ([.ref a_this, .int x1, .int x2, .int x3, .int x4, .int x5]) (n := 10) (Nat.le_of_ble_eq_true rfl)
  rw [lg_entry_eq]
  generalize (lg_sl ([.ref a_this, .int x1, .int x2, .int x3, .int x4, .int x5]) ++ List.replicate (10 - (lg_sl ([.ref a_this, .int x1, .int x2, .int x3, .int x4, .int x5])).length) Slot.unset).toArray = ls at hl ⊢
  have hl : lv_has ls 10 [(0, .ref a_this), (1, .int x1), (2, .int x2), (3, .int x3), (4, .int x4), (5, .int x5)] := hl
  unfold wp_U_directionFrom at h
  have J106 : ∀ (x7_j106 : Int32) (H : Heap) (locs : List Loc) (ls : Array Slot), wp_U_directionFrom_J106 n_picture_colours c_picture_width c_picture_height f_picture_colours x7_j106 post → va_P (dC, dI) vwCl (cw_U_directionFrom cB a_this a_picture a_picture_colours a_xs a_ys a_begins a_layers a_areas a_walked n_picture_colours c_count c_traced c_picture_width c_picture_height f_picture_colours) H → va_D A (cw_U_directionFrom cB a_this a_picture a_picture_colours a_xs a_ys a_begins a_layers a_areas a_walked n_picture_colours c_count c_traced c_picture_width c_picture_height f_picture_colours) → va_S A s.heap H locs → lv_has ls 10 [(7, .int x7_j106)] → W p l e (headSpec w_U_directionFrom ({ frames := 4, cells := 0, slots := 0, locals := 95 })).room s m ([.ref a_this, .int x1, .int x2, .int x3, .int x4, .int x5] : List Value).toArray below meth c H locs 0 0 Qf (F0 m 106 ls []) := by
    intro x7_j106 H locs ls h hP hD hS hl
    unfold wp_U_directionFrom_J106 at h
    refine lv_iload hx hb d_U_directionFrom_106 (lv_at hl 0 rfl) ?_
    subst hQf
    exact W.iret (v := x7_j106) hx hb hr (fun t ht hW => ⟨⟨x7_j106, (), rfl, h, by rw [ht]; exact hP, va_K.moved hW.alike hK, hD⟩, hS.F ht⟩) hS.2.2 d_U_directionFrom_108
  refine lv_iload_n hx hb d_U_directionFrom_0 rfl (lv_at hl 3 rfl) ?_
  refine lv_iconst (v := 3) hx hb d_U_directionFrom_1 (by decide) ?_
  refine lv_iadd hx hb d_U_directionFrom_2 ?_
  refine lv_iconst (v := 3) hx hb d_U_directionFrom_3 (by decide) ?_
  refine lv_iand hx hb d_U_directionFrom_4 ?_
  refine lv_topi (fun x6_5 e_x6_5 => ?_)
  have h := h x6_5 e_x6_5
  refine lv_istore (lv' := [(6, .int x6_5), (0, .ref a_this), (1, .int x1), (2, .int x2), (3, .int x3), (4, .int x4), (5, .int x5)]) hx hb d_U_directionFrom_5 hl (by decide) rfl (fun ls hl => ?_)
  refine lv_iload_n hx hb d_U_directionFrom_7 rfl (lv_at hl 4 rfl) ?_
  refine lv_iconst (v := 1) hx hb d_U_directionFrom_8 (by decide) ?_
  refine lv_iadd hx hb d_U_directionFrom_9 ?_
  refine lv_iconst (v := 3) hx hb d_U_directionFrom_10 (by decide) ?_
  refine lv_iand hx hb d_U_directionFrom_11 ?_
  refine lv_topi (fun x7_12 e_x7_12 => ?_)
  have h := h x7_12 e_x7_12
  refine lv_istore (lv' := [(7, .int x7_12), (6, .int x6_5), (0, .ref a_this), (1, .int x1), (2, .int x2), (3, .int x3), (4, .int x4), (5, .int x5)]) hx hb d_U_directionFrom_12 hl (by decide) rfl (fun ls hl => ?_)
  refine lv_aload_n hx hb d_U_directionFrom_14 rfl (lv_at hl 2 rfl) ?_
  refine va_get (D := (dC, dI)) (ci := 2) (v := .ref a_picture) (C := R_U) (T := F_U) (N := 9) hx hb hts i_U_in hown hK hP 0 rfl rfl 0 (by decide) (hts _ q_61) (fun _ h9 => h9) rfl d_U_directionFrom_15 ?_
  refine lv_iload_n hx hb d_U_directionFrom_18 rfl (lv_at hl 3 rfl) ?_
  refine va_gets hx hb hZ0 hS hown (hts _ q_387) (fun _ h9 => h9) d_U_directionFrom_19 ?_
  refine lv_iload_n hx hb d_U_directionFrom_22 rfl (lv_at hl 5 rfl) ?_
  obtain ⟨hin, h⟩ := h
  refine va_ti hx hb hT0 hS hin rfl d_U_directionFrom_23 ?_
  refine lv_iadd hx hb d_U_directionFrom_24 ?_
  refine lv_iload_n hx hb d_U_directionFrom_25 rfl (lv_at hl 4 rfl) ?_
  refine va_gets hx hb hZ1 hS hown (hts _ q_389) (fun _ h9 => h9) d_U_directionFrom_26 ?_
  refine lv_iload_n hx hb d_U_directionFrom_29 rfl (lv_at hl 5 rfl) ?_
  obtain ⟨hin, h⟩ := h
  refine va_ti hx hb hT1 hS hin rfl d_U_directionFrom_30 ?_
  refine lv_iadd hx hb d_U_directionFrom_31 ?_
  refine lv_iload hx hb d_U_directionFrom_32 (lv_at hl 6 rfl) ?_
  obtain ⟨Q34, hq34, h⟩ := h
  have hPc := hP.sub (ws' := (cw_P_isInside cB a_picture a_picture_colours n_picture_colours c_picture_width c_picture_height f_picture_colours)) [1, 2] rfl
  have hDc := hD.sub (ws' := (cw_P_isInside cB a_picture a_picture_colours n_picture_colours c_picture_width c_picture_height f_picture_colours)) [1, 2] (by decide) rfl
  have hFc := va_free (wc := (cw_P_isInside cB a_picture a_picture_colours n_picture_colours c_picture_width c_picture_height f_picture_colours)) hD hS hA [1, 2] rfl
  refine va_calli (va_runV (As := [.int (x1 + (tb_AHEAD_X x3.toNatClampNeg)), .int (x2 + (tb_AHEAD_Y x3.toNatClampNeg)), .int x4]) (rest := []) ⟨hx, hb, hml, hown, hts⟩ (c_P_isInside l dC dI cI cB cJ cZ a_picture a_picture_colours s.heap.size n_picture_colours c_picture_width c_picture_height f_picture_colours (x1 + (tb_AHEAD_X x3.toNatClampNeg)) (x2 + (tb_AHEAD_Y x3.toNatClampNeg)) x4 Q34 hq34) (cwV 3 hts (goodV q_369 q_370 q_371 q_2 q_372) rfl rfl rfl (by decide +kernel) ⟨Nat.le_of_ble_eq_true rfl, Nat.le_of_ble_eq_true rfl⟩) ⟨fun a U g mk q => by obtain ⟨q0, q1, qP, qK, qD⟩ := q; exact ⟨q0, q1, qP, va_K.moved (u := U) (U := U.calling g mk a) (Vm.Alike.refl U.vm) qK, qD⟩, va_recv hK hPc (ci := 1) (q0 := 0) rfl rfl, fun U hU hW => ⟨rfl, by rw [hU], by rw [hU]; exact hPc, va_K.moved hW.alike hK, hDc.weaken (fun _ _ _ _ => trivial)⟩⟩ rfl rfl hl.1 rfl (lv_room (Nat.le_of_ble_eq_true rfl)) d_U_directionFrom_34 ⟨Nat.le_of_ble_eq_true rfl, Nat.le_of_ble_eq_true rfl⟩) hS (fun q _ h => hFc q h) hFc (fun r34 u34 t H1 locs ht hvm hw hB hz1 hk1 hS => ?_)
  cases u34
  obtain ⟨hP1, -, hD1⟩ := hB
  rw [ht] at hP1
  have h := h r34 hw
  obtain ⟨hP, hD⟩ := va_join (wr := [(a_this, .inr (2, [.ref a_picture, .ref a_xs, .ref a_ys, .ref a_begins, .ref a_layers, .ref a_areas, .ref a_walked, .int c_count, .int c_traced]))]) (w1 := (cw_P_isInside cB a_picture a_picture_colours n_picture_colours c_picture_width c_picture_height f_picture_colours)) hP hD [1, 2] [0] rfl rfl (by decide) (by decide) hk1 hFc hP1 hD1
  clear hP1 hD1 hk1 hPc hDc hFc
  generalize H1 = H at hP hS ⊢
  have hP : va_P (dC, dI) vwCl (cw_U_directionFrom cB a_this a_picture a_picture_colours a_xs a_ys a_begins a_layers a_areas a_walked n_picture_colours c_count c_traced c_picture_width c_picture_height f_picture_colours) H := hP.sub [0, 1, 2] rfl
  have hD : va_D A (cw_U_directionFrom cB a_this a_picture a_picture_colours a_xs a_ys a_begins a_layers a_areas a_walked n_picture_colours c_count c_traced c_picture_width c_picture_height f_picture_colours) := hD.sub [0, 1, 2] (by decide) rfl
  refine lv_istore (lv' := [(8, .int r34), (7, .int x7_12), (6, .int x6_5), (0, .ref a_this), (1, .int x1), (2, .int x2), (3, .int x3), (4, .int x4), (5, .int x5)]) hx hb d_U_directionFrom_37 hl (by decide) rfl (fun ls hl => ?_)
  refine lv_aload_n hx hb d_U_directionFrom_39 rfl (lv_at hl 3 rfl) ?_
  refine va_get (D := (dC, dI)) (ci := 2) (v := .ref a_picture) (C := R_U) (T := F_U) (N := 9) hx hb hts i_U_in hown hK hP 0 rfl rfl 0 (by decide) (hts _ q_61) (fun _ h9 => h9) rfl d_U_directionFrom_40 ?_
  refine lv_iload_n hx hb d_U_directionFrom_43 rfl (lv_at hl 4 rfl) ?_
  refine va_gets hx hb hZ0 hS hown (hts _ q_387) (fun _ h9 => h9) d_U_directionFrom_44 ?_
  refine lv_iload hx hb d_U_directionFrom_47 (lv_at hl 2 rfl) ?_
  obtain ⟨hin, h⟩ := h
  refine va_ti hx hb hT0 hS hin rfl d_U_directionFrom_49 ?_
  refine lv_iadd hx hb d_U_directionFrom_50 ?_
  refine lv_iload_n hx hb d_U_directionFrom_51 rfl (lv_at hl 5 rfl) ?_
  refine va_gets hx hb hZ1 hS hown (hts _ q_389) (fun _ h9 => h9) d_U_directionFrom_52 ?_
  refine lv_iload hx hb d_U_directionFrom_55 (lv_at hl 2 rfl) ?_
  obtain ⟨hin, h⟩ := h
  refine va_ti hx hb hT1 hS hin rfl d_U_directionFrom_57 ?_
  refine lv_iadd hx hb d_U_directionFrom_58 ?_
  refine lv_iload hx hb d_U_directionFrom_59 (lv_at hl 7 rfl) ?_
  obtain ⟨Q61, hq61, h⟩ := h
  have hPc := hP.sub (ws' := (cw_P_isInside cB a_picture a_picture_colours n_picture_colours c_picture_width c_picture_height f_picture_colours)) [1, 2] rfl
  have hDc := hD.sub (ws' := (cw_P_isInside cB a_picture a_picture_colours n_picture_colours c_picture_width c_picture_height f_picture_colours)) [1, 2] (by decide) rfl
  have hFc := va_free (wc := (cw_P_isInside cB a_picture a_picture_colours n_picture_colours c_picture_width c_picture_height f_picture_colours)) hD hS hA [1, 2] rfl
  refine va_calli (va_runV (As := [.int (x1 + (tb_AHEAD_X x6_5.toNatClampNeg)), .int (x2 + (tb_AHEAD_Y x6_5.toNatClampNeg)), .int x4]) (rest := []) ⟨hx, hb, hml, hown, hts⟩ (c_P_isInside l dC dI cI cB cJ cZ a_picture a_picture_colours H.size n_picture_colours c_picture_width c_picture_height f_picture_colours (x1 + (tb_AHEAD_X x6_5.toNatClampNeg)) (x2 + (tb_AHEAD_Y x6_5.toNatClampNeg)) x4 Q61 hq61) (cwV 3 hts (goodV q_369 q_370 q_371 q_2 q_372) rfl rfl rfl (by decide +kernel) ⟨Nat.le_of_ble_eq_true rfl, Nat.le_of_ble_eq_true rfl⟩) ⟨fun a U g mk q => by obtain ⟨q0, q1, qP, qK, qD⟩ := q; exact ⟨q0, q1, qP, va_K.moved (u := U) (U := U.calling g mk a) (Vm.Alike.refl U.vm) qK, qD⟩, va_recv hK hPc (ci := 1) (q0 := 0) rfl rfl, fun U hU hW => ⟨rfl, by rw [hU], by rw [hU]; exact hPc, va_K.moved hW.alike hK, hDc.weaken (fun _ _ _ _ => trivial)⟩⟩ rfl rfl hl.1 rfl (lv_room (Nat.le_of_ble_eq_true rfl)) d_U_directionFrom_61 ⟨Nat.le_of_ble_eq_true rfl, Nat.le_of_ble_eq_true rfl⟩) hS (fun q _ h => hFc q h) hFc (fun r61 u61 t H1 locs ht hvm hw hB hz1 hk1 hS => ?_)
  cases u61
  obtain ⟨hP1, -, hD1⟩ := hB
  rw [ht] at hP1
  have h := h r61 hw
  obtain ⟨hP, hD⟩ := va_join (wr := [(a_this, .inr (2, [.ref a_picture, .ref a_xs, .ref a_ys, .ref a_begins, .ref a_layers, .ref a_areas, .ref a_walked, .int c_count, .int c_traced]))]) (w1 := (cw_P_isInside cB a_picture a_picture_colours n_picture_colours c_picture_width c_picture_height f_picture_colours)) hP hD [1, 2] [0] rfl rfl (by decide) (by decide) hk1 hFc hP1 hD1
  clear hP1 hD1 hk1 hPc hDc hFc
  generalize H1 = H at hP hS ⊢
  have hP : va_P (dC, dI) vwCl (cw_U_directionFrom cB a_this a_picture a_picture_colours a_xs a_ys a_begins a_layers a_areas a_walked n_picture_colours c_count c_traced c_picture_width c_picture_height f_picture_colours) H := hP.sub [0, 1, 2] rfl
  have hD : va_D A (cw_U_directionFrom cB a_this a_picture a_picture_colours a_xs a_ys a_begins a_layers a_areas a_walked n_picture_colours c_count c_traced c_picture_width c_picture_height f_picture_colours) := hD.sub [0, 1, 2] (by decide) rfl
  refine lv_istore (lv' := [(9, .int r61), (8, .int r34), (7, .int x7_12), (6, .int x6_5), (0, .ref a_this), (1, .int x1), (2, .int x2), (3, .int x3), (4, .int x4), (5, .int x5)]) hx hb d_U_directionFrom_64 hl (by decide) rfl (fun ls hl => ?_)
  refine lv_iload hx hb d_U_directionFrom_66 (lv_at hl 1 rfl) ?_
  refine lv_if_eq (tgt := 83) hx hb d_U_directionFrom_68 (by decide) (fun cc_ => ?_) (fun cc_ => ?_)
  · have h := h.1 cc_
    refine lv_iload hx hb d_U_directionFrom_83 (lv_at hl 0 rfl) ?_
    refine lv_if_eq (tgt := 106) hx hb d_U_directionFrom_85 (by decide) (fun cc_ => ?_) (fun cc_ => ?_)
    · have h := h.1 cc_
      exact J106 x7_12 _ _ _ h hP hD hS (lv_sub hl [2] rfl)
    · have h := h.2 cc_
      refine lv_aload_n hx hb d_U_directionFrom_88 rfl (lv_at hl 4 rfl) ?_
      refine lv_iload_n hx hb d_U_directionFrom_89 rfl (lv_at hl 5 rfl) ?_
      refine lv_iload_n hx hb d_U_directionFrom_90 rfl (lv_at hl 6 rfl) ?_
      refine lv_iload hx hb d_U_directionFrom_91 (lv_at hl 8 rfl) ?_
      refine lv_iload hx hb d_U_directionFrom_93 (lv_at hl 9 rfl) ?_
      obtain ⟨Q95, hq95, h⟩ := h
      have hPc := hP.sub (ws' := (cw_U_turnsLeft cB a_this a_picture a_picture_colours a_xs a_ys a_begins a_layers a_areas a_walked n_picture_colours c_count c_traced c_picture_width c_picture_height f_picture_colours)) [0, 1, 2] rfl
      have hDc := hD.sub (ws' := (cw_U_turnsLeft cB a_this a_picture a_picture_colours a_xs a_ys a_begins a_layers a_areas a_walked n_picture_colours c_count c_traced c_picture_width c_picture_height f_picture_colours)) [0, 1, 2] (by decide) rfl
      have hFc := va_free (wc := (cw_U_turnsLeft cB a_this a_picture a_picture_colours a_xs a_ys a_begins a_layers a_areas a_walked n_picture_colours c_count c_traced c_picture_width c_picture_height f_picture_colours)) hD hS hA [0, 1, 2] rfl
      refine va_calli (va_runV (As := [.int x1, .int x2, .int x4, .int x5]) (rest := []) ⟨hx, hb, hml, hown, hts⟩ (c_U_turnsLeft l dC dI cI cB cJ cZ a_this a_picture a_picture_colours a_xs a_ys a_begins a_layers a_areas a_walked H.size n_picture_colours c_count c_traced c_picture_width c_picture_height f_picture_colours x1 x2 x4 x5 Q95 hq95) (cwV 4 hts (goodV q_391 q_393 q_p6 q_4 q_394) rfl rfl rfl (by decide +kernel) ⟨Nat.le_of_ble_eq_true rfl, Nat.le_of_ble_eq_true rfl⟩) ⟨fun a U g mk q => by obtain ⟨q0, q1, qP, qK, qD⟩ := q; exact ⟨q0, q1, qP, va_K.moved (u := U) (U := U.calling g mk a) (Vm.Alike.refl U.vm) qK, qD⟩, va_recv hK hPc (ci := 2) (q0 := 0) rfl rfl, fun U hU hW => ⟨rfl, by rw [hU], by rw [hU]; exact hPc, va_K.moved hW.alike hK, hDc.weaken (fun _ _ _ _ => trivial)⟩⟩ rfl rfl hl.1 rfl (lv_room (Nat.le_of_ble_eq_true rfl)) d_U_directionFrom_95 ⟨Nat.le_of_ble_eq_true rfl, Nat.le_of_ble_eq_true rfl⟩) hS (fun q _ h => hFc q h) hFc (fun r95 u95 t H1 locs ht hvm hw hB hz1 hk1 hS => ?_)
      cases u95
      obtain ⟨hP1, -, hD1⟩ := hB
      rw [ht] at hP1
      have h := h r95 hw
      obtain ⟨hP, hD⟩ := va_join (wr := []) (w1 := (cw_U_turnsLeft cB a_this a_picture a_picture_colours a_xs a_ys a_begins a_layers a_areas a_walked n_picture_colours c_count c_traced c_picture_width c_picture_height f_picture_colours)) hP hD [0, 1, 2] [] rfl rfl (by decide) (by decide) hk1 hFc hP1 hD1
      clear hP1 hD1 hk1 hPc hDc hFc
      generalize H1 = H at hP hS ⊢
      have hP : va_P (dC, dI) vwCl (cw_U_directionFrom cB a_this a_picture a_picture_colours a_xs a_ys a_begins a_layers a_areas a_walked n_picture_colours c_count c_traced c_picture_width c_picture_height f_picture_colours) H := hP.sub [0, 1, 2] rfl
      have hD : va_D A (cw_U_directionFrom cB a_this a_picture a_picture_colours a_xs a_ys a_begins a_layers a_areas a_walked n_picture_colours c_count c_traced c_picture_width c_picture_height f_picture_colours) := hD.sub [0, 1, 2] (by decide) rfl
      refine lv_if_eq (tgt := 106) hx hb d_U_directionFrom_98 (by decide) (fun cc_ => ?_) (fun cc_ => ?_)
      · have h := h.1 cc_
        exact J106 x7_12 _ _ _ h hP hD hS (lv_sub hl [2] rfl)
      · have h := h.2 cc_
        refine lv_iload hx hb d_U_directionFrom_101 (lv_at hl 3 rfl) ?_
        refine lv_goto (tgt := 108) hx hb d_U_directionFrom_103 (by decide) ?_
        subst hQf
        exact W.iret (v := x6_5) hx hb hr (fun t ht hW => ⟨⟨x6_5, (), rfl, h, by rw [ht]; exact hP, va_K.moved hW.alike hK, hD⟩, hS.F ht⟩) hS.2.2 d_U_directionFrom_108
  · have h := h.2 cc_
    refine lv_iload hx hb d_U_directionFrom_71 (lv_at hl 0 rfl) ?_
    refine lv_if_eq (tgt := 81) hx hb d_U_directionFrom_73 (by decide) (fun cc_ => ?_) (fun cc_ => ?_)
    · have h := h.1 cc_
      refine lv_iload_n hx hb d_U_directionFrom_81 rfl (lv_at hl 7 rfl) ?_
      subst hQf
      exact W.iret (v := x3) hx hb hr (fun t ht hW => ⟨⟨x3, (), rfl, h, by rw [ht]; exact hP, va_K.moved hW.alike hK, hD⟩, hS.F ht⟩) hS.2.2 d_U_directionFrom_82
    · have h := h.2 cc_
      refine lv_iload hx hb d_U_directionFrom_76 (lv_at hl 3 rfl) ?_
      refine lv_goto (tgt := 82) hx hb d_U_directionFrom_78 (by decide) ?_
      subst hQf
      exact W.iret (v := x6_5) hx hb hr (fun t ht hW => ⟨⟨x6_5, (), rfl, h, by rw [ht]; exact hP, va_K.moved hW.alike hK, hD⟩, hS.F ht⟩) hS.2.2 d_U_directionFrom_82
def wp_U_walk_J189 (n_begins n_layers n_areas n_xs n_ys n_picture_colours n_walked : Nat) (c_count : Int32) (c_picture_width : Int32) (c_picture_height : Int32) (f_picture_colours : Nat → Int32) (f_begins : Nat → Int32) (f_layers : Nat → Int32) (f_areas : Nat → Int32) (f_xs : Nat → Int32) (f_ys : Nat → Int32) (f_walked : Nat → Int32) (x3 : Int32) (x5 : Int32) (x9 : Int32) (post : ((Nat → Int32) × (Nat → Int32) × (Nat → Int32) × (Nat → Int32) × (Nat → Int32) × (Nat → Int32)) → Prop) : Prop :=
  vp_in c_count n_layers ∧ ∀ f199 : Nat → Int32, f199 = upd f_layers c_count.toNatClampNeg (vp_nar .byte (x3.toInt8.toInt32)) → vp_in c_count n_areas ∧ ∀ f210 : Nat → Int32, f210 = upd f_areas c_count.toNatClampNeg x5 → vp_in (c_count + (1 : Int32)) n_begins ∧ ∀ f223 : Nat → Int32, f223 = upd f_begins (c_count + (1 : Int32)).toNatClampNeg x9 → post (f223, f199, f210, f_xs, f_ys, f_walked)
def wp_U_walk_J184 (n_begins n_layers n_areas n_xs n_ys n_picture_colours n_walked : Nat) (c_count : Int32) (c_picture_width : Int32) (c_picture_height : Int32) (f_picture_colours : Nat → Int32) (f_begins : Nat → Int32) (f_layers : Nat → Int32) (f_areas : Nat → Int32) (f_xs : Nat → Int32) (f_ys : Nat → Int32) (f_walked : Nat → Int32) (x1 : Int32) (x2 : Int32) (x3 : Int32) (x4 : Int32) (x5 : Int32) (x6 : Int32) (x7 : Int32) (x8 : Int32) (x9 : Int32) (y0 : Int32) (back26 : (Int32 × Int32 × Int32 × Int32 × Int32 × Int32 × (Nat → Int32) × (Nat → Int32) × (Nat → Int32)) → Prop) (post : ((Nat → Int32) × (Nat → Int32) × (Nat → Int32) × (Nat → Int32) × (Nat → Int32) × (Nat → Int32)) → Prop) : Prop :=
  back26 (x5, x6, x7, x8, x9, y0, f_xs, f_ys, f_walked)
def wp_U_walk_J179 (n_begins n_layers n_areas n_xs n_ys n_picture_colours n_walked : Nat) (c_count : Int32) (c_picture_width : Int32) (c_picture_height : Int32) (f_picture_colours : Nat → Int32) (f_begins : Nat → Int32) (f_layers : Nat → Int32) (f_areas : Nat → Int32) (f_xs : Nat → Int32) (f_ys : Nat → Int32) (f_walked : Nat → Int32) (x1 : Int32) (x2 : Int32) (x3 : Int32) (x4 : Int32) (x5 : Int32) (x6 : Int32) (x7 : Int32) (x8 : Int32) (x9 : Int32) (back26 : (Int32 × Int32 × Int32 × Int32 × Int32 × Int32 × (Nat → Int32) × (Nat → Int32) × (Nat → Int32)) → Prop) (post : ((Nat → Int32) × (Nat → Int32) × (Nat → Int32) × (Nat → Int32) × (Nat → Int32) × (Nat → Int32)) → Prop) : Prop :=
  wp_U_walk_J184 n_begins n_layers n_areas n_xs n_ys n_picture_colours n_walked c_count c_picture_width c_picture_height f_picture_colours f_begins f_layers f_areas f_xs f_ys f_walked x1 x2 x3 x4 x5 x6 x7 x8 x9 (1 : Int32) back26 post
def wp_U_walk_J125 (n_begins n_layers n_areas n_xs n_ys n_picture_colours n_walked : Nat) (c_count : Int32) (c_picture_width : Int32) (c_picture_height : Int32) (f_picture_colours : Nat → Int32) (f_begins : Nat → Int32) (f_layers : Nat → Int32) (f_areas : Nat → Int32) (f_xs : Nat → Int32) (f_ys : Nat → Int32) (f_walked : Nat → Int32) (x1 : Int32) (x2 : Int32) (x3 : Int32) (x4 : Int32) (x5 : Int32) (x6 : Int32) (x7 : Int32) (x8 : Int32) (x9 : Int32) (back26 : (Int32 × Int32 × Int32 × Int32 × Int32 × Int32 × (Nat → Int32) × (Nat → Int32) × (Nat → Int32)) → Prop) (post : ((Nat → Int32) × (Nat → Int32) × (Nat → Int32) × (Nat → Int32) × (Nat → Int32) × (Nat → Int32)) → Prop) : Prop :=
  vp_in x8 4 ∧ ∀ x6_134 : Int32, x6_134 = (x6 + (tb_STEP_X x8.toNatClampNeg)) → vp_in x8 4 ∧ ∀ x7_145 : Int32, x7_145 = (x7 + (tb_STEP_Y x8.toNatClampNeg)) → ∃ Q157 : Int32 → Unit → Prop, wp_U_directionFrom n_picture_colours c_picture_width c_picture_height f_picture_colours x6_134 x7_145 x8 x3 x4 Q157 ∧ ∀ (r157 : Int32), Q157 r157 () → (¬ x6_134 = x1 → wp_U_walk_J179 n_begins n_layers n_areas n_xs n_ys n_picture_colours n_walked c_count c_picture_width c_picture_height f_picture_colours f_begins f_layers f_areas f_xs f_ys f_walked x1 x2 x3 x4 x5 x6_134 x7_145 r157 x9 back26 post) ∧ (x6_134 = x1 → (¬ x7_145 = x2 → wp_U_walk_J179 n_begins n_layers n_areas n_xs n_ys n_picture_colours n_walked c_count c_picture_width c_picture_height f_picture_colours f_begins f_layers f_areas f_xs f_ys f_walked x1 x2 x3 x4 x5 x6_134 x7_145 r157 x9 back26 post) ∧ (x7_145 = x2 → (r157 = 0 → wp_U_walk_J184 n_begins n_layers n_areas n_xs n_ys n_picture_colours n_walked c_count c_picture_width c_picture_height f_picture_colours f_begins f_layers f_areas f_xs f_ys f_walked x1 x2 x3 x4 x5 x6_134 x7_145 r157 x9 (0 : Int32) back26 post) ∧ (¬ r157 = 0 → wp_U_walk_J179 n_begins n_layers n_areas n_xs n_ys n_picture_colours n_walked c_count c_picture_width c_picture_height f_picture_colours f_begins f_layers f_areas f_xs f_ys f_walked x1 x2 x3 x4 x5 x6_134 x7_145 r157 x9 back26 post)))
def wp_U_walk_J112 (n_begins n_layers n_areas n_xs n_ys n_picture_colours n_walked : Nat) (c_count : Int32) (c_picture_width : Int32) (c_picture_height : Int32) (f_picture_colours : Nat → Int32) (f_begins : Nat → Int32) (f_layers : Nat → Int32) (f_areas : Nat → Int32) (f_xs : Nat → Int32) (f_ys : Nat → Int32) (f_walked : Nat → Int32) (x1 : Int32) (x2 : Int32) (x3 : Int32) (x4 : Int32) (x5 : Int32) (x6 : Int32) (x7 : Int32) (x8 : Int32) (x9 : Int32) (back26 : (Int32 × Int32 × Int32 × Int32 × Int32 × Int32 × (Nat → Int32) × (Nat → Int32) × (Nat → Int32)) → Prop) (post : ((Nat → Int32) × (Nat → Int32) × (Nat → Int32) × (Nat → Int32) × (Nat → Int32) × (Nat → Int32)) → Prop) : Prop :=
  (¬ x8 = (2 : Int32) → wp_U_walk_J125 n_begins n_layers n_areas n_xs n_ys n_picture_colours n_walked c_count c_picture_width c_picture_height f_picture_colours f_begins f_layers f_areas f_xs f_ys f_walked x1 x2 x3 x4 x5 x6 x7 x8 x9 back26 post) ∧ (x8 = (2 : Int32) → ∀ x5_123 : Int32, x5_123 = (x5 + x7) → wp_U_walk_J125 n_begins n_layers n_areas n_xs n_ys n_picture_colours n_walked c_count c_picture_width c_picture_height f_picture_colours f_begins f_layers f_areas f_xs f_ys f_walked x1 x2 x3 x4 x5_123 x6 x7 x8 x9 back26 post)
def wp_U_walk_L26 (n_begins n_layers n_areas n_xs n_ys n_picture_colours n_walked : Nat) (c_count : Int32) (c_picture_width : Int32) (c_picture_height : Int32) (f_picture_colours : Nat → Int32) (f_begins : Nat → Int32) (f_layers : Nat → Int32) (f_areas : Nat → Int32) (x1 : Int32) (x2 : Int32) (x3 : Int32) (x4 : Int32) (post : ((Nat → Int32) × (Nat → Int32) × (Nat → Int32) × (Nat → Int32) × (Nat → Int32) × (Nat → Int32)) → Prop) (back26 : (Int32 × Int32 × Int32 × Int32 × Int32 × Int32 × (Nat → Int32) × (Nat → Int32) × (Nat → Int32)) → Prop) (x5 : Int32) (x6 : Int32) (x7 : Int32) (x8 : Int32) (x9 : Int32) (x10 : Int32) (f_xs : Nat → Int32) (f_ys : Nat → Int32) (f_walked : Nat → Int32) : Prop :=
  (x10 = 0 → wp_U_walk_J189 n_begins n_layers n_areas n_xs n_ys n_picture_colours n_walked c_count c_picture_width c_picture_height f_picture_colours f_begins f_layers f_areas f_xs f_ys f_walked x3 x5 x9 post) ∧ (¬ x10 = 0 → ((Int32.ofNat n_xs) ≤ x9 → wp_U_walk_J189 n_begins n_layers n_areas n_xs n_ys n_picture_colours n_walked c_count c_picture_width c_picture_height f_picture_colours f_begins f_layers f_areas f_xs f_ys f_walked x3 x5 x9 post) ∧ (¬ (Int32.ofNat n_xs) ≤ x9 → vp_in x9 n_xs ∧ ∀ f50 : Nat → Int32, f50 = upd f_xs x9.toNatClampNeg (vp_nar .byte (x6.toInt8.toInt32)) → vp_in x9 n_ys ∧ ∀ f60 : Nat → Int32, f60 = upd f_ys x9.toNatClampNeg (vp_nar .byte (x7.toInt8.toInt32)) → ∀ x9_61 : Int32, x9_61 = x9 + (1 : Int32) → (¬ x8 = 0 → wp_U_walk_J112 n_begins n_layers n_areas n_xs n_ys n_picture_colours n_walked c_count c_picture_width c_picture_height f_picture_colours f_begins f_layers f_areas f50 f60 f_walked x1 x2 x3 x4 x5 x6 x7 x8 x9_61 back26 post) ∧ (x8 = 0 → ∃ Q77 : Int32 → Unit → Prop, wp_P_has c_picture_width c_picture_height x6 x7 Q77 ∧ ∀ (r77 : Int32), Q77 r77 () → (r77 = 0 → wp_U_walk_J112 n_begins n_layers n_areas n_xs n_ys n_picture_colours n_walked c_count c_picture_width c_picture_height f_picture_colours f_begins f_layers f_areas f50 f60 f_walked x1 x2 x3 x4 x5 x6 x7 x8 x9_61 back26 post) ∧ (¬ r77 = 0 → vp_in ((x7 * c_picture_width) + x6) n_walked ∧ ∀ f101 : Nat → Int32, f101 = upd f_walked ((x7 * c_picture_width) + x6).toNatClampNeg (vp_nar .byte (1 : Int32)) → ∀ x5_107 : Int32, x5_107 = (x5 - x7) → wp_U_walk_J125 n_begins n_layers n_areas n_xs n_ys n_picture_colours n_walked c_count c_picture_width c_picture_height f_picture_colours f_begins f_layers f_areas f50 f60 f101 x1 x2 x3 x4 x5_107 x6 x7 x8 x9_61 back26 post))))
def wp_U_walk (n_begins n_layers n_areas n_xs n_ys n_picture_colours n_walked : Nat) (c_count : Int32) (f_begins : Nat → Int32) (f_layers : Nat → Int32) (f_areas : Nat → Int32) (f_xs : Nat → Int32) (f_ys : Nat → Int32) (c_picture_width : Int32) (c_picture_height : Int32) (f_picture_colours : Nat → Int32) (f_walked : Nat → Int32) (x1 : Int32) (x2 : Int32) (x3 : Int32) (x4 : Int32) (post : ((Nat → Int32) × (Nat → Int32) × (Nat → Int32) × (Nat → Int32) × (Nat → Int32) × (Nat → Int32)) → Prop) : Prop :=
  vp_in c_count n_begins ∧ ∀ x9_21 : Int32, x9_21 = (f_begins c_count.toNatClampNeg) → lpW (fun b z => wp_U_walk_L26 n_begins n_layers n_areas n_xs n_ys n_picture_colours n_walked c_count c_picture_width c_picture_height f_picture_colours f_begins f_layers f_areas x1 x2 x3 x4 post b z.1 z.2.1 z.2.2.1 z.2.2.2.1 z.2.2.2.2.1 z.2.2.2.2.2.1 z.2.2.2.2.2.2.1 z.2.2.2.2.2.2.2.1 z.2.2.2.2.2.2.2.2) ((0 : Int32), x1, x2, (0 : Int32), x9_21, (1 : Int32), f_xs, f_ys, f_walked)
abbrev cw_U_walk (cB cI : ClassId) (a_this a_begins a_layers a_areas a_xs a_ys a_picture a_picture_colours a_walked : Nat) (n_begins n_layers n_areas n_xs n_ys n_picture_colours n_walked : Nat) (c_count : Int32) (c_traced : Int32) (f_begins : Nat → Int32) (f_layers : Nat → Int32) (f_areas : Nat → Int32) (f_xs : Nat → Int32) (f_ys : Nat → Int32) (c_picture_width : Int32) (c_picture_height : Int32) (f_picture_colours : Nat → Int32) (f_walked : Nat → Int32) : va_W := [(a_this, .inr (2, [.ref a_picture, .ref a_xs, .ref a_ys, .ref a_begins, .ref a_layers, .ref a_areas, .ref a_walked, .int c_count, .int c_traced])), (a_begins, .inl (cI, n_begins, .inl f_begins)), (a_layers, .inl (cB, n_layers, .inl f_layers)), (a_areas, .inl (cI, n_areas, .inl f_areas)), (a_xs, .inl (cB, n_xs, .inl f_xs)), (a_ys, .inl (cB, n_ys, .inl f_ys)), (a_picture, .inr (1, [.int c_picture_width, .int c_picture_height, .ref a_picture_colours])), (a_picture_colours, .inl (cB, n_picture_colours, .inl f_picture_colours)), (a_walked, .inl (cB, n_walked, .inl f_walked))]
abbrev qq_U_walk (dC : Nat → ClassId) (dI : Nat → Nat → Nat) (cI cB cJ cZ : ClassId) (a_this a_begins a_layers a_areas a_xs a_ys a_picture a_picture_colours a_walked : Nat) (n_begins n_layers n_areas n_xs n_ys n_picture_colours n_walked : Nat) (c_count : Int32) (c_traced : Int32) (c_picture_width : Int32) (c_picture_height : Int32) (f_picture_colours : Nat → Int32) (A : Nat → Prop) (post : ((Nat → Int32) × (Nat → Int32) × (Nat → Int32) × (Nat → Int32) × (Nat → Int32) × (Nat → Int32)) → Prop) : Array Value → State → Outcome → State → Prop := va_Qv post (fun u t => va_P (dC, dI) vwCl (cw_U_walk cB cI a_this a_begins a_layers a_areas a_xs a_ys a_picture a_picture_colours a_walked n_begins n_layers n_areas n_xs n_ys n_picture_colours n_walked c_count c_traced u.1 u.2.1 u.2.2.1 u.2.2.2.1 u.2.2.2.2.1 c_picture_width c_picture_height f_picture_colours u.2.2.2.2.2) t.heap ∧ va_K (dC, dI) vwCl [(cI, .int), (cB, .byte), (cJ, .long), (cZ, .boolean)] t ∧ va_D A (cw_U_walk cB cI a_this a_begins a_layers a_areas a_xs a_ys a_picture a_picture_colours a_walked n_begins n_layers n_areas n_xs n_ys n_picture_colours n_walked c_count c_traced u.1 u.2.1 u.2.2.1 u.2.2.2.1 u.2.2.2.2.1 c_picture_width c_picture_height f_picture_colours u.2.2.2.2.2)) A
set_option maxHeartbeats 4000000 in
set_option maxRecDepth 100000 in
theorem c_U_walk (l : Launch) (dC : Nat → ClassId) (dI : Nat → Nat → Nat) (cI cB cJ cZ : ClassId) (a_this a_begins a_layers a_areas a_xs a_ys a_picture a_picture_colours a_walked : Nat) (t_STEP_X : Nat) (t_STEP_Y : Nat) (t_AHEAD_X : Nat) (t_AHEAD_Y : Nat) (sz : Nat) (n_begins n_layers n_areas n_xs n_ys n_picture_colours n_walked : Nat) (c_count : Int32) (c_traced : Int32) (f_begins : Nat → Int32) (f_layers : Nat → Int32) (f_areas : Nat → Int32) (f_xs : Nat → Int32) (f_ys : Nat → Int32) (c_picture_width : Int32) (c_picture_height : Int32) (f_picture_colours : Nat → Int32) (f_walked : Nat → Int32) (x1 : Int32) (x2 : Int32) (x3 : Int32) (x4 : Int32) (post : ((Nat → Int32) × (Nat → Int32) × (Nat → Int32) × (Nat → Int32) × (Nat → Int32) × (Nat → Int32)) → Prop) (h : wp_U_walk n_begins n_layers n_areas n_xs n_ys n_picture_colours n_walked c_count f_begins f_layers f_areas f_xs f_ys c_picture_width c_picture_height f_picture_colours f_walked x1 x2 x3 x4 post) : Met l y_U_walk w_U_walk ({ frames := 5, cells := 0, slots := 0, locals := 124 }) (va_Pc [.ref a_this, .int x1, .int x2, .int x3, .int x4] (fun U => U.heap.size = sz ∧ va_P (dC, dI) vwCl (cw_U_walk cB cI a_this a_begins a_layers a_areas a_xs a_ys a_picture a_picture_colours a_walked n_begins n_layers n_areas n_xs n_ys n_picture_colours n_walked c_count c_traced f_begins f_layers f_areas f_xs f_ys c_picture_width c_picture_height f_picture_colours f_walked) U.heap ∧ va_K (dC, dI) vwCl [(cI, .int), (cB, .byte), (cJ, .long), (cZ, .boolean)] U ∧ va_D (fun _ => True) (cw_U_walk cB cI a_this a_begins a_layers a_areas a_xs a_ys a_picture a_picture_colours a_walked n_begins n_layers n_areas n_xs n_ys n_picture_colours n_walked c_count c_traced f_begins f_layers f_areas f_xs f_ys c_picture_width c_picture_height f_picture_colours f_walked) ∧ va_Z "OutlineCurves$Outlines" "STEP_X" "[I" (.ref t_STEP_X) (va_A (cw_U_walk cB cI a_this a_begins a_layers a_areas a_xs a_ys a_picture a_picture_colours a_walked n_begins n_layers n_areas n_xs n_ys n_picture_colours n_walked c_count c_traced f_begins f_layers f_areas f_xs f_ys c_picture_width c_picture_height f_picture_colours f_walked) sz) U U.heap ∧ va_T .int t_STEP_X 4 (fun j => .int (tb_STEP_X j)) (va_A (cw_U_walk cB cI a_this a_begins a_layers a_areas a_xs a_ys a_picture a_picture_colours a_walked n_begins n_layers n_areas n_xs n_ys n_picture_colours n_walked c_count c_traced f_begins f_layers f_areas f_xs f_ys c_picture_width c_picture_height f_picture_colours f_walked) sz) U U.heap ∧ va_Z "OutlineCurves$Outlines" "STEP_Y" "[I" (.ref t_STEP_Y) (va_A (cw_U_walk cB cI a_this a_begins a_layers a_areas a_xs a_ys a_picture a_picture_colours a_walked n_begins n_layers n_areas n_xs n_ys n_picture_colours n_walked c_count c_traced f_begins f_layers f_areas f_xs f_ys c_picture_width c_picture_height f_picture_colours f_walked) sz) U U.heap ∧ va_T .int t_STEP_Y 4 (fun j => .int (tb_STEP_Y j)) (va_A (cw_U_walk cB cI a_this a_begins a_layers a_areas a_xs a_ys a_picture a_picture_colours a_walked n_begins n_layers n_areas n_xs n_ys n_picture_colours n_walked c_count c_traced f_begins f_layers f_areas f_xs f_ys c_picture_width c_picture_height f_picture_colours f_walked) sz) U U.heap ∧ va_Z "OutlineCurves$Outlines" "AHEAD_X" "[I" (.ref t_AHEAD_X) (va_A (cw_U_walk cB cI a_this a_begins a_layers a_areas a_xs a_ys a_picture a_picture_colours a_walked n_begins n_layers n_areas n_xs n_ys n_picture_colours n_walked c_count c_traced f_begins f_layers f_areas f_xs f_ys c_picture_width c_picture_height f_picture_colours f_walked) sz) U U.heap ∧ va_T .int t_AHEAD_X 4 (fun j => .int (tb_AHEAD_X j)) (va_A (cw_U_walk cB cI a_this a_begins a_layers a_areas a_xs a_ys a_picture a_picture_colours a_walked n_begins n_layers n_areas n_xs n_ys n_picture_colours n_walked c_count c_traced f_begins f_layers f_areas f_xs f_ys c_picture_width c_picture_height f_picture_colours f_walked) sz) U U.heap ∧ va_Z "OutlineCurves$Outlines" "AHEAD_Y" "[I" (.ref t_AHEAD_Y) (va_A (cw_U_walk cB cI a_this a_begins a_layers a_areas a_xs a_ys a_picture a_picture_colours a_walked n_begins n_layers n_areas n_xs n_ys n_picture_colours n_walked c_count c_traced f_begins f_layers f_areas f_xs f_ys c_picture_width c_picture_height f_picture_colours f_walked) sz) U U.heap ∧ va_T .int t_AHEAD_Y 4 (fun j => .int (tb_AHEAD_Y j)) (va_A (cw_U_walk cB cI a_this a_begins a_layers a_areas a_xs a_ys a_picture a_picture_colours a_walked n_begins n_layers n_areas n_xs n_ys n_picture_colours n_walked c_count c_traced f_begins f_layers f_areas f_xs f_ys c_picture_width c_picture_height f_picture_colours f_walked) sz) U U.heap)) (qq_U_walk dC dI cI cB cJ cZ a_this a_begins a_layers a_areas a_xs a_ys a_picture a_picture_colours a_walked n_begins n_layers n_areas n_xs n_ys n_picture_colours n_walked c_count c_traced c_picture_width c_picture_height f_picture_colours (va_A (cw_U_walk cB cI a_this a_begins a_layers a_areas a_xs a_ys a_picture a_picture_colours a_walked n_begins n_layers n_areas n_xs n_ys n_picture_colours n_walked c_count c_traced f_begins f_layers f_areas f_xs f_ys c_picture_width c_picture_height f_picture_colours f_walked) sz) post) 0 0 (va_A (cw_U_walk cB cI a_this a_begins a_layers a_areas a_xs a_ys a_picture a_picture_colours a_walked n_begins n_layers n_areas n_xs n_ys n_picture_colours n_walked c_count c_traced f_begins f_layers f_areas f_xs f_ys c_picture_width c_picture_height f_picture_colours f_walked) sz) := by
  refine Met.ofW (cc := b_U_walk) (maxL := 11) (ret := none) (by decide +kernel) rfl ?_
  intro p e s m args below meth c s₁ B hml hv
  obtain ⟨rfl, hsz, hP, hK, hD0, hZ0, hT0, hZ1, hT1, hZ2, hT2, hZ3, hT3⟩ := hv
  have hx := B.exec
  have hb := B.bytes
  have hr := B.returns
  have hts : ∀ w ∈ allW, w.before _ s = true := fun w hw => atoms_spec (ws := w_U_walk) B.pre w (List.mem_cons_of_mem _ hw)
  have hown : s.vm.findClass R_U = some m.cls := findClass_of_methodNamed B.named
  have hlocks := B.notSynchronized
  subst hsz
  have hD := hD0.self (sz := s.heap.size)
  generalize hAe : va_A (cw_U_walk cB cI a_this a_begins a_layers a_areas a_xs a_ys a_picture a_picture_colours a_walked n_begins n_layers n_areas n_xs n_ys n_picture_colours n_walked c_count c_traced f_begins f_layers f_areas f_xs f_ys c_picture_width c_picture_height f_picture_colours f_walked) s.heap.size = A at hD hZ0 hT0 hZ1 hT1 hZ2 hT2 hZ3 hT3 ⊢
  have hA : ∀ q : Nat, s.heap.size ≤ q → A q := fun q h => by rw [← hAe]; exact Or.inr h
  have hS : va_S A s.heap s.heap [] := va_S.rf
  clear hD0
  generalize hQf : MQ below (qq_U_walk dC dI cI cB cJ cZ a_this a_begins a_layers a_areas a_xs a_ys a_picture a_picture_colours a_walked n_begins n_layers n_areas n_xs n_ys n_picture_colours n_walked c_count c_traced c_picture_width c_picture_height f_picture_colours A post) ([.ref a_this, .int x1, .int x2, .int x3, .int x4] : List Value).toArray s 0 0 A = Qf
  have hl := lv_entry ([.ref a_this, .int x1, .int x2, .int x3, .int x4]) (n := 11) (Nat.le_of_ble_eq_true rfl)
  rw [lg_entry_eq]
  generalize (lg_sl ([.ref a_this, .int x1, .int x2, .int x3, .int x4]) ++ List.replicate (11 - (lg_sl ([.ref a_this, .int x1, .int x2, .int x3, .int x4])).length) Slot.unset).toArray = ls at hl ⊢
  have hl : lv_has ls 11 [(0, .ref a_this), (1, .int x1), (2, .int x2), (3, .int x3), (4, .int x4)] := hl
  unfold wp_U_walk at h
  have J189 : ∀ (x3_j189 : Int32) (x5_j189 : Int32) (x9_j189 : Int32) (f_begins_j189 : Nat → Int32) (f_layers_j189 : Nat → Int32) (f_areas_j189 : Nat → Int32) (f_xs_j189 : Nat → Int32) (f_ys_j189 : Nat → Int32) (f_walked_j189 : Nat → Int32) (H : Heap) (locs : List Loc) (ls : Array Slot), wp_U_walk_J189 n_begins n_layers n_areas n_xs n_ys n_picture_colours n_walked c_count c_picture_width c_picture_height f_picture_colours f_begins_j189 f_layers_j189 f_areas_j189 f_xs_j189 f_ys_j189 f_walked_j189 x3_j189 x5_j189 x9_j189 post → va_P (dC, dI) vwCl (cw_U_walk cB cI a_this a_begins a_layers a_areas a_xs a_ys a_picture a_picture_colours a_walked n_begins n_layers n_areas n_xs n_ys n_picture_colours n_walked c_count c_traced f_begins_j189 f_layers_j189 f_areas_j189 f_xs_j189 f_ys_j189 c_picture_width c_picture_height f_picture_colours f_walked_j189) H → va_D A (cw_U_walk cB cI a_this a_begins a_layers a_areas a_xs a_ys a_picture a_picture_colours a_walked n_begins n_layers n_areas n_xs n_ys n_picture_colours n_walked c_count c_traced f_begins_j189 f_layers_j189 f_areas_j189 f_xs_j189 f_ys_j189 c_picture_width c_picture_height f_picture_colours f_walked_j189) → va_S A s.heap H locs → lv_has ls 11 [(0, .ref a_this), (3, .int x3_j189), (5, .int x5_j189), (9, .int x9_j189)] → W p l e (headSpec w_U_walk ({ frames := 5, cells := 0, slots := 0, locals := 124 })).room s m ([.ref a_this, .int x1, .int x2, .int x3, .int x4] : List Value).toArray below meth c H locs 0 0 Qf (F0 m 189 ls []) := by
    intro x3_j189 x5_j189 x9_j189 f_begins_j189 f_layers_j189 f_areas_j189 f_xs_j189 f_ys_j189 f_walked_j189 H locs ls h hP hD hS hl
    unfold wp_U_walk_J189 at h
    refine lv_aload_n hx hb d_U_walk_189 rfl (lv_at hl 0 rfl) ?_
    refine va_get (D := (dC, dI)) (ci := 2) (v := .ref a_layers) (C := R_U) (T := F_U) (N := 9) hx hb hts i_U_in hown hK hP 0 rfl rfl 4 (by decide) (hts _ q_71) (fun _ h9 => h9) rfl d_U_walk_190 ?_
    refine lv_aload_n hx hb d_U_walk_193 rfl (lv_at hl 0 rfl) ?_
    refine va_get (D := (dC, dI)) (ci := 2) (v := .int c_count) (C := R_U) (T := F_U) (N := 9) hx hb hts i_U_in hown hK hP 0 rfl rfl 7 (by decide) (hts _ q_76) (fun _ h9 => h9) rfl d_U_walk_194 ?_
    refine lv_iload_n hx hb d_U_walk_197 rfl (lv_at hl 1 rfl) ?_
    refine lv_i2b hx hb d_U_walk_198 rfl ?_
    obtain ⟨hin, h⟩ := h
    refine va_bast hx hb hK hP hD hS 2 1 rfl rfl hin d_U_walk_199 (fun H locs hP hD hS => ?_)
    obtain ⟨f199, e_f199⟩ : ∃ y : Nat → Int32, y = upd f_layers_j189 c_count.toNatClampNeg (vp_nar .byte (x3_j189.toInt8.toInt32)) := ⟨_, rfl⟩
    have h := h f199 e_f199
    have hP : va_P (dC, dI) vwCl (cw_U_walk cB cI a_this a_begins a_layers a_areas a_xs a_ys a_picture a_picture_colours a_walked n_begins n_layers n_areas n_xs n_ys n_picture_colours n_walked c_count c_traced f_begins_j189 f199 f_areas_j189 f_xs_j189 f_ys_j189 c_picture_width c_picture_height f_picture_colours f_walked_j189) H := by rw [e_f199]; exact hP
    have hD : va_D A (cw_U_walk cB cI a_this a_begins a_layers a_areas a_xs a_ys a_picture a_picture_colours a_walked n_begins n_layers n_areas n_xs n_ys n_picture_colours n_walked c_count c_traced f_begins_j189 f199 f_areas_j189 f_xs_j189 f_ys_j189 c_picture_width c_picture_height f_picture_colours f_walked_j189) := by rw [e_f199]; exact hD
    refine lv_aload_n hx hb d_U_walk_200 rfl (lv_at hl 0 rfl) ?_
    refine va_get (D := (dC, dI)) (ci := 2) (v := .ref a_areas) (C := R_U) (T := F_U) (N := 9) hx hb hts i_U_in hown hK hP 0 rfl rfl 5 (by decide) (hts _ q_73) (fun _ h9 => h9) rfl d_U_walk_201 ?_
    refine lv_aload_n hx hb d_U_walk_204 rfl (lv_at hl 0 rfl) ?_
    refine va_get (D := (dC, dI)) (ci := 2) (v := .int c_count) (C := R_U) (T := F_U) (N := 9) hx hb hts i_U_in hown hK hP 0 rfl rfl 7 (by decide) (hts _ q_76) (fun _ h9 => h9) rfl d_U_walk_205 ?_
    refine lv_iload hx hb d_U_walk_208 (lv_at hl 2 rfl) ?_
    obtain ⟨hin, h⟩ := h
    refine va_iast hx hb hK hP hD hS 3 0 rfl rfl hin d_U_walk_210 (fun H locs hP hD hS => ?_)
    obtain ⟨f210, e_f210⟩ : ∃ y : Nat → Int32, y = upd f_areas_j189 c_count.toNatClampNeg x5_j189 := ⟨_, rfl⟩
    have h := h f210 e_f210
    have hP : va_P (dC, dI) vwCl (cw_U_walk cB cI a_this a_begins a_layers a_areas a_xs a_ys a_picture a_picture_colours a_walked n_begins n_layers n_areas n_xs n_ys n_picture_colours n_walked c_count c_traced f_begins_j189 f199 f210 f_xs_j189 f_ys_j189 c_picture_width c_picture_height f_picture_colours f_walked_j189) H := by rw [e_f210]; exact hP
    have hD : va_D A (cw_U_walk cB cI a_this a_begins a_layers a_areas a_xs a_ys a_picture a_picture_colours a_walked n_begins n_layers n_areas n_xs n_ys n_picture_colours n_walked c_count c_traced f_begins_j189 f199 f210 f_xs_j189 f_ys_j189 c_picture_width c_picture_height f_picture_colours f_walked_j189) := by rw [e_f210]; exact hD
    refine lv_aload_n hx hb d_U_walk_211 rfl (lv_at hl 0 rfl) ?_
    refine va_get (D := (dC, dI)) (ci := 2) (v := .ref a_begins) (C := R_U) (T := F_U) (N := 9) hx hb hts i_U_in hown hK hP 0 rfl rfl 3 (by decide) (hts _ q_68) (fun _ h9 => h9) rfl d_U_walk_212 ?_
    refine lv_aload_n hx hb d_U_walk_215 rfl (lv_at hl 0 rfl) ?_
    refine va_get (D := (dC, dI)) (ci := 2) (v := .int c_count) (C := R_U) (T := F_U) (N := 9) hx hb hts i_U_in hown hK hP 0 rfl rfl 7 (by decide) (hts _ q_76) (fun _ h9 => h9) rfl d_U_walk_216 ?_
    refine lv_iconst (v := 1) hx hb d_U_walk_219 (by decide) ?_
    refine lv_iadd hx hb d_U_walk_220 ?_
    refine lv_iload hx hb d_U_walk_221 (lv_at hl 3 rfl) ?_
    obtain ⟨hin, h⟩ := h
    refine va_iast hx hb hK hP hD hS 1 0 rfl rfl hin d_U_walk_223 (fun H locs hP hD hS => ?_)
    obtain ⟨f223, e_f223⟩ : ∃ y : Nat → Int32, y = upd f_begins_j189 (c_count + (1 : Int32)).toNatClampNeg x9_j189 := ⟨_, rfl⟩
    have h := h f223 e_f223
    have hP : va_P (dC, dI) vwCl (cw_U_walk cB cI a_this a_begins a_layers a_areas a_xs a_ys a_picture a_picture_colours a_walked n_begins n_layers n_areas n_xs n_ys n_picture_colours n_walked c_count c_traced f223 f199 f210 f_xs_j189 f_ys_j189 c_picture_width c_picture_height f_picture_colours f_walked_j189) H := by rw [e_f223]; exact hP
    have hD : va_D A (cw_U_walk cB cI a_this a_begins a_layers a_areas a_xs a_ys a_picture a_picture_colours a_walked n_begins n_layers n_areas n_xs n_ys n_picture_colours n_walked c_count c_traced f223 f199 f210 f_xs_j189 f_ys_j189 c_picture_width c_picture_height f_picture_colours f_walked_j189) := by rw [e_f223]; exact hD
    subst hQf
    exact W.vret hx hb hr (fun t ht hW => ⟨⟨(f223, f199, f210, f_xs_j189, f_ys_j189, f_walked_j189), rfl, h, by rw [ht]; exact hP, va_K.moved hW.alike hK, hD⟩, hS.F ht⟩) hS.2.2 d_U_walk_224
  refine lv_iconst (v := 0) hx hb d_U_walk_0 (by decide) ?_
  refine lv_istore (lv' := [(5, .int (0 : Int32)), (0, .ref a_this), (1, .int x1), (2, .int x2), (3, .int x3), (4, .int x4)]) hx hb d_U_walk_1 hl (by decide) rfl (fun ls hl => ?_)
  refine lv_iload_n hx hb d_U_walk_3 rfl (lv_at hl 2 rfl) ?_
  refine lv_istore (lv' := [(6, .int x1), (5, .int (0 : Int32)), (0, .ref a_this), (1, .int x1), (2, .int x2), (3, .int x3), (4, .int x4)]) hx hb d_U_walk_4 hl (by decide) rfl (fun ls hl => ?_)
  refine lv_iload_n hx hb d_U_walk_6 rfl (lv_at hl 4 rfl) ?_
  refine lv_istore (lv' := [(7, .int x2), (6, .int x1), (5, .int (0 : Int32)), (0, .ref a_this), (1, .int x1), (2, .int x2), (3, .int x3), (4, .int x4)]) hx hb d_U_walk_7 hl (by decide) rfl (fun ls hl => ?_)
  refine lv_iconst (v := 0) hx hb d_U_walk_9 (by decide) ?_
  refine lv_istore (lv' := [(8, .int (0 : Int32)), (7, .int x2), (6, .int x1), (5, .int (0 : Int32)), (0, .ref a_this), (1, .int x1), (2, .int x2), (3, .int x3), (4, .int x4)]) hx hb d_U_walk_10 hl (by decide) rfl (fun ls hl => ?_)
  refine lv_aload_n hx hb d_U_walk_12 rfl (lv_at hl 4 rfl) ?_
  refine va_get (D := (dC, dI)) (ci := 2) (v := .ref a_begins) (C := R_U) (T := F_U) (N := 9) hx hb hts i_U_in hown hK hP 0 rfl rfl 3 (by decide) (hts _ q_68) (fun _ h9 => h9) rfl d_U_walk_13 ?_
  refine lv_aload_n hx hb d_U_walk_16 rfl (lv_at hl 4 rfl) ?_
  refine va_get (D := (dC, dI)) (ci := 2) (v := .int c_count) (C := R_U) (T := F_U) (N := 9) hx hb hts i_U_in hown hK hP 0 rfl rfl 7 (by decide) (hts _ q_76) (fun _ h9 => h9) rfl d_U_walk_17 ?_
  obtain ⟨hin, h⟩ := h
  refine va_iald hx hb hK hP 1 0 rfl rfl hin d_U_walk_20 ?_
  refine lv_topi (fun x9_21 e_x9_21 => ?_)
  have h := h x9_21 e_x9_21
  refine lv_istore (lv' := [(9, .int x9_21), (8, .int (0 : Int32)), (7, .int x2), (6, .int x1), (5, .int (0 : Int32)), (0, .ref a_this), (1, .int x1), (2, .int x2), (3, .int x3), (4, .int x4)]) hx hb d_U_walk_21 hl (by decide) rfl (fun ls hl => ?_)
  refine lv_iconst (v := 1) hx hb d_U_walk_23 (by decide) ?_
  refine lv_istore (lv' := [(10, .int (1 : Int32)), (9, .int x9_21), (8, .int (0 : Int32)), (7, .int x2), (6, .int x1), (5, .int (0 : Int32)), (0, .ref a_this), (1, .int x1), (2, .int x2), (3, .int x3), (4, .int x4)]) hx hb d_U_walk_24 hl (by decide) rfl (fun ls hl => ?_)
  refine lpW_ind (Wp := fun z => ∀ (H : Heap) (locs : List Loc) (ls : Array Slot), va_P (dC, dI) vwCl (cw_U_walk cB cI a_this a_begins a_layers a_areas a_xs a_ys a_picture a_picture_colours a_walked n_begins n_layers n_areas n_xs n_ys n_picture_colours n_walked c_count c_traced f_begins f_layers f_areas z.2.2.2.2.2.2.1 z.2.2.2.2.2.2.2.1 c_picture_width c_picture_height f_picture_colours z.2.2.2.2.2.2.2.2) H → va_D A (cw_U_walk cB cI a_this a_begins a_layers a_areas a_xs a_ys a_picture a_picture_colours a_walked n_begins n_layers n_areas n_xs n_ys n_picture_colours n_walked c_count c_traced f_begins f_layers f_areas z.2.2.2.2.2.2.1 z.2.2.2.2.2.2.2.1 c_picture_width c_picture_height f_picture_colours z.2.2.2.2.2.2.2.2) → va_S A s.heap H locs → lv_has ls 11 [(0, .ref a_this), (1, .int x1), (2, .int x2), (3, .int x3), (4, .int x4), (5, .int z.1), (6, .int z.2.1), (7, .int z.2.2.1), (8, .int z.2.2.2.1), (9, .int z.2.2.2.2.1), (10, .int z.2.2.2.2.2.1)] → W p l e (headSpec w_U_walk ({ frames := 5, cells := 0, slots := 0, locals := 124 })).room s m ([.ref a_this, .int x1, .int x2, .int x3, .int x4] : List Value).toArray below meth c H locs 0 0 Qf (F0 m 26 ls [])) h ?_ _ _ _ hP hD hS (lv_sub hl [6, 7, 8, 9, 10, 5, 4, 3, 2, 1, 0] rfl)
  rintro ⟨x5_l26, x6_l26, x7_l26, x8_l26, x9_l26, x10_l26, f_xs_l26, f_ys_l26, f_walked_l26⟩ back26 h hb26 H locs ls hP hD hS hl
  have h : wp_U_walk_L26 n_begins n_layers n_areas n_xs n_ys n_picture_colours n_walked c_count c_picture_width c_picture_height f_picture_colours f_begins f_layers f_areas x1 x2 x3 x4 post back26 x5_l26 x6_l26 x7_l26 x8_l26 x9_l26 x10_l26 f_xs_l26 f_ys_l26 f_walked_l26 := h
  have hP : va_P (dC, dI) vwCl (cw_U_walk cB cI a_this a_begins a_layers a_areas a_xs a_ys a_picture a_picture_colours a_walked n_begins n_layers n_areas n_xs n_ys n_picture_colours n_walked c_count c_traced f_begins f_layers f_areas f_xs_l26 f_ys_l26 c_picture_width c_picture_height f_picture_colours f_walked_l26) H := hP
  have hD : va_D A (cw_U_walk cB cI a_this a_begins a_layers a_areas a_xs a_ys a_picture a_picture_colours a_walked n_begins n_layers n_areas n_xs n_ys n_picture_colours n_walked c_count c_traced f_begins f_layers f_areas f_xs_l26 f_ys_l26 c_picture_width c_picture_height f_picture_colours f_walked_l26) := hD
  have hl : lv_has ls 11 [(0, .ref a_this), (1, .int x1), (2, .int x2), (3, .int x3), (4, .int x4), (5, .int x5_l26), (6, .int x6_l26), (7, .int x7_l26), (8, .int x8_l26), (9, .int x9_l26), (10, .int x10_l26)] := hl
  unfold wp_U_walk_L26 at h
  have J184 : ∀ (x5_j184 : Int32) (x6_j184 : Int32) (x7_j184 : Int32) (x8_j184 : Int32) (x9_j184 : Int32) (y0_j184 : Int32) (f_xs_j184 : Nat → Int32) (f_ys_j184 : Nat → Int32) (f_walked_j184 : Nat → Int32) (H : Heap) (locs : List Loc) (ls : Array Slot), wp_U_walk_J184 n_begins n_layers n_areas n_xs n_ys n_picture_colours n_walked c_count c_picture_width c_picture_height f_picture_colours f_begins f_layers f_areas f_xs_j184 f_ys_j184 f_walked_j184 x1 x2 x3 x4 x5_j184 x6_j184 x7_j184 x8_j184 x9_j184 y0_j184 back26 post → va_P (dC, dI) vwCl (cw_U_walk cB cI a_this a_begins a_layers a_areas a_xs a_ys a_picture a_picture_colours a_walked n_begins n_layers n_areas n_xs n_ys n_picture_colours n_walked c_count c_traced f_begins f_layers f_areas f_xs_j184 f_ys_j184 c_picture_width c_picture_height f_picture_colours f_walked_j184) H → va_D A (cw_U_walk cB cI a_this a_begins a_layers a_areas a_xs a_ys a_picture a_picture_colours a_walked n_begins n_layers n_areas n_xs n_ys n_picture_colours n_walked c_count c_traced f_begins f_layers f_areas f_xs_j184 f_ys_j184 c_picture_width c_picture_height f_picture_colours f_walked_j184) → va_S A s.heap H locs → lv_has ls 11 [(0, .ref a_this), (1, .int x1), (2, .int x2), (3, .int x3), (4, .int x4), (5, .int x5_j184), (6, .int x6_j184), (7, .int x7_j184), (8, .int x8_j184), (9, .int x9_j184)] → W p l e (headSpec w_U_walk ({ frames := 5, cells := 0, slots := 0, locals := 124 })).room s m ([.ref a_this, .int x1, .int x2, .int x3, .int x4] : List Value).toArray below meth c H locs 0 0 Qf (F0 m 184 ls [.int y0_j184]) := by
    intro x5_j184 x6_j184 x7_j184 x8_j184 x9_j184 y0_j184 f_xs_j184 f_ys_j184 f_walked_j184 H locs ls h hP hD hS hl
    unfold wp_U_walk_J184 at h
    refine lv_istore (lv' := [(10, .int y0_j184), (0, .ref a_this), (1, .int x1), (2, .int x2), (3, .int x3), (4, .int x4), (5, .int x5_j184), (6, .int x6_j184), (7, .int x7_j184), (8, .int x8_j184), (9, .int x9_j184)]) hx hb d_U_walk_184 hl (by decide) rfl (fun ls hl => ?_)
    refine lv_goto (tgt := 26) hx hb d_U_walk_186 (by decide) ?_
    exact hb26 _ h _ _ _ hP hD hS (lv_sub hl [1, 2, 3, 4, 5, 6, 7, 8, 9, 10, 0] rfl)
  have J179 : ∀ (x5_j179 : Int32) (x6_j179 : Int32) (x7_j179 : Int32) (x8_j179 : Int32) (x9_j179 : Int32) (f_xs_j179 : Nat → Int32) (f_ys_j179 : Nat → Int32) (f_walked_j179 : Nat → Int32) (H : Heap) (locs : List Loc) (ls : Array Slot), wp_U_walk_J179 n_begins n_layers n_areas n_xs n_ys n_picture_colours n_walked c_count c_picture_width c_picture_height f_picture_colours f_begins f_layers f_areas f_xs_j179 f_ys_j179 f_walked_j179 x1 x2 x3 x4 x5_j179 x6_j179 x7_j179 x8_j179 x9_j179 back26 post → va_P (dC, dI) vwCl (cw_U_walk cB cI a_this a_begins a_layers a_areas a_xs a_ys a_picture a_picture_colours a_walked n_begins n_layers n_areas n_xs n_ys n_picture_colours n_walked c_count c_traced f_begins f_layers f_areas f_xs_j179 f_ys_j179 c_picture_width c_picture_height f_picture_colours f_walked_j179) H → va_D A (cw_U_walk cB cI a_this a_begins a_layers a_areas a_xs a_ys a_picture a_picture_colours a_walked n_begins n_layers n_areas n_xs n_ys n_picture_colours n_walked c_count c_traced f_begins f_layers f_areas f_xs_j179 f_ys_j179 c_picture_width c_picture_height f_picture_colours f_walked_j179) → va_S A s.heap H locs → lv_has ls 11 [(0, .ref a_this), (1, .int x1), (2, .int x2), (3, .int x3), (4, .int x4), (5, .int x5_j179), (6, .int x6_j179), (7, .int x7_j179), (8, .int x8_j179), (9, .int x9_j179)] → W p l e (headSpec w_U_walk ({ frames := 5, cells := 0, slots := 0, locals := 124 })).room s m ([.ref a_this, .int x1, .int x2, .int x3, .int x4] : List Value).toArray below meth c H locs 0 0 Qf (F0 m 179 ls []) := by
    intro x5_j179 x6_j179 x7_j179 x8_j179 x9_j179 f_xs_j179 f_ys_j179 f_walked_j179 H locs ls h hP hD hS hl
    unfold wp_U_walk_J179 at h
    refine lv_iconst (v := 1) hx hb d_U_walk_179 (by decide) ?_
    refine lv_goto (tgt := 184) hx hb d_U_walk_180 (by decide) ?_
    exact J184 x5_j179 x6_j179 x7_j179 x8_j179 x9_j179 (1 : Int32) f_xs_j179 f_ys_j179 f_walked_j179 _ _ _ h hP hD hS (lv_sub hl [0, 1, 2, 3, 4, 5, 6, 7, 8, 9] rfl)
  have J125 : ∀ (x5_j125 : Int32) (x6_j125 : Int32) (x7_j125 : Int32) (x8_j125 : Int32) (x9_j125 : Int32) (f_xs_j125 : Nat → Int32) (f_ys_j125 : Nat → Int32) (f_walked_j125 : Nat → Int32) (H : Heap) (locs : List Loc) (ls : Array Slot), wp_U_walk_J125 n_begins n_layers n_areas n_xs n_ys n_picture_colours n_walked c_count c_picture_width c_picture_height f_picture_colours f_begins f_layers f_areas f_xs_j125 f_ys_j125 f_walked_j125 x1 x2 x3 x4 x5_j125 x6_j125 x7_j125 x8_j125 x9_j125 back26 post → va_P (dC, dI) vwCl (cw_U_walk cB cI a_this a_begins a_layers a_areas a_xs a_ys a_picture a_picture_colours a_walked n_begins n_layers n_areas n_xs n_ys n_picture_colours n_walked c_count c_traced f_begins f_layers f_areas f_xs_j125 f_ys_j125 c_picture_width c_picture_height f_picture_colours f_walked_j125) H → va_D A (cw_U_walk cB cI a_this a_begins a_layers a_areas a_xs a_ys a_picture a_picture_colours a_walked n_begins n_layers n_areas n_xs n_ys n_picture_colours n_walked c_count c_traced f_begins f_layers f_areas f_xs_j125 f_ys_j125 c_picture_width c_picture_height f_picture_colours f_walked_j125) → va_S A s.heap H locs → lv_has ls 11 [(0, .ref a_this), (1, .int x1), (2, .int x2), (3, .int x3), (4, .int x4), (5, .int x5_j125), (6, .int x6_j125), (7, .int x7_j125), (8, .int x8_j125), (9, .int x9_j125)] → W p l e (headSpec w_U_walk ({ frames := 5, cells := 0, slots := 0, locals := 124 })).room s m ([.ref a_this, .int x1, .int x2, .int x3, .int x4] : List Value).toArray below meth c H locs 0 0 Qf (F0 m 125 ls []) := by
    intro x5_j125 x6_j125 x7_j125 x8_j125 x9_j125 f_xs_j125 f_ys_j125 f_walked_j125 H locs ls h hP hD hS hl
    unfold wp_U_walk_J125 at h
    refine lv_iload hx hb d_U_walk_125 (lv_at hl 6 rfl) ?_
    refine va_gets hx hb hZ0 hS hown (hts _ q_379) (fun _ h9 => h9) d_U_walk_127 ?_
    refine lv_iload hx hb d_U_walk_130 (lv_at hl 8 rfl) ?_
    obtain ⟨hin, h⟩ := h
    refine va_ti hx hb hT0 hS hin rfl d_U_walk_132 ?_
    refine lv_iadd hx hb d_U_walk_133 ?_
    refine lv_topi (fun x6_134 e_x6_134 => ?_)
    have h := h x6_134 e_x6_134
    refine lv_istore (lv' := [(6, .int x6_134), (0, .ref a_this), (1, .int x1), (2, .int x2), (3, .int x3), (4, .int x4), (5, .int x5_j125), (7, .int x7_j125), (8, .int x8_j125), (9, .int x9_j125)]) hx hb d_U_walk_134 hl (by decide) rfl (fun ls hl => ?_)
    refine lv_iload hx hb d_U_walk_136 (lv_at hl 7 rfl) ?_
    refine va_gets hx hb hZ1 hS hown (hts _ q_381) (fun _ h9 => h9) d_U_walk_138 ?_
    refine lv_iload hx hb d_U_walk_141 (lv_at hl 8 rfl) ?_
    obtain ⟨hin, h⟩ := h
    refine va_ti hx hb hT1 hS hin rfl d_U_walk_143 ?_
    refine lv_iadd hx hb d_U_walk_144 ?_
    refine lv_topi (fun x7_145 e_x7_145 => ?_)
    have h := h x7_145 e_x7_145
    refine lv_istore (lv' := [(7, .int x7_145), (6, .int x6_134), (0, .ref a_this), (1, .int x1), (2, .int x2), (3, .int x3), (4, .int x4), (5, .int x5_j125), (8, .int x8_j125), (9, .int x9_j125)]) hx hb d_U_walk_145 hl (by decide) rfl (fun ls hl => ?_)
    refine lv_aload_n hx hb d_U_walk_147 rfl (lv_at hl 2 rfl) ?_
    refine lv_iload hx hb d_U_walk_148 (lv_at hl 1 rfl) ?_
    refine lv_iload hx hb d_U_walk_150 (lv_at hl 0 rfl) ?_
    refine lv_iload hx hb d_U_walk_152 (lv_at hl 8 rfl) ?_
    refine lv_iload_n hx hb d_U_walk_154 rfl (lv_at hl 5 rfl) ?_
    refine lv_iload hx hb d_U_walk_155 (lv_at hl 6 rfl) ?_
    obtain ⟨Q157, hq157, h⟩ := h
    have hPc := hP.sub (ws' := (cw_U_directionFrom cB a_this a_picture a_picture_colours a_xs a_ys a_begins a_layers a_areas a_walked n_picture_colours c_count c_traced c_picture_width c_picture_height f_picture_colours)) [0, 6, 7] rfl
    have hDc := hD.sub (ws' := (cw_U_directionFrom cB a_this a_picture a_picture_colours a_xs a_ys a_begins a_layers a_areas a_walked n_picture_colours c_count c_traced c_picture_width c_picture_height f_picture_colours)) [0, 6, 7] (by decide) rfl
    have hFc := va_free (wc := (cw_U_directionFrom cB a_this a_picture a_picture_colours a_xs a_ys a_begins a_layers a_areas a_walked n_picture_colours c_count c_traced c_picture_width c_picture_height f_picture_colours)) hD hS hA [0, 6, 7] rfl
    refine va_calli (va_runV (As := [.int x6_134, .int x7_145, .int x8_j125, .int x3, .int x4]) (rest := []) ⟨hx, hb, hml, hown, hts⟩ (c_U_directionFrom l dC dI cI cB cJ cZ a_this a_picture a_picture_colours a_xs a_ys a_begins a_layers a_areas a_walked t_AHEAD_X t_AHEAD_Y H.size n_picture_colours c_count c_traced c_picture_width c_picture_height f_picture_colours x6_134 x7_145 x8_j125 x3 x4 Q157 hq157) (cwV 5 hts (goodV q_383 q_385 q_p5 q_4 q_386) rfl rfl rfl (by decide +kernel) ⟨Nat.le_of_ble_eq_true rfl, Nat.le_of_ble_eq_true rfl⟩) ⟨fun a U g mk q => by obtain ⟨q0, q1, qP, qK, qD, z0, t0, z1, t1⟩ := q; exact ⟨q0, q1, qP, va_K.moved (u := U) (U := U.calling g mk a) (Vm.Alike.refl U.vm) qK, qD, va_Z.moved (u := U) (U := U.calling g mk a) (Vm.Alike.refl U.vm) z0, va_T.moved (u := U) (U := U.calling g mk a) (Vm.Alike.refl U.vm) t0, va_Z.moved (u := U) (U := U.calling g mk a) (Vm.Alike.refl U.vm) z1, va_T.moved (u := U) (U := U.calling g mk a) (Vm.Alike.refl U.vm) t1⟩, va_recv hK hPc (ci := 2) (q0 := 0) rfl rfl, fun U hU hW => ⟨rfl, by rw [hU], by rw [hU]; exact hPc, va_K.moved hW.alike hK, hDc.weaken (fun _ _ _ _ => trivial), by rw [hU]; exact va_Z.moved hW.alike ((hZ2.kept hS.2.1).narrow hFc), by rw [hU]; exact va_T.moved hW.alike ((hT2.kept hS.2.1).narrow hFc), by rw [hU]; exact va_Z.moved hW.alike ((hZ3.kept hS.2.1).narrow hFc), by rw [hU]; exact va_T.moved hW.alike ((hT3.kept hS.2.1).narrow hFc)⟩⟩ rfl rfl hl.1 rfl (lv_room (Nat.le_of_ble_eq_true rfl)) d_U_walk_157 ⟨Nat.le_of_ble_eq_true rfl, Nat.le_of_ble_eq_true rfl⟩) hS (fun q _ h => hFc q h) hFc (fun r157 u157 t H1 locs ht hvm hw hB hz1 hk1 hS => ?_)
    cases u157
    obtain ⟨hP1, -, hD1⟩ := hB
    rw [ht] at hP1
    have h := h r157 hw
    obtain ⟨hP, hD⟩ := va_join (wr := [(a_begins, .inl (cI, n_begins, .inl f_begins)), (a_layers, .inl (cB, n_layers, .inl f_layers)), (a_areas, .inl (cI, n_areas, .inl f_areas)), (a_xs, .inl (cB, n_xs, .inl f_xs_j125)), (a_ys, .inl (cB, n_ys, .inl f_ys_j125)), (a_walked, .inl (cB, n_walked, .inl f_walked_j125))]) (w1 := (cw_U_directionFrom cB a_this a_picture a_picture_colours a_xs a_ys a_begins a_layers a_areas a_walked n_picture_colours c_count c_traced c_picture_width c_picture_height f_picture_colours)) hP hD [0, 6, 7] [1, 2, 3, 4, 5, 8] rfl rfl (by decide) (by decide) hk1 hFc hP1 hD1
    clear hP1 hD1 hk1 hPc hDc hFc
    generalize H1 = H at hP hS ⊢
    have hP : va_P (dC, dI) vwCl (cw_U_walk cB cI a_this a_begins a_layers a_areas a_xs a_ys a_picture a_picture_colours a_walked n_begins n_layers n_areas n_xs n_ys n_picture_colours n_walked c_count c_traced f_begins f_layers f_areas f_xs_j125 f_ys_j125 c_picture_width c_picture_height f_picture_colours f_walked_j125) H := hP.sub [6, 0, 1, 2, 3, 4, 7, 8, 5] rfl
    have hD : va_D A (cw_U_walk cB cI a_this a_begins a_layers a_areas a_xs a_ys a_picture a_picture_colours a_walked n_begins n_layers n_areas n_xs n_ys n_picture_colours n_walked c_count c_traced f_begins f_layers f_areas f_xs_j125 f_ys_j125 c_picture_width c_picture_height f_picture_colours f_walked_j125) := hD.sub [6, 0, 1, 2, 3, 4, 7, 8, 5] (by decide) rfl
    refine lv_istore (lv' := [(8, .int r157), (7, .int x7_145), (6, .int x6_134), (0, .ref a_this), (1, .int x1), (2, .int x2), (3, .int x3), (4, .int x4), (5, .int x5_j125), (9, .int x9_j125)]) hx hb d_U_walk_160 hl (by decide) rfl (fun ls hl => ?_)
    refine lv_iload hx hb d_U_walk_162 (lv_at hl 2 rfl) ?_
    refine lv_iload_n hx hb d_U_walk_164 rfl (lv_at hl 4 rfl) ?_
    refine lv_icmp_ne (tgt := 179) hx hb d_U_walk_165 (by decide) (fun cc_ => ?_) (fun cc_ => ?_)
    · have h := h.1 cc_
      exact J179 x5_j125 x6_134 x7_145 r157 x9_j125 f_xs_j125 f_ys_j125 f_walked_j125 _ _ _ h hP hD hS (lv_sub hl [3, 4, 5, 6, 7, 8, 2, 1, 0, 9] rfl)
    · have h := h.2 cc_
      refine lv_iload hx hb d_U_walk_168 (lv_at hl 1 rfl) ?_
      refine lv_iload_n hx hb d_U_walk_170 rfl (lv_at hl 5 rfl) ?_
      refine lv_icmp_ne (tgt := 179) hx hb d_U_walk_171 (by decide) (fun cc_ => ?_) (fun cc_ => ?_)
      · have h := h.1 cc_
        exact J179 x5_j125 x6_134 x7_145 r157 x9_j125 f_xs_j125 f_ys_j125 f_walked_j125 _ _ _ h hP hD hS (lv_sub hl [3, 4, 5, 6, 7, 8, 2, 1, 0, 9] rfl)
      · have h := h.2 cc_
        refine lv_iload hx hb d_U_walk_174 (lv_at hl 0 rfl) ?_
        refine lv_if_eq (tgt := 183) hx hb d_U_walk_176 (by decide) (fun cc_ => ?_) (fun cc_ => ?_)
        · have h := h.1 cc_
          refine lv_iconst (v := 0) hx hb d_U_walk_183 (by decide) ?_
          exact J184 x5_j125 x6_134 x7_145 r157 x9_j125 (0 : Int32) f_xs_j125 f_ys_j125 f_walked_j125 _ _ _ h hP hD hS (lv_sub hl [3, 4, 5, 6, 7, 8, 2, 1, 0, 9] rfl)
        · have h := h.2 cc_
          exact J179 x5_j125 x6_134 x7_145 r157 x9_j125 f_xs_j125 f_ys_j125 f_walked_j125 _ _ _ h hP hD hS (lv_sub hl [3, 4, 5, 6, 7, 8, 2, 1, 0, 9] rfl)
  have J112 : ∀ (x5_j112 : Int32) (x6_j112 : Int32) (x7_j112 : Int32) (x8_j112 : Int32) (x9_j112 : Int32) (f_xs_j112 : Nat → Int32) (f_ys_j112 : Nat → Int32) (f_walked_j112 : Nat → Int32) (H : Heap) (locs : List Loc) (ls : Array Slot), wp_U_walk_J112 n_begins n_layers n_areas n_xs n_ys n_picture_colours n_walked c_count c_picture_width c_picture_height f_picture_colours f_begins f_layers f_areas f_xs_j112 f_ys_j112 f_walked_j112 x1 x2 x3 x4 x5_j112 x6_j112 x7_j112 x8_j112 x9_j112 back26 post → va_P (dC, dI) vwCl (cw_U_walk cB cI a_this a_begins a_layers a_areas a_xs a_ys a_picture a_picture_colours a_walked n_begins n_layers n_areas n_xs n_ys n_picture_colours n_walked c_count c_traced f_begins f_layers f_areas f_xs_j112 f_ys_j112 c_picture_width c_picture_height f_picture_colours f_walked_j112) H → va_D A (cw_U_walk cB cI a_this a_begins a_layers a_areas a_xs a_ys a_picture a_picture_colours a_walked n_begins n_layers n_areas n_xs n_ys n_picture_colours n_walked c_count c_traced f_begins f_layers f_areas f_xs_j112 f_ys_j112 c_picture_width c_picture_height f_picture_colours f_walked_j112) → va_S A s.heap H locs → lv_has ls 11 [(0, .ref a_this), (1, .int x1), (2, .int x2), (3, .int x3), (4, .int x4), (5, .int x5_j112), (6, .int x6_j112), (7, .int x7_j112), (8, .int x8_j112), (9, .int x9_j112)] → W p l e (headSpec w_U_walk ({ frames := 5, cells := 0, slots := 0, locals := 124 })).room s m ([.ref a_this, .int x1, .int x2, .int x3, .int x4] : List Value).toArray below meth c H locs 0 0 Qf (F0 m 112 ls []) := by
    intro x5_j112 x6_j112 x7_j112 x8_j112 x9_j112 f_xs_j112 f_ys_j112 f_walked_j112 H locs ls h hP hD hS hl
    unfold wp_U_walk_J112 at h
    refine lv_iload hx hb d_U_walk_112 (lv_at hl 8 rfl) ?_
    refine lv_iconst (v := 2) hx hb d_U_walk_114 (by decide) ?_
    refine lv_icmp_ne (tgt := 125) hx hb d_U_walk_115 (by decide) (fun cc_ => ?_) (fun cc_ => ?_)
    · have h := h.1 cc_
      exact J125 x5_j112 x6_j112 x7_j112 x8_j112 x9_j112 f_xs_j112 f_ys_j112 f_walked_j112 _ _ _ h hP hD hS (lv_sub hl [0, 1, 2, 3, 4, 5, 6, 7, 8, 9] rfl)
    · have h := h.2 cc_
      refine lv_iload hx hb d_U_walk_118 (lv_at hl 5 rfl) ?_
      refine lv_iload hx hb d_U_walk_120 (lv_at hl 7 rfl) ?_
      refine lv_iadd hx hb d_U_walk_122 ?_
      refine lv_topi (fun x5_123 e_x5_123 => ?_)
      have h := h x5_123 e_x5_123
      refine lv_istore (lv' := [(5, .int x5_123), (0, .ref a_this), (1, .int x1), (2, .int x2), (3, .int x3), (4, .int x4), (6, .int x6_j112), (7, .int x7_j112), (8, .int x8_j112), (9, .int x9_j112)]) hx hb d_U_walk_123 hl (by decide) rfl (fun ls hl => ?_)
      exact J125 x5_123 x6_j112 x7_j112 x8_j112 x9_j112 f_xs_j112 f_ys_j112 f_walked_j112 _ _ _ h hP hD hS (lv_sub hl [1, 2, 3, 4, 5, 0, 6, 7, 8, 9] rfl)
  refine lv_iload hx hb d_U_walk_26 (lv_at hl 10 rfl) ?_
  refine lv_if_eq (tgt := 189) hx hb d_U_walk_28 (by decide) (fun cc_ => ?_) (fun cc_ => ?_)
  · have h := h.1 cc_
    exact J189 x3 x5_l26 x9_l26 f_begins f_layers f_areas f_xs_l26 f_ys_l26 f_walked_l26 _ _ _ h hP hD hS (lv_sub hl [0, 3, 5, 9] rfl)
  · have h := h.2 cc_
    refine lv_iload hx hb d_U_walk_31 (lv_at hl 9 rfl) ?_
    refine lv_aload_n hx hb d_U_walk_33 rfl (lv_at hl 0 rfl) ?_
    refine va_get (D := (dC, dI)) (ci := 2) (v := .ref a_xs) (C := R_U) (T := F_U) (N := 9) hx hb hts i_U_in hown hK hP 0 rfl rfl 1 (by decide) (hts _ q_62) (fun _ h9 => h9) rfl d_U_walk_34 ?_
    refine va_alen hx hb hK hP 4 1 rfl rfl (v := (Int32.ofNat n_xs)) rfl d_U_walk_37 ?_
    refine lv_icmp_ge (tgt := 189) hx hb d_U_walk_38 (by decide) (fun cc_ => ?_) (fun cc_ => ?_)
    · have h := h.1 cc_
      exact J189 x3 x5_l26 x9_l26 f_begins f_layers f_areas f_xs_l26 f_ys_l26 f_walked_l26 _ _ _ h hP hD hS (lv_sub hl [0, 3, 5, 9] rfl)
    · have h := h.2 cc_
      refine lv_aload_n hx hb d_U_walk_41 rfl (lv_at hl 0 rfl) ?_
      refine va_get (D := (dC, dI)) (ci := 2) (v := .ref a_xs) (C := R_U) (T := F_U) (N := 9) hx hb hts i_U_in hown hK hP 0 rfl rfl 1 (by decide) (hts _ q_62) (fun _ h9 => h9) rfl d_U_walk_42 ?_
      refine lv_iload hx hb d_U_walk_45 (lv_at hl 9 rfl) ?_
      refine lv_iload hx hb d_U_walk_47 (lv_at hl 6 rfl) ?_
      refine lv_i2b hx hb d_U_walk_49 rfl ?_
      obtain ⟨hin, h⟩ := h
      refine va_bast hx hb hK hP hD hS 4 1 rfl rfl hin d_U_walk_50 (fun H locs hP hD hS => ?_)
      obtain ⟨f50, e_f50⟩ : ∃ y : Nat → Int32, y = upd f_xs_l26 x9_l26.toNatClampNeg (vp_nar .byte (x6_l26.toInt8.toInt32)) := ⟨_, rfl⟩
      have h := h f50 e_f50
      have hP : va_P (dC, dI) vwCl (cw_U_walk cB cI a_this a_begins a_layers a_areas a_xs a_ys a_picture a_picture_colours a_walked n_begins n_layers n_areas n_xs n_ys n_picture_colours n_walked c_count c_traced f_begins f_layers f_areas f50 f_ys_l26 c_picture_width c_picture_height f_picture_colours f_walked_l26) H := by rw [e_f50]; exact hP
      have hD : va_D A (cw_U_walk cB cI a_this a_begins a_layers a_areas a_xs a_ys a_picture a_picture_colours a_walked n_begins n_layers n_areas n_xs n_ys n_picture_colours n_walked c_count c_traced f_begins f_layers f_areas f50 f_ys_l26 c_picture_width c_picture_height f_picture_colours f_walked_l26) := by rw [e_f50]; exact hD
      refine lv_aload_n hx hb d_U_walk_51 rfl (lv_at hl 0 rfl) ?_
      refine va_get (D := (dC, dI)) (ci := 2) (v := .ref a_ys) (C := R_U) (T := F_U) (N := 9) hx hb hts i_U_in hown hK hP 0 rfl rfl 2 (by decide) (hts _ q_65) (fun _ h9 => h9) rfl d_U_walk_52 ?_
      refine lv_iload hx hb d_U_walk_55 (lv_at hl 9 rfl) ?_
      refine lv_iload hx hb d_U_walk_57 (lv_at hl 7 rfl) ?_
      refine lv_i2b hx hb d_U_walk_59 rfl ?_
      obtain ⟨hin, h⟩ := h
      refine va_bast hx hb hK hP hD hS 5 1 rfl rfl hin d_U_walk_60 (fun H locs hP hD hS => ?_)
      obtain ⟨f60, e_f60⟩ : ∃ y : Nat → Int32, y = upd f_ys_l26 x9_l26.toNatClampNeg (vp_nar .byte (x7_l26.toInt8.toInt32)) := ⟨_, rfl⟩
      have h := h f60 e_f60
      have hP : va_P (dC, dI) vwCl (cw_U_walk cB cI a_this a_begins a_layers a_areas a_xs a_ys a_picture a_picture_colours a_walked n_begins n_layers n_areas n_xs n_ys n_picture_colours n_walked c_count c_traced f_begins f_layers f_areas f50 f60 c_picture_width c_picture_height f_picture_colours f_walked_l26) H := by rw [e_f60]; exact hP
      have hD : va_D A (cw_U_walk cB cI a_this a_begins a_layers a_areas a_xs a_ys a_picture a_picture_colours a_walked n_begins n_layers n_areas n_xs n_ys n_picture_colours n_walked c_count c_traced f_begins f_layers f_areas f50 f60 c_picture_width c_picture_height f_picture_colours f_walked_l26) := by rw [e_f60]; exact hD
      obtain ⟨x9_61, e_x9_61⟩ : ∃ y : Int32, y = x9_l26 + (1 : Int32) := ⟨_, rfl⟩
      have h := h x9_61 e_x9_61
      refine lv_iinc (v := x9_61) (lv' := [(9, .int x9_61), (0, .ref a_this), (1, .int x1), (2, .int x2), (3, .int x3), (4, .int x4), (5, .int x5_l26), (6, .int x6_l26), (7, .int x7_l26), (8, .int x8_l26), (10, .int x10_l26)]) hx hb d_U_walk_61 hl (k := 9) rfl (by rw [e_x9_61]; rfl) (by decide) rfl (fun ls hl => ?_)
      refine lv_iload hx hb d_U_walk_64 (lv_at hl 9 rfl) ?_
      refine lv_if_ne (tgt := 112) hx hb d_U_walk_66 (by decide) (fun cc_ => ?_) (fun cc_ => ?_)
      · have h := h.1 cc_
        exact J112 x5_l26 x6_l26 x7_l26 x8_l26 x9_61 f50 f60 f_walked_l26 _ _ _ h hP hD hS (lv_sub hl [1, 2, 3, 4, 5, 6, 7, 8, 9, 0] rfl)
      · have h := h.2 cc_
        refine lv_aload_n hx hb d_U_walk_69 rfl (lv_at hl 1 rfl) ?_
        refine va_get (D := (dC, dI)) (ci := 2) (v := .ref a_picture) (C := R_U) (T := F_U) (N := 9) hx hb hts i_U_in hown hK hP 0 rfl rfl 0 (by decide) (hts _ q_61) (fun _ h9 => h9) rfl d_U_walk_70 ?_
        refine lv_iload hx hb d_U_walk_73 (lv_at hl 7 rfl) ?_
        refine lv_iload hx hb d_U_walk_75 (lv_at hl 8 rfl) ?_
        obtain ⟨Q77, hq77, h⟩ := h
        have hPc := hP.sub (ws' := (cw_P_has a_picture a_picture_colours c_picture_width c_picture_height)) [6] rfl
        have hDc := hD.sub (ws' := (cw_P_has a_picture a_picture_colours c_picture_width c_picture_height)) [6] (by decide) rfl
        have hFc := va_free (wc := (cw_P_has a_picture a_picture_colours c_picture_width c_picture_height)) hD hS hA [6] rfl
        refine va_calli (va_runV (As := [.int x6_l26, .int x7_l26]) (rest := []) ⟨hx, hb, hml, hown, hts⟩ (c_P_has l dC dI cI cB cJ cZ a_picture a_picture_colours H.size c_picture_width c_picture_height x6_l26 x7_l26 Q77 hq77) (cwV 2 hts (goodV q_378 q_259 q_260 q_2 q_261) rfl rfl rfl (by decide +kernel) ⟨Nat.le_of_ble_eq_true rfl, Nat.le_of_ble_eq_true rfl⟩) ⟨fun a U g mk q => by obtain ⟨q0, q1, qP, qK, qD⟩ := q; exact ⟨q0, q1, qP, va_K.moved (u := U) (U := U.calling g mk a) (Vm.Alike.refl U.vm) qK, qD⟩, va_recv hK hPc (ci := 1) (q0 := 0) rfl rfl, fun U hU hW => ⟨rfl, by rw [hU], by rw [hU]; exact hPc, va_K.moved hW.alike hK, hDc.weaken (fun _ _ _ _ => trivial)⟩⟩ rfl rfl hl.1 rfl (lv_room (Nat.le_of_ble_eq_true rfl)) d_U_walk_77 ⟨Nat.le_of_ble_eq_true rfl, Nat.le_of_ble_eq_true rfl⟩) hS (fun q _ h => hFc q h) hFc (fun r77 u77 t H1 locs ht hvm hw hB hz1 hk1 hS => ?_)
        cases u77
        obtain ⟨hP1, -, hD1⟩ := hB
        rw [ht] at hP1
        have h := h r77 hw
        obtain ⟨hP, hD⟩ := va_join (wr := [(a_this, .inr (2, [.ref a_picture, .ref a_xs, .ref a_ys, .ref a_begins, .ref a_layers, .ref a_areas, .ref a_walked, .int c_count, .int c_traced])), (a_begins, .inl (cI, n_begins, .inl f_begins)), (a_layers, .inl (cB, n_layers, .inl f_layers)), (a_areas, .inl (cI, n_areas, .inl f_areas)), (a_xs, .inl (cB, n_xs, .inl f50)), (a_ys, .inl (cB, n_ys, .inl f60)), (a_picture_colours, .inl (cB, n_picture_colours, .inl f_picture_colours)), (a_walked, .inl (cB, n_walked, .inl f_walked_l26))]) (w1 := (cw_P_has a_picture a_picture_colours c_picture_width c_picture_height)) hP hD [6] [0, 1, 2, 3, 4, 5, 7, 8] rfl rfl (by decide) (by decide) hk1 hFc hP1 hD1
        clear hP1 hD1 hk1 hPc hDc hFc
        generalize H1 = H at hP hS ⊢
        have hP : va_P (dC, dI) vwCl (cw_U_walk cB cI a_this a_begins a_layers a_areas a_xs a_ys a_picture a_picture_colours a_walked n_begins n_layers n_areas n_xs n_ys n_picture_colours n_walked c_count c_traced f_begins f_layers f_areas f50 f60 c_picture_width c_picture_height f_picture_colours f_walked_l26) H := hP.sub [0, 1, 2, 3, 4, 5, 8, 6, 7] rfl
        have hD : va_D A (cw_U_walk cB cI a_this a_begins a_layers a_areas a_xs a_ys a_picture a_picture_colours a_walked n_begins n_layers n_areas n_xs n_ys n_picture_colours n_walked c_count c_traced f_begins f_layers f_areas f50 f60 c_picture_width c_picture_height f_picture_colours f_walked_l26) := hD.sub [0, 1, 2, 3, 4, 5, 8, 6, 7] (by decide) rfl
        refine lv_if_eq (tgt := 112) hx hb d_U_walk_80 (by decide) (fun cc_ => ?_) (fun cc_ => ?_)
        · have h := h.1 cc_
          exact J112 x5_l26 x6_l26 x7_l26 x8_l26 x9_61 f50 f60 f_walked_l26 _ _ _ h hP hD hS (lv_sub hl [1, 2, 3, 4, 5, 6, 7, 8, 9, 0] rfl)
        · have h := h.2 cc_
          refine lv_aload_n hx hb d_U_walk_83 rfl (lv_at hl 1 rfl) ?_
          refine va_get (D := (dC, dI)) (ci := 2) (v := .ref a_walked) (C := R_U) (T := F_U) (N := 9) hx hb hts i_U_in hown hK hP 0 rfl rfl 6 (by decide) (hts _ q_75) (fun _ h9 => h9) rfl d_U_walk_84 ?_
          refine lv_iload hx hb d_U_walk_87 (lv_at hl 8 rfl) ?_
          refine lv_aload_n hx hb d_U_walk_89 rfl (lv_at hl 1 rfl) ?_
          refine va_get (D := (dC, dI)) (ci := 2) (v := .ref a_picture) (C := R_U) (T := F_U) (N := 9) hx hb hts i_U_in hown hK hP 0 rfl rfl 0 (by decide) (hts _ q_61) (fun _ h9 => h9) rfl d_U_walk_90 ?_
          refine va_get (D := (dC, dI)) (ci := 1) (v := .int c_picture_width) (C := R_P) (T := F_P) (N := 3) hx hb hts i_P_in hown hK hP 6 rfl rfl 0 (by decide) (hts _ q_37) (fun _ h9 => h9) rfl d_U_walk_93 ?_
          refine lv_imul hx hb d_U_walk_96 ?_
          refine lv_iload hx hb d_U_walk_97 (lv_at hl 7 rfl) ?_
          refine lv_iadd hx hb d_U_walk_99 ?_
          refine lv_iconst (v := 1) hx hb d_U_walk_100 (by decide) ?_
          obtain ⟨hin, h⟩ := h
          refine va_bast hx hb hK hP hD hS 8 1 rfl rfl hin d_U_walk_101 (fun H locs hP hD hS => ?_)
          obtain ⟨f101, e_f101⟩ : ∃ y : Nat → Int32, y = upd f_walked_l26 ((x7_l26 * c_picture_width) + x6_l26).toNatClampNeg (vp_nar .byte (1 : Int32)) := ⟨_, rfl⟩
          have h := h f101 e_f101
          have hP : va_P (dC, dI) vwCl (cw_U_walk cB cI a_this a_begins a_layers a_areas a_xs a_ys a_picture a_picture_colours a_walked n_begins n_layers n_areas n_xs n_ys n_picture_colours n_walked c_count c_traced f_begins f_layers f_areas f50 f60 c_picture_width c_picture_height f_picture_colours f101) H := by rw [e_f101]; exact hP
          have hD : va_D A (cw_U_walk cB cI a_this a_begins a_layers a_areas a_xs a_ys a_picture a_picture_colours a_walked n_begins n_layers n_areas n_xs n_ys n_picture_colours n_walked c_count c_traced f_begins f_layers f_areas f50 f60 c_picture_width c_picture_height f_picture_colours f101) := by rw [e_f101]; exact hD
          refine lv_iload hx hb d_U_walk_102 (lv_at hl 6 rfl) ?_
          refine lv_iload hx hb d_U_walk_104 (lv_at hl 8 rfl) ?_
          refine lv_isub hx hb d_U_walk_106 ?_
          refine lv_topi (fun x5_107 e_x5_107 => ?_)
          have h := h x5_107 e_x5_107
          refine lv_istore (lv' := [(5, .int x5_107), (9, .int x9_61), (0, .ref a_this), (1, .int x1), (2, .int x2), (3, .int x3), (4, .int x4), (6, .int x6_l26), (7, .int x7_l26), (8, .int x8_l26), (10, .int x10_l26)]) hx hb d_U_walk_107 hl (by decide) rfl (fun ls hl => ?_)
          refine lv_goto (tgt := 125) hx hb d_U_walk_109 (by decide) ?_
          exact J125 x5_107 x6_l26 x7_l26 x8_l26 x9_61 f50 f60 f101 _ _ _ h hP hD hS (lv_sub hl [2, 3, 4, 5, 6, 0, 7, 8, 9, 1] rfl)
def wp_U_addLayer_J103 (n_walked n_picture_colours n_layers n_begins n_areas n_xs n_ys : Nat) (c_picture_width : Int32) (c_picture_height : Int32) (f_picture_colours : Nat → Int32) (c_count : Int32) (c_traced : Int32) (f_walked : Nat → Int32) (f_layers : Nat → Int32) (f_begins : Nat → Int32) (f_areas : Nat → Int32) (f_xs : Nat → Int32) (f_ys : Nat → Int32) (x1 : Int32) (x2 : Int32) (x3 : Int32) (x4 : Int32) (x5 : Int32) (back16 : (Int32 × Int32 × (Nat → Int32) × (Nat → Int32) × (Nat → Int32) × (Nat → Int32) × (Nat → Int32) × (Nat → Int32)) → Prop) (back31 : (Int32 × Int32 × (Nat → Int32) × (Nat → Int32) × (Nat → Int32) × (Nat → Int32) × (Nat → Int32) × (Nat → Int32)) → Prop) (post : (Int32 × Int32 × (Nat → Int32) × (Nat → Int32) × (Nat → Int32) × (Nat → Int32) × (Nat → Int32) × (Nat → Int32)) → Prop) : Prop :=
  ∀ x5_103 : Int32, x5_103 = x5 + (1 : Int32) → back31 (x5_103, c_count, f_walked, f_layers, f_begins, f_areas, f_xs, f_ys)
def wp_U_addLayer_L31 (n_walked n_picture_colours n_layers n_begins n_areas n_xs n_ys : Nat) (c_picture_width : Int32) (c_picture_height : Int32) (f_picture_colours : Nat → Int32) (c_traced : Int32) (x1 : Int32) (x2 : Int32) (x3 : Int32) (x4 : Int32) (back16 : (Int32 × Int32 × (Nat → Int32) × (Nat → Int32) × (Nat → Int32) × (Nat → Int32) × (Nat → Int32) × (Nat → Int32)) → Prop) (post : (Int32 × Int32 × (Nat → Int32) × (Nat → Int32) × (Nat → Int32) × (Nat → Int32) × (Nat → Int32) × (Nat → Int32)) → Prop) (back31 : (Int32 × Int32 × (Nat → Int32) × (Nat → Int32) × (Nat → Int32) × (Nat → Int32) × (Nat → Int32) × (Nat → Int32)) → Prop) (x5 : Int32) (c_count : Int32) (f_walked : Nat → Int32) (f_layers : Nat → Int32) (f_begins : Nat → Int32) (f_areas : Nat → Int32) (f_xs : Nat → Int32) (f_ys : Nat → Int32) : Prop :=
  (c_picture_width ≤ x5 → ∀ x4_109 : Int32, x4_109 = x4 + (1 : Int32) → back16 (x4_109, c_count, f_walked, f_layers, f_begins, f_areas, f_xs, f_ys)) ∧ (¬ c_picture_width ≤ x5 → ∃ Q49 : Int32 → Unit → Prop, wp_U_beginsOutline n_picture_colours n_walked c_picture_width c_picture_height f_picture_colours f_walked x5 x4 x1 Q49 ∧ ∀ (r49 : Int32), Q49 r49 () → (r49 = 0 → wp_U_addLayer_J103 n_walked n_picture_colours n_layers n_begins n_areas n_xs n_ys c_picture_width c_picture_height f_picture_colours c_count c_traced f_walked f_layers f_begins f_areas f_xs f_ys x1 x2 x3 x4 x5 back16 back31 post) ∧ (¬ r49 = 0 → ((Int32.ofNat n_layers) ≤ c_count → wp_U_addLayer_J103 n_walked n_picture_colours n_layers n_begins n_areas n_xs n_ys c_picture_width c_picture_height f_picture_colours c_count c_traced f_walked f_layers f_begins f_areas f_xs f_ys x1 x2 x3 x4 x5 back16 back31 post) ∧ (¬ (Int32.ofNat n_layers) ≤ c_count → ∃ Q74 : ((Nat → Int32) × (Nat → Int32) × (Nat → Int32) × (Nat → Int32) × (Nat → Int32) × (Nat → Int32)) → Prop, wp_U_walk n_begins n_layers n_areas n_xs n_ys n_picture_colours n_walked c_count f_begins f_layers f_areas f_xs f_ys c_picture_width c_picture_height f_picture_colours f_walked x5 x4 x1 x2 Q74 ∧ ∀ (u74_0 : Nat → Int32) (u74_1 : Nat → Int32) (u74_2 : Nat → Int32) (u74_3 : Nat → Int32) (u74_4 : Nat → Int32) (u74_5 : Nat → Int32), Q74 (u74_0, u74_1, u74_2, u74_3, u74_4, u74_5) → vp_in c_count n_areas ∧ ((jabs (u74_2 c_count.toNatClampNeg)) ≤ x3 → wp_U_addLayer_J103 n_walked n_picture_colours n_layers n_begins n_areas n_xs n_ys c_picture_width c_picture_height f_picture_colours c_count c_traced u74_5 u74_1 u74_0 u74_2 u74_3 u74_4 x1 x2 x3 x4 x5 back16 back31 post) ∧ (¬ (jabs (u74_2 c_count.toNatClampNeg)) ≤ x3 → ∀ v100 : Int32, v100 = (c_count + (1 : Int32)) → wp_U_addLayer_J103 n_walked n_picture_colours n_layers n_begins n_areas n_xs n_ys c_picture_width c_picture_height f_picture_colours v100 c_traced u74_5 u74_1 u74_0 u74_2 u74_3 u74_4 x1 x2 x3 x4 x5 back16 back31 post))))
def wp_U_addLayer_L16 (n_walked n_picture_colours n_layers n_begins n_areas n_xs n_ys : Nat) (c_picture_width : Int32) (c_picture_height : Int32) (f_picture_colours : Nat → Int32) (c_traced : Int32) (x1 : Int32) (x2 : Int32) (x3 : Int32) (post : (Int32 × Int32 × (Nat → Int32) × (Nat → Int32) × (Nat → Int32) × (Nat → Int32) × (Nat → Int32) × (Nat → Int32)) → Prop) (back16 : (Int32 × Int32 × (Nat → Int32) × (Nat → Int32) × (Nat → Int32) × (Nat → Int32) × (Nat → Int32) × (Nat → Int32)) → Prop) (x4 : Int32) (c_count : Int32) (f_walked : Nat → Int32) (f_layers : Nat → Int32) (f_begins : Nat → Int32) (f_areas : Nat → Int32) (f_xs : Nat → Int32) (f_ys : Nat → Int32) : Prop :=
  (c_picture_height ≤ x4 → post (c_count, c_traced, f_walked, f_layers, f_begins, f_areas, f_xs, f_ys)) ∧ (¬ c_picture_height ≤ x4 → lpW (fun b z => wp_U_addLayer_L31 n_walked n_picture_colours n_layers n_begins n_areas n_xs n_ys c_picture_width c_picture_height f_picture_colours c_traced x1 x2 x3 x4 back16 post b z.1 z.2.1 z.2.2.1 z.2.2.2.1 z.2.2.2.2.1 z.2.2.2.2.2.1 z.2.2.2.2.2.2.1 z.2.2.2.2.2.2.2) ((0 : Int32), c_count, f_walked, f_layers, f_begins, f_areas, f_xs, f_ys))
def wp_U_addLayer (n_walked n_picture_colours n_layers n_begins n_areas n_xs n_ys : Nat) (c_count : Int32) (c_traced : Int32) (f_walked : Nat → Int32) (c_picture_width : Int32) (c_picture_height : Int32) (f_picture_colours : Nat → Int32) (f_layers : Nat → Int32) (f_begins : Nat → Int32) (f_areas : Nat → Int32) (f_xs : Nat → Int32) (f_ys : Nat → Int32) (x1 : Int32) (x2 : Int32) (x3 : Int32) (post : (Int32 × Int32 × (Nat → Int32) × (Nat → Int32) × (Nat → Int32) × (Nat → Int32) × (Nat → Int32) × (Nat → Int32)) → Prop) : Prop :=
  ∃ Q10 : (Nat → Int32) → Prop, wp_Ja_fill n_walked f_walked (0 : Int32) Q10 ∧ ∀ (u10_0 : Nat → Int32), Q10 u10_0 → lpW (fun b z => wp_U_addLayer_L16 n_walked n_picture_colours n_layers n_begins n_areas n_xs n_ys c_picture_width c_picture_height f_picture_colours (1 : Int32) x1 x2 x3 post b z.1 z.2.1 z.2.2.1 z.2.2.2.1 z.2.2.2.2.1 z.2.2.2.2.2.1 z.2.2.2.2.2.2.1 z.2.2.2.2.2.2.2) ((0 : Int32), c_count, u10_0, f_layers, f_begins, f_areas, f_xs, f_ys)
abbrev cw_U_addLayer (cB cI : ClassId) (a_this a_walked a_picture a_picture_colours a_layers a_begins a_areas a_xs a_ys : Nat) (n_walked n_picture_colours n_layers n_begins n_areas n_xs n_ys : Nat) (c_count : Int32) (c_traced : Int32) (f_walked : Nat → Int32) (c_picture_width : Int32) (c_picture_height : Int32) (f_picture_colours : Nat → Int32) (f_layers : Nat → Int32) (f_begins : Nat → Int32) (f_areas : Nat → Int32) (f_xs : Nat → Int32) (f_ys : Nat → Int32) : va_W := [(a_this, .inr (2, [.ref a_picture, .ref a_xs, .ref a_ys, .ref a_begins, .ref a_layers, .ref a_areas, .ref a_walked, .int c_count, .int c_traced])), (a_walked, .inl (cB, n_walked, .inl f_walked)), (a_picture, .inr (1, [.int c_picture_width, .int c_picture_height, .ref a_picture_colours])), (a_picture_colours, .inl (cB, n_picture_colours, .inl f_picture_colours)), (a_layers, .inl (cB, n_layers, .inl f_layers)), (a_begins, .inl (cI, n_begins, .inl f_begins)), (a_areas, .inl (cI, n_areas, .inl f_areas)), (a_xs, .inl (cB, n_xs, .inl f_xs)), (a_ys, .inl (cB, n_ys, .inl f_ys))]
abbrev qq_U_addLayer (dC : Nat → ClassId) (dI : Nat → Nat → Nat) (cI cB cJ cZ : ClassId) (a_this a_walked a_picture a_picture_colours a_layers a_begins a_areas a_xs a_ys : Nat) (n_walked n_picture_colours n_layers n_begins n_areas n_xs n_ys : Nat) (c_picture_width : Int32) (c_picture_height : Int32) (f_picture_colours : Nat → Int32) (A : Nat → Prop) (post : (Int32 × Int32 × (Nat → Int32) × (Nat → Int32) × (Nat → Int32) × (Nat → Int32) × (Nat → Int32) × (Nat → Int32)) → Prop) : Array Value → State → Outcome → State → Prop := va_Qv post (fun u t => va_P (dC, dI) vwCl (cw_U_addLayer cB cI a_this a_walked a_picture a_picture_colours a_layers a_begins a_areas a_xs a_ys n_walked n_picture_colours n_layers n_begins n_areas n_xs n_ys u.1 u.2.1 u.2.2.1 c_picture_width c_picture_height f_picture_colours u.2.2.2.1 u.2.2.2.2.1 u.2.2.2.2.2.1 u.2.2.2.2.2.2.1 u.2.2.2.2.2.2.2) t.heap ∧ va_K (dC, dI) vwCl [(cI, .int), (cB, .byte), (cJ, .long), (cZ, .boolean)] t ∧ va_D A (cw_U_addLayer cB cI a_this a_walked a_picture a_picture_colours a_layers a_begins a_areas a_xs a_ys n_walked n_picture_colours n_layers n_begins n_areas n_xs n_ys u.1 u.2.1 u.2.2.1 c_picture_width c_picture_height f_picture_colours u.2.2.2.1 u.2.2.2.2.1 u.2.2.2.2.2.1 u.2.2.2.2.2.2.1 u.2.2.2.2.2.2.2)) A
set_option maxHeartbeats 4000000 in
set_option maxRecDepth 100000 in
theorem c_U_addLayer (l : Launch) (dC : Nat → ClassId) (dI : Nat → Nat → Nat) (cI cB cJ cZ : ClassId) (a_this a_walked a_picture a_picture_colours a_layers a_begins a_areas a_xs a_ys : Nat) (t_STEP_X : Nat) (t_STEP_Y : Nat) (t_AHEAD_X : Nat) (t_AHEAD_Y : Nat) (sz : Nat) (n_walked n_picture_colours n_layers n_begins n_areas n_xs n_ys : Nat) (c_count : Int32) (c_traced : Int32) (f_walked : Nat → Int32) (c_picture_width : Int32) (c_picture_height : Int32) (f_picture_colours : Nat → Int32) (f_layers : Nat → Int32) (f_begins : Nat → Int32) (f_areas : Nat → Int32) (f_xs : Nat → Int32) (f_ys : Nat → Int32) (x1 : Int32) (x2 : Int32) (x3 : Int32) (post : (Int32 × Int32 × (Nat → Int32) × (Nat → Int32) × (Nat → Int32) × (Nat → Int32) × (Nat → Int32) × (Nat → Int32)) → Prop) (h : wp_U_addLayer n_walked n_picture_colours n_layers n_begins n_areas n_xs n_ys c_count c_traced f_walked c_picture_width c_picture_height f_picture_colours f_layers f_begins f_areas f_xs f_ys x1 x2 x3 post) : Met l y_U_addLayer w_U_addLayer ({ frames := 6, cells := 0, slots := 0, locals := 154 }) (va_Pc [.ref a_this, .int x1, .int x2, .int x3] (fun U => U.heap.size = sz ∧ va_P (dC, dI) vwCl (cw_U_addLayer cB cI a_this a_walked a_picture a_picture_colours a_layers a_begins a_areas a_xs a_ys n_walked n_picture_colours n_layers n_begins n_areas n_xs n_ys c_count c_traced f_walked c_picture_width c_picture_height f_picture_colours f_layers f_begins f_areas f_xs f_ys) U.heap ∧ va_K (dC, dI) vwCl [(cI, .int), (cB, .byte), (cJ, .long), (cZ, .boolean)] U ∧ va_D (fun _ => True) (cw_U_addLayer cB cI a_this a_walked a_picture a_picture_colours a_layers a_begins a_areas a_xs a_ys n_walked n_picture_colours n_layers n_begins n_areas n_xs n_ys c_count c_traced f_walked c_picture_width c_picture_height f_picture_colours f_layers f_begins f_areas f_xs f_ys) ∧ va_Z "OutlineCurves$Outlines" "STEP_X" "[I" (.ref t_STEP_X) (va_A (cw_U_addLayer cB cI a_this a_walked a_picture a_picture_colours a_layers a_begins a_areas a_xs a_ys n_walked n_picture_colours n_layers n_begins n_areas n_xs n_ys c_count c_traced f_walked c_picture_width c_picture_height f_picture_colours f_layers f_begins f_areas f_xs f_ys) sz) U U.heap ∧ va_T .int t_STEP_X 4 (fun j => .int (tb_STEP_X j)) (va_A (cw_U_addLayer cB cI a_this a_walked a_picture a_picture_colours a_layers a_begins a_areas a_xs a_ys n_walked n_picture_colours n_layers n_begins n_areas n_xs n_ys c_count c_traced f_walked c_picture_width c_picture_height f_picture_colours f_layers f_begins f_areas f_xs f_ys) sz) U U.heap ∧ va_Z "OutlineCurves$Outlines" "STEP_Y" "[I" (.ref t_STEP_Y) (va_A (cw_U_addLayer cB cI a_this a_walked a_picture a_picture_colours a_layers a_begins a_areas a_xs a_ys n_walked n_picture_colours n_layers n_begins n_areas n_xs n_ys c_count c_traced f_walked c_picture_width c_picture_height f_picture_colours f_layers f_begins f_areas f_xs f_ys) sz) U U.heap ∧ va_T .int t_STEP_Y 4 (fun j => .int (tb_STEP_Y j)) (va_A (cw_U_addLayer cB cI a_this a_walked a_picture a_picture_colours a_layers a_begins a_areas a_xs a_ys n_walked n_picture_colours n_layers n_begins n_areas n_xs n_ys c_count c_traced f_walked c_picture_width c_picture_height f_picture_colours f_layers f_begins f_areas f_xs f_ys) sz) U U.heap ∧ va_Z "OutlineCurves$Outlines" "AHEAD_X" "[I" (.ref t_AHEAD_X) (va_A (cw_U_addLayer cB cI a_this a_walked a_picture a_picture_colours a_layers a_begins a_areas a_xs a_ys n_walked n_picture_colours n_layers n_begins n_areas n_xs n_ys c_count c_traced f_walked c_picture_width c_picture_height f_picture_colours f_layers f_begins f_areas f_xs f_ys) sz) U U.heap ∧ va_T .int t_AHEAD_X 4 (fun j => .int (tb_AHEAD_X j)) (va_A (cw_U_addLayer cB cI a_this a_walked a_picture a_picture_colours a_layers a_begins a_areas a_xs a_ys n_walked n_picture_colours n_layers n_begins n_areas n_xs n_ys c_count c_traced f_walked c_picture_width c_picture_height f_picture_colours f_layers f_begins f_areas f_xs f_ys) sz) U U.heap ∧ va_Z "OutlineCurves$Outlines" "AHEAD_Y" "[I" (.ref t_AHEAD_Y) (va_A (cw_U_addLayer cB cI a_this a_walked a_picture a_picture_colours a_layers a_begins a_areas a_xs a_ys n_walked n_picture_colours n_layers n_begins n_areas n_xs n_ys c_count c_traced f_walked c_picture_width c_picture_height f_picture_colours f_layers f_begins f_areas f_xs f_ys) sz) U U.heap ∧ va_T .int t_AHEAD_Y 4 (fun j => .int (tb_AHEAD_Y j)) (va_A (cw_U_addLayer cB cI a_this a_walked a_picture a_picture_colours a_layers a_begins a_areas a_xs a_ys n_walked n_picture_colours n_layers n_begins n_areas n_xs n_ys c_count c_traced f_walked c_picture_width c_picture_height f_picture_colours f_layers f_begins f_areas f_xs f_ys) sz) U U.heap)) (qq_U_addLayer dC dI cI cB cJ cZ a_this a_walked a_picture a_picture_colours a_layers a_begins a_areas a_xs a_ys n_walked n_picture_colours n_layers n_begins n_areas n_xs n_ys c_picture_width c_picture_height f_picture_colours (va_A (cw_U_addLayer cB cI a_this a_walked a_picture a_picture_colours a_layers a_begins a_areas a_xs a_ys n_walked n_picture_colours n_layers n_begins n_areas n_xs n_ys c_count c_traced f_walked c_picture_width c_picture_height f_picture_colours f_layers f_begins f_areas f_xs f_ys) sz) post) 0 0 (va_A (cw_U_addLayer cB cI a_this a_walked a_picture a_picture_colours a_layers a_begins a_areas a_xs a_ys n_walked n_picture_colours n_layers n_begins n_areas n_xs n_ys c_count c_traced f_walked c_picture_width c_picture_height f_picture_colours f_layers f_begins f_areas f_xs f_ys) sz) := by
  refine Met.ofW (cc := b_U_addLayer) (maxL := 6) (ret := none) (by decide +kernel) rfl ?_
  intro p e s m args below meth c s₁ B hml hv
  obtain ⟨rfl, hsz, hP, hK, hD0, hZ0, hT0, hZ1, hT1, hZ2, hT2, hZ3, hT3⟩ := hv
  have hx := B.exec
  have hb := B.bytes
  have hr := B.returns
  have hts : ∀ w ∈ allW, w.before _ s = true := fun w hw => atoms_spec (ws := w_U_addLayer) B.pre w (List.mem_cons_of_mem _ hw)
  have hown : s.vm.findClass R_U = some m.cls := findClass_of_methodNamed B.named
  have hlocks := B.notSynchronized
  subst hsz
  have hD := hD0.self (sz := s.heap.size)
  generalize hAe : va_A (cw_U_addLayer cB cI a_this a_walked a_picture a_picture_colours a_layers a_begins a_areas a_xs a_ys n_walked n_picture_colours n_layers n_begins n_areas n_xs n_ys c_count c_traced f_walked c_picture_width c_picture_height f_picture_colours f_layers f_begins f_areas f_xs f_ys) s.heap.size = A at hD hZ0 hT0 hZ1 hT1 hZ2 hT2 hZ3 hT3 ⊢
  have hA : ∀ q : Nat, s.heap.size ≤ q → A q := fun q h => by rw [← hAe]; exact Or.inr h
  have hS : va_S A s.heap s.heap [] := va_S.rf
  clear hD0
  generalize hQf : MQ below (qq_U_addLayer dC dI cI cB cJ cZ a_this a_walked a_picture a_picture_colours a_layers a_begins a_areas a_xs a_ys n_walked n_picture_colours n_layers n_begins n_areas n_xs n_ys c_picture_width c_picture_height f_picture_colours A post) ([.ref a_this, .int x1, .int x2, .int x3] : List Value).toArray s 0 0 A = Qf
  have hl := lv_entry ([.ref a_this, .int x1, .int x2, .int x3]) (n := 6) (Nat.le_of_ble_eq_true rfl)
  rw [lg_entry_eq]
  generalize (lg_sl ([.ref a_this, .int x1, .int x2, .int x3]) ++ List.replicate (6 - (lg_sl ([.ref a_this, .int x1, .int x2, .int x3])).length) Slot.unset).toArray = ls at hl ⊢
  have hl : lv_has ls 6 [(0, .ref a_this), (1, .int x1), (2, .int x2), (3, .int x3)] := hl
  unfold wp_U_addLayer at h
  refine lv_aload_n hx hb d_U_addLayer_0 rfl (lv_at hl 0 rfl) ?_
  refine lv_iconst (v := 1) hx hb d_U_addLayer_1 (by decide) ?_
  refine va_put (D := (dC, dI)) (ci := 2) (v := .int (1 : Int32)) (ty := .boolean) (C := R_U) (T := F_U) (N := 9) hx hb hts i_U_in t_U t_U_ok n_U_ne hown hK hP hD hS 0 rfl rfl 8 (by decide) (hts _ q_78) (fun _ h9 => h9) rfl (by decide +kernel) (by rfl) (by rfl) (Nat.le_of_ble_eq_true rfl) d_U_addLayer_2 (fun H locs hP hD hS => ?_)
  have hP : va_P (dC, dI) vwCl (cw_U_addLayer cB cI a_this a_walked a_picture a_picture_colours a_layers a_begins a_areas a_xs a_ys n_walked n_picture_colours n_layers n_begins n_areas n_xs n_ys c_count (1 : Int32) f_walked c_picture_width c_picture_height f_picture_colours f_layers f_begins f_areas f_xs f_ys) H := hP
  have hD : va_D A (cw_U_addLayer cB cI a_this a_walked a_picture a_picture_colours a_layers a_begins a_areas a_xs a_ys n_walked n_picture_colours n_layers n_begins n_areas n_xs n_ys c_count (1 : Int32) f_walked c_picture_width c_picture_height f_picture_colours f_layers f_begins f_areas f_xs f_ys) := hD
  refine lv_aload_n hx hb d_U_addLayer_5 rfl (lv_at hl 0 rfl) ?_
  refine va_get (D := (dC, dI)) (ci := 2) (v := .ref a_walked) (C := R_U) (T := F_U) (N := 9) hx hb hts i_U_in hown hK hP 0 rfl rfl 6 (by decide) (hts _ q_75) (fun _ h9 => h9) rfl d_U_addLayer_6 ?_
  refine lv_iconst (v := 0) hx hb d_U_addLayer_9 (by decide) ?_
  obtain ⟨Q10, hq10, h⟩ := h
  have hPc := hP.sub (ws' := (cw_Ja_fill cB a_walked n_walked f_walked)) [1] rfl
  have hDc := hD.sub (ws' := (cw_Ja_fill cB a_walked n_walked f_walked)) [1] (by decide) rfl
  have hFc := va_free (wc := (cw_Ja_fill cB a_walked n_walked f_walked)) hD hS hA [1] rfl
  refine va_callv (va_runS (As := [.ref a_walked, .int (0 : Int32)]) (rest := []) ⟨hx, hb, hml, hown, hts⟩ (c_Ja_fill l dC dI cI cB cJ cZ a_walked H.size n_walked f_walked (0 : Int32) Q10 hq10) (va_cwS 2 hts (goodS q_364 q_224 q_13 q_225) rfl rfl rfl (by decide +kernel) ⟨Nat.le_of_ble_eq_true rfl, Nat.le_of_ble_eq_true rfl⟩) ⟨fun a U g mk q => by obtain ⟨q0, q1, qP, qK, qD⟩ := q; exact ⟨q0, q1, qP, va_K.moved (u := U) (U := U.calling g mk a) (Vm.Alike.refl U.vm) qK, qD⟩, fun U hU hW => ⟨rfl, by rw [hU], by rw [hU]; exact hPc, va_K.moved hW.alike hK, hDc.weaken (fun _ _ _ _ => trivial)⟩⟩ rfl rfl hl.1 rfl (lv_room (Nat.le_of_ble_eq_true rfl)) d_U_addLayer_10 ⟨Nat.le_of_ble_eq_true rfl, Nat.le_of_ble_eq_true rfl⟩) hS (fun q _ h => hFc q h) hFc (fun u10 t H1 locs ht hvm hw hB hz1 hk1 hS => ?_)
  obtain ⟨u10_0, rfl⟩ : ∃ z, z = u10 := ⟨_, rfl⟩
  obtain ⟨hP1, -, hD1⟩ := hB
  rw [ht] at hP1
  have h := h u10_0 hw
  obtain ⟨hP, hD⟩ := va_join (wr := [(a_this, .inr (2, [.ref a_picture, .ref a_xs, .ref a_ys, .ref a_begins, .ref a_layers, .ref a_areas, .ref a_walked, .int c_count, .int (1 : Int32)])), (a_picture, .inr (1, [.int c_picture_width, .int c_picture_height, .ref a_picture_colours])), (a_picture_colours, .inl (cB, n_picture_colours, .inl f_picture_colours)), (a_layers, .inl (cB, n_layers, .inl f_layers)), (a_begins, .inl (cI, n_begins, .inl f_begins)), (a_areas, .inl (cI, n_areas, .inl f_areas)), (a_xs, .inl (cB, n_xs, .inl f_xs)), (a_ys, .inl (cB, n_ys, .inl f_ys))]) (w1 := (cw_Ja_fill cB a_walked n_walked u10_0)) hP hD [1] [0, 2, 3, 4, 5, 6, 7, 8] rfl rfl (by decide) (by decide) hk1 hFc hP1 hD1
  clear hP1 hD1 hk1 hPc hDc hFc
  generalize H1 = H at hP hS ⊢
  have hP : va_P (dC, dI) vwCl (cw_U_addLayer cB cI a_this a_walked a_picture a_picture_colours a_layers a_begins a_areas a_xs a_ys n_walked n_picture_colours n_layers n_begins n_areas n_xs n_ys c_count (1 : Int32) u10_0 c_picture_width c_picture_height f_picture_colours f_layers f_begins f_areas f_xs f_ys) H := hP.sub [0, 8, 1, 2, 3, 4, 5, 6, 7] rfl
  have hD : va_D A (cw_U_addLayer cB cI a_this a_walked a_picture a_picture_colours a_layers a_begins a_areas a_xs a_ys n_walked n_picture_colours n_layers n_begins n_areas n_xs n_ys c_count (1 : Int32) u10_0 c_picture_width c_picture_height f_picture_colours f_layers f_begins f_areas f_xs f_ys) := hD.sub [0, 8, 1, 2, 3, 4, 5, 6, 7] (by decide) rfl
  refine lv_iconst (v := 0) hx hb d_U_addLayer_13 (by decide) ?_
  refine lv_istore (lv' := [(4, .int (0 : Int32)), (0, .ref a_this), (1, .int x1), (2, .int x2), (3, .int x3)]) hx hb d_U_addLayer_14 hl (by decide) rfl (fun ls hl => ?_)
  refine lpW_ind (Wp := fun z => ∀ (H : Heap) (locs : List Loc) (ls : Array Slot), va_P (dC, dI) vwCl (cw_U_addLayer cB cI a_this a_walked a_picture a_picture_colours a_layers a_begins a_areas a_xs a_ys n_walked n_picture_colours n_layers n_begins n_areas n_xs n_ys z.2.1 (1 : Int32) z.2.2.1 c_picture_width c_picture_height f_picture_colours z.2.2.2.1 z.2.2.2.2.1 z.2.2.2.2.2.1 z.2.2.2.2.2.2.1 z.2.2.2.2.2.2.2) H → va_D A (cw_U_addLayer cB cI a_this a_walked a_picture a_picture_colours a_layers a_begins a_areas a_xs a_ys n_walked n_picture_colours n_layers n_begins n_areas n_xs n_ys z.2.1 (1 : Int32) z.2.2.1 c_picture_width c_picture_height f_picture_colours z.2.2.2.1 z.2.2.2.2.1 z.2.2.2.2.2.1 z.2.2.2.2.2.2.1 z.2.2.2.2.2.2.2) → va_S A s.heap H locs → lv_has ls 6 [(0, .ref a_this), (1, .int x1), (2, .int x2), (3, .int x3), (4, .int z.1)] → W p l e (headSpec w_U_addLayer ({ frames := 6, cells := 0, slots := 0, locals := 154 })).room s m ([.ref a_this, .int x1, .int x2, .int x3] : List Value).toArray below meth c H locs 0 0 Qf (F0 m 16 ls [])) h ?_ _ _ _ hP hD hS (lv_sub hl [1, 2, 3, 4, 0] rfl)
  rintro ⟨x4_l16, c_count_l16, f_walked_l16, f_layers_l16, f_begins_l16, f_areas_l16, f_xs_l16, f_ys_l16⟩ back16 h hb16 H locs ls hP hD hS hl
  have h : wp_U_addLayer_L16 n_walked n_picture_colours n_layers n_begins n_areas n_xs n_ys c_picture_width c_picture_height f_picture_colours (1 : Int32) x1 x2 x3 post back16 x4_l16 c_count_l16 f_walked_l16 f_layers_l16 f_begins_l16 f_areas_l16 f_xs_l16 f_ys_l16 := h
  have hP : va_P (dC, dI) vwCl (cw_U_addLayer cB cI a_this a_walked a_picture a_picture_colours a_layers a_begins a_areas a_xs a_ys n_walked n_picture_colours n_layers n_begins n_areas n_xs n_ys c_count_l16 (1 : Int32) f_walked_l16 c_picture_width c_picture_height f_picture_colours f_layers_l16 f_begins_l16 f_areas_l16 f_xs_l16 f_ys_l16) H := hP
  have hD : va_D A (cw_U_addLayer cB cI a_this a_walked a_picture a_picture_colours a_layers a_begins a_areas a_xs a_ys n_walked n_picture_colours n_layers n_begins n_areas n_xs n_ys c_count_l16 (1 : Int32) f_walked_l16 c_picture_width c_picture_height f_picture_colours f_layers_l16 f_begins_l16 f_areas_l16 f_xs_l16 f_ys_l16) := hD
  have hl : lv_has ls 6 [(0, .ref a_this), (1, .int x1), (2, .int x2), (3, .int x3), (4, .int x4_l16)] := hl
  unfold wp_U_addLayer_L16 at h
  refine lv_iload hx hb d_U_addLayer_16 (lv_at hl 4 rfl) ?_
  refine lv_aload_n hx hb d_U_addLayer_18 rfl (lv_at hl 0 rfl) ?_
  refine va_get (D := (dC, dI)) (ci := 2) (v := .ref a_picture) (C := R_U) (T := F_U) (N := 9) hx hb hts i_U_in hown hK hP 0 rfl rfl 0 (by decide) (hts _ q_61) (fun _ h9 => h9) rfl d_U_addLayer_19 ?_
  refine va_get (D := (dC, dI)) (ci := 1) (v := .int c_picture_height) (C := R_P) (T := F_P) (N := 3) hx hb hts i_P_in hown hK hP 2 rfl rfl 1 (by decide) (hts _ q_40) (fun _ h9 => h9) rfl d_U_addLayer_22 ?_
  refine lv_icmp_ge (tgt := 115) hx hb d_U_addLayer_25 (by decide) (fun cc_ => ?_) (fun cc_ => ?_)
  · have h := h.1 cc_
    subst hQf
    exact W.vret hx hb hr (fun t ht hW => ⟨⟨(c_count_l16, (1 : Int32), f_walked_l16, f_layers_l16, f_begins_l16, f_areas_l16, f_xs_l16, f_ys_l16), rfl, h, by rw [ht]; exact hP, va_K.moved hW.alike hK, hD⟩, hS.F ht⟩) hS.2.2 d_U_addLayer_115
  · have h := h.2 cc_
    refine lv_iconst (v := 0) hx hb d_U_addLayer_28 (by decide) ?_
    refine lv_istore (lv' := [(5, .int (0 : Int32)), (0, .ref a_this), (1, .int x1), (2, .int x2), (3, .int x3), (4, .int x4_l16)]) hx hb d_U_addLayer_29 hl (by decide) rfl (fun ls hl => ?_)
    refine lpW_ind (Wp := fun z => ∀ (H : Heap) (locs : List Loc) (ls : Array Slot), va_P (dC, dI) vwCl (cw_U_addLayer cB cI a_this a_walked a_picture a_picture_colours a_layers a_begins a_areas a_xs a_ys n_walked n_picture_colours n_layers n_begins n_areas n_xs n_ys z.2.1 (1 : Int32) z.2.2.1 c_picture_width c_picture_height f_picture_colours z.2.2.2.1 z.2.2.2.2.1 z.2.2.2.2.2.1 z.2.2.2.2.2.2.1 z.2.2.2.2.2.2.2) H → va_D A (cw_U_addLayer cB cI a_this a_walked a_picture a_picture_colours a_layers a_begins a_areas a_xs a_ys n_walked n_picture_colours n_layers n_begins n_areas n_xs n_ys z.2.1 (1 : Int32) z.2.2.1 c_picture_width c_picture_height f_picture_colours z.2.2.2.1 z.2.2.2.2.1 z.2.2.2.2.2.1 z.2.2.2.2.2.2.1 z.2.2.2.2.2.2.2) → va_S A s.heap H locs → lv_has ls 6 [(0, .ref a_this), (1, .int x1), (2, .int x2), (3, .int x3), (4, .int x4_l16), (5, .int z.1)] → W p l e (headSpec w_U_addLayer ({ frames := 6, cells := 0, slots := 0, locals := 154 })).room s m ([.ref a_this, .int x1, .int x2, .int x3] : List Value).toArray below meth c H locs 0 0 Qf (F0 m 31 ls [])) h ?_ _ _ _ hP hD hS (lv_sub hl [1, 2, 3, 4, 5, 0] rfl)
    rintro ⟨x5_l31, c_count_l31, f_walked_l31, f_layers_l31, f_begins_l31, f_areas_l31, f_xs_l31, f_ys_l31⟩ back31 h hb31 H locs ls hP hD hS hl
    have h : wp_U_addLayer_L31 n_walked n_picture_colours n_layers n_begins n_areas n_xs n_ys c_picture_width c_picture_height f_picture_colours (1 : Int32) x1 x2 x3 x4_l16 back16 post back31 x5_l31 c_count_l31 f_walked_l31 f_layers_l31 f_begins_l31 f_areas_l31 f_xs_l31 f_ys_l31 := h
    have hP : va_P (dC, dI) vwCl (cw_U_addLayer cB cI a_this a_walked a_picture a_picture_colours a_layers a_begins a_areas a_xs a_ys n_walked n_picture_colours n_layers n_begins n_areas n_xs n_ys c_count_l31 (1 : Int32) f_walked_l31 c_picture_width c_picture_height f_picture_colours f_layers_l31 f_begins_l31 f_areas_l31 f_xs_l31 f_ys_l31) H := hP
    have hD : va_D A (cw_U_addLayer cB cI a_this a_walked a_picture a_picture_colours a_layers a_begins a_areas a_xs a_ys n_walked n_picture_colours n_layers n_begins n_areas n_xs n_ys c_count_l31 (1 : Int32) f_walked_l31 c_picture_width c_picture_height f_picture_colours f_layers_l31 f_begins_l31 f_areas_l31 f_xs_l31 f_ys_l31) := hD
    have hl : lv_has ls 6 [(0, .ref a_this), (1, .int x1), (2, .int x2), (3, .int x3), (4, .int x4_l16), (5, .int x5_l31)] := hl
    unfold wp_U_addLayer_L31 at h
    have J103 : ∀ (x5_j103 : Int32) (c_count_j103 : Int32) (f_walked_j103 : Nat → Int32) (f_layers_j103 : Nat → Int32) (f_begins_j103 : Nat → Int32) (f_areas_j103 : Nat → Int32) (f_xs_j103 : Nat → Int32) (f_ys_j103 : Nat → Int32) (H : Heap) (locs : List Loc) (ls : Array Slot), wp_U_addLayer_J103 n_walked n_picture_colours n_layers n_begins n_areas n_xs n_ys c_picture_width c_picture_height f_picture_colours c_count_j103 (1 : Int32) f_walked_j103 f_layers_j103 f_begins_j103 f_areas_j103 f_xs_j103 f_ys_j103 x1 x2 x3 x4_l16 x5_j103 back16 back31 post → va_P (dC, dI) vwCl (cw_U_addLayer cB cI a_this a_walked a_picture a_picture_colours a_layers a_begins a_areas a_xs a_ys n_walked n_picture_colours n_layers n_begins n_areas n_xs n_ys c_count_j103 (1 : Int32) f_walked_j103 c_picture_width c_picture_height f_picture_colours f_layers_j103 f_begins_j103 f_areas_j103 f_xs_j103 f_ys_j103) H → va_D A (cw_U_addLayer cB cI a_this a_walked a_picture a_picture_colours a_layers a_begins a_areas a_xs a_ys n_walked n_picture_colours n_layers n_begins n_areas n_xs n_ys c_count_j103 (1 : Int32) f_walked_j103 c_picture_width c_picture_height f_picture_colours f_layers_j103 f_begins_j103 f_areas_j103 f_xs_j103 f_ys_j103) → va_S A s.heap H locs → lv_has ls 6 [(0, .ref a_this), (1, .int x1), (2, .int x2), (3, .int x3), (4, .int x4_l16), (5, .int x5_j103)] → W p l e (headSpec w_U_addLayer ({ frames := 6, cells := 0, slots := 0, locals := 154 })).room s m ([.ref a_this, .int x1, .int x2, .int x3] : List Value).toArray below meth c H locs 0 0 Qf (F0 m 103 ls []) := by
      intro x5_j103 c_count_j103 f_walked_j103 f_layers_j103 f_begins_j103 f_areas_j103 f_xs_j103 f_ys_j103 H locs ls h hP hD hS hl
      unfold wp_U_addLayer_J103 at h
      obtain ⟨x5_103, e_x5_103⟩ : ∃ y : Int32, y = x5_j103 + (1 : Int32) := ⟨_, rfl⟩
      have h := h x5_103 e_x5_103
      refine lv_iinc (v := x5_103) (lv' := [(5, .int x5_103), (0, .ref a_this), (1, .int x1), (2, .int x2), (3, .int x3), (4, .int x4_l16)]) hx hb d_U_addLayer_103 hl (k := 5) rfl (by rw [e_x5_103]; rfl) (by decide) rfl (fun ls hl => ?_)
      refine lv_goto (tgt := 31) hx hb d_U_addLayer_106 (by decide) ?_
      exact hb31 _ h _ _ _ hP hD hS (lv_sub hl [1, 2, 3, 4, 5, 0] rfl)
    refine lv_iload hx hb d_U_addLayer_31 (lv_at hl 5 rfl) ?_
    refine lv_aload_n hx hb d_U_addLayer_33 rfl (lv_at hl 0 rfl) ?_
    refine va_get (D := (dC, dI)) (ci := 2) (v := .ref a_picture) (C := R_U) (T := F_U) (N := 9) hx hb hts i_U_in hown hK hP 0 rfl rfl 0 (by decide) (hts _ q_61) (fun _ h9 => h9) rfl d_U_addLayer_34 ?_
    refine va_get (D := (dC, dI)) (ci := 1) (v := .int c_picture_width) (C := R_P) (T := F_P) (N := 3) hx hb hts i_P_in hown hK hP 2 rfl rfl 0 (by decide) (hts _ q_37) (fun _ h9 => h9) rfl d_U_addLayer_37 ?_
    refine lv_icmp_ge (tgt := 109) hx hb d_U_addLayer_40 (by decide) (fun cc_ => ?_) (fun cc_ => ?_)
    · have h := h.1 cc_
      obtain ⟨x4_109, e_x4_109⟩ : ∃ y : Int32, y = x4_l16 + (1 : Int32) := ⟨_, rfl⟩
      have h := h x4_109 e_x4_109
      refine lv_iinc (v := x4_109) (lv' := [(4, .int x4_109), (0, .ref a_this), (1, .int x1), (2, .int x2), (3, .int x3), (5, .int x5_l31)]) hx hb d_U_addLayer_109 hl (k := 4) rfl (by rw [e_x4_109]; rfl) (by decide) rfl (fun ls hl => ?_)
      refine lv_goto (tgt := 16) hx hb d_U_addLayer_112 (by decide) ?_
      exact hb16 _ h _ _ _ hP hD hS (lv_sub hl [1, 2, 3, 4, 0] rfl)
    · have h := h.2 cc_
      refine lv_aload_n hx hb d_U_addLayer_43 rfl (lv_at hl 0 rfl) ?_
      refine lv_iload hx hb d_U_addLayer_44 (lv_at hl 5 rfl) ?_
      refine lv_iload hx hb d_U_addLayer_46 (lv_at hl 4 rfl) ?_
      refine lv_iload_n hx hb d_U_addLayer_48 rfl (lv_at hl 1 rfl) ?_
      obtain ⟨Q49, hq49, h⟩ := h
      have hPc := hP.sub (ws' := (cw_U_beginsOutline cB a_this a_picture a_picture_colours a_walked a_xs a_ys a_begins a_layers a_areas n_picture_colours n_walked c_count_l31 (1 : Int32) c_picture_width c_picture_height f_picture_colours f_walked_l31)) [0, 2, 3, 1] rfl
      have hDc := hD.sub (ws' := (cw_U_beginsOutline cB a_this a_picture a_picture_colours a_walked a_xs a_ys a_begins a_layers a_areas n_picture_colours n_walked c_count_l31 (1 : Int32) c_picture_width c_picture_height f_picture_colours f_walked_l31)) [0, 2, 3, 1] (by decide) rfl
      have hFc := va_free (wc := (cw_U_beginsOutline cB a_this a_picture a_picture_colours a_walked a_xs a_ys a_begins a_layers a_areas n_picture_colours n_walked c_count_l31 (1 : Int32) c_picture_width c_picture_height f_picture_colours f_walked_l31)) hD hS hA [0, 2, 3, 1] rfl
      refine va_calli (va_runV (As := [.int x5_l31, .int x4_l16, .int x1]) (rest := []) ⟨hx, hb, hml, hown, hts⟩ (c_U_beginsOutline l dC dI cI cB cJ cZ a_this a_picture a_picture_colours a_walked a_xs a_ys a_begins a_layers a_areas H.size n_picture_colours n_walked c_count_l31 (1 : Int32) c_picture_width c_picture_height f_picture_colours f_walked_l31 x5_l31 x4_l16 x1 Q49 hq49) (cwV 3 hts (goodV q_365 q_367 q_p3 q_4 q_368) rfl rfl rfl (by decide +kernel) ⟨Nat.le_of_ble_eq_true rfl, Nat.le_of_ble_eq_true rfl⟩) ⟨fun a U g mk q => by obtain ⟨q0, q1, qP, qK, qD⟩ := q; exact ⟨q0, q1, qP, va_K.moved (u := U) (U := U.calling g mk a) (Vm.Alike.refl U.vm) qK, qD⟩, va_recv hK hPc (ci := 2) (q0 := 0) rfl rfl, fun U hU hW => ⟨rfl, by rw [hU], by rw [hU]; exact hPc, va_K.moved hW.alike hK, hDc.weaken (fun _ _ _ _ => trivial)⟩⟩ rfl rfl hl.1 rfl (lv_room (Nat.le_of_ble_eq_true rfl)) d_U_addLayer_49 ⟨Nat.le_of_ble_eq_true rfl, Nat.le_of_ble_eq_true rfl⟩) hS (fun q _ h => hFc q h) hFc (fun r49 u49 t H1 locs ht hvm hw hB hz1 hk1 hS => ?_)
      cases u49
      obtain ⟨hP1, -, hD1⟩ := hB
      rw [ht] at hP1
      have h := h r49 hw
      obtain ⟨hP, hD⟩ := va_join (wr := [(a_layers, .inl (cB, n_layers, .inl f_layers_l31)), (a_begins, .inl (cI, n_begins, .inl f_begins_l31)), (a_areas, .inl (cI, n_areas, .inl f_areas_l31)), (a_xs, .inl (cB, n_xs, .inl f_xs_l31)), (a_ys, .inl (cB, n_ys, .inl f_ys_l31))]) (w1 := (cw_U_beginsOutline cB a_this a_picture a_picture_colours a_walked a_xs a_ys a_begins a_layers a_areas n_picture_colours n_walked c_count_l31 (1 : Int32) c_picture_width c_picture_height f_picture_colours f_walked_l31)) hP hD [0, 2, 3, 1] [4, 5, 6, 7, 8] rfl rfl (by decide) (by decide) hk1 hFc hP1 hD1
      clear hP1 hD1 hk1 hPc hDc hFc
      generalize H1 = H at hP hS ⊢
      have hP : va_P (dC, dI) vwCl (cw_U_addLayer cB cI a_this a_walked a_picture a_picture_colours a_layers a_begins a_areas a_xs a_ys n_walked n_picture_colours n_layers n_begins n_areas n_xs n_ys c_count_l31 (1 : Int32) f_walked_l31 c_picture_width c_picture_height f_picture_colours f_layers_l31 f_begins_l31 f_areas_l31 f_xs_l31 f_ys_l31) H := hP.sub [5, 8, 6, 7, 0, 1, 2, 3, 4] rfl
      have hD : va_D A (cw_U_addLayer cB cI a_this a_walked a_picture a_picture_colours a_layers a_begins a_areas a_xs a_ys n_walked n_picture_colours n_layers n_begins n_areas n_xs n_ys c_count_l31 (1 : Int32) f_walked_l31 c_picture_width c_picture_height f_picture_colours f_layers_l31 f_begins_l31 f_areas_l31 f_xs_l31 f_ys_l31) := hD.sub [5, 8, 6, 7, 0, 1, 2, 3, 4] (by decide) rfl
      refine lv_if_eq (tgt := 103) hx hb d_U_addLayer_52 (by decide) (fun cc_ => ?_) (fun cc_ => ?_)
      · have h := h.1 cc_
        exact J103 x5_l31 c_count_l31 f_walked_l31 f_layers_l31 f_begins_l31 f_areas_l31 f_xs_l31 f_ys_l31 _ _ _ h hP hD hS (lv_sub hl [0, 1, 2, 3, 4, 5] rfl)
      · have h := h.2 cc_
        refine lv_aload_n hx hb d_U_addLayer_55 rfl (lv_at hl 0 rfl) ?_
        refine va_get (D := (dC, dI)) (ci := 2) (v := .int c_count_l31) (C := R_U) (T := F_U) (N := 9) hx hb hts i_U_in hown hK hP 0 rfl rfl 7 (by decide) (hts _ q_76) (fun _ h9 => h9) rfl d_U_addLayer_56 ?_
        refine lv_aload_n hx hb d_U_addLayer_59 rfl (lv_at hl 0 rfl) ?_
        refine va_get (D := (dC, dI)) (ci := 2) (v := .ref a_layers) (C := R_U) (T := F_U) (N := 9) hx hb hts i_U_in hown hK hP 0 rfl rfl 4 (by decide) (hts _ q_71) (fun _ h9 => h9) rfl d_U_addLayer_60 ?_
        refine va_alen hx hb hK hP 4 1 rfl rfl (v := (Int32.ofNat n_layers)) rfl d_U_addLayer_63 ?_
        refine lv_icmp_ge (tgt := 103) hx hb d_U_addLayer_64 (by decide) (fun cc_ => ?_) (fun cc_ => ?_)
        · have h := h.1 cc_
          exact J103 x5_l31 c_count_l31 f_walked_l31 f_layers_l31 f_begins_l31 f_areas_l31 f_xs_l31 f_ys_l31 _ _ _ h hP hD hS (lv_sub hl [0, 1, 2, 3, 4, 5] rfl)
        · have h := h.2 cc_
          refine lv_aload_n hx hb d_U_addLayer_67 rfl (lv_at hl 0 rfl) ?_
          refine lv_iload hx hb d_U_addLayer_68 (lv_at hl 5 rfl) ?_
          refine lv_iload hx hb d_U_addLayer_70 (lv_at hl 4 rfl) ?_
          refine lv_iload_n hx hb d_U_addLayer_72 rfl (lv_at hl 1 rfl) ?_
          refine lv_iload_n hx hb d_U_addLayer_73 rfl (lv_at hl 2 rfl) ?_
          obtain ⟨Q74, hq74, h⟩ := h
          have hPc := hP.sub (ws' := (cw_U_walk cB cI a_this a_begins a_layers a_areas a_xs a_ys a_picture a_picture_colours a_walked n_begins n_layers n_areas n_xs n_ys n_picture_colours n_walked c_count_l31 (1 : Int32) f_begins_l31 f_layers_l31 f_areas_l31 f_xs_l31 f_ys_l31 c_picture_width c_picture_height f_picture_colours f_walked_l31)) [0, 5, 4, 6, 7, 8, 2, 3, 1] rfl
          have hDc := hD.sub (ws' := (cw_U_walk cB cI a_this a_begins a_layers a_areas a_xs a_ys a_picture a_picture_colours a_walked n_begins n_layers n_areas n_xs n_ys n_picture_colours n_walked c_count_l31 (1 : Int32) f_begins_l31 f_layers_l31 f_areas_l31 f_xs_l31 f_ys_l31 c_picture_width c_picture_height f_picture_colours f_walked_l31)) [0, 5, 4, 6, 7, 8, 2, 3, 1] (by decide) rfl
          have hFc := va_free (wc := (cw_U_walk cB cI a_this a_begins a_layers a_areas a_xs a_ys a_picture a_picture_colours a_walked n_begins n_layers n_areas n_xs n_ys n_picture_colours n_walked c_count_l31 (1 : Int32) f_begins_l31 f_layers_l31 f_areas_l31 f_xs_l31 f_ys_l31 c_picture_width c_picture_height f_picture_colours f_walked_l31)) hD hS hA [0, 5, 4, 6, 7, 8, 2, 3, 1] rfl
          refine va_callv (va_runV (As := [.int x5_l31, .int x4_l16, .int x1, .int x2]) (rest := []) ⟨hx, hb, hml, hown, hts⟩ (c_U_walk l dC dI cI cB cJ cZ a_this a_begins a_layers a_areas a_xs a_ys a_picture a_picture_colours a_walked t_STEP_X t_STEP_Y t_AHEAD_X t_AHEAD_Y H.size n_begins n_layers n_areas n_xs n_ys n_picture_colours n_walked c_count_l31 (1 : Int32) f_begins_l31 f_layers_l31 f_areas_l31 f_xs_l31 f_ys_l31 c_picture_width c_picture_height f_picture_colours f_walked_l31 x5_l31 x4_l16 x1 x2 Q74 hq74) (cwV 4 hts (goodV q_374 q_376 q_p4 q_4 q_377) rfl rfl rfl (by decide +kernel) ⟨Nat.le_of_ble_eq_true rfl, Nat.le_of_ble_eq_true rfl⟩) ⟨fun a U g mk q => by obtain ⟨q0, q1, qP, qK, qD, z0, t0, z1, t1, z2, t2, z3, t3⟩ := q; exact ⟨q0, q1, qP, va_K.moved (u := U) (U := U.calling g mk a) (Vm.Alike.refl U.vm) qK, qD, va_Z.moved (u := U) (U := U.calling g mk a) (Vm.Alike.refl U.vm) z0, va_T.moved (u := U) (U := U.calling g mk a) (Vm.Alike.refl U.vm) t0, va_Z.moved (u := U) (U := U.calling g mk a) (Vm.Alike.refl U.vm) z1, va_T.moved (u := U) (U := U.calling g mk a) (Vm.Alike.refl U.vm) t1, va_Z.moved (u := U) (U := U.calling g mk a) (Vm.Alike.refl U.vm) z2, va_T.moved (u := U) (U := U.calling g mk a) (Vm.Alike.refl U.vm) t2, va_Z.moved (u := U) (U := U.calling g mk a) (Vm.Alike.refl U.vm) z3, va_T.moved (u := U) (U := U.calling g mk a) (Vm.Alike.refl U.vm) t3⟩, va_recv hK hPc (ci := 2) (q0 := 0) rfl rfl, fun U hU hW => ⟨rfl, by rw [hU], by rw [hU]; exact hPc, va_K.moved hW.alike hK, hDc.weaken (fun _ _ _ _ => trivial), by rw [hU]; exact va_Z.moved hW.alike ((hZ0.kept hS.2.1).narrow hFc), by rw [hU]; exact va_T.moved hW.alike ((hT0.kept hS.2.1).narrow hFc), by rw [hU]; exact va_Z.moved hW.alike ((hZ1.kept hS.2.1).narrow hFc), by rw [hU]; exact va_T.moved hW.alike ((hT1.kept hS.2.1).narrow hFc), by rw [hU]; exact va_Z.moved hW.alike ((hZ2.kept hS.2.1).narrow hFc), by rw [hU]; exact va_T.moved hW.alike ((hT2.kept hS.2.1).narrow hFc), by rw [hU]; exact va_Z.moved hW.alike ((hZ3.kept hS.2.1).narrow hFc), by rw [hU]; exact va_T.moved hW.alike ((hT3.kept hS.2.1).narrow hFc)⟩⟩ rfl rfl hl.1 rfl (lv_room (Nat.le_of_ble_eq_true rfl)) d_U_addLayer_74 ⟨Nat.le_of_ble_eq_true rfl, Nat.le_of_ble_eq_true rfl⟩) hS (fun q _ h => hFc q h) hFc (fun u74 t H1 locs ht hvm hw hB hz1 hk1 hS => ?_)
          obtain ⟨u74_0, u74_1, u74_2, u74_3, u74_4, u74_5⟩ := u74
          obtain ⟨hP1, -, hD1⟩ := hB
          rw [ht] at hP1
          have h := h u74_0 u74_1 u74_2 u74_3 u74_4 u74_5 hw
          obtain ⟨hP, hD⟩ := va_join (wr := []) (w1 := (cw_U_walk cB cI a_this a_begins a_layers a_areas a_xs a_ys a_picture a_picture_colours a_walked n_begins n_layers n_areas n_xs n_ys n_picture_colours n_walked c_count_l31 (1 : Int32) u74_0 u74_1 u74_2 u74_3 u74_4 c_picture_width c_picture_height f_picture_colours u74_5)) hP hD [0, 5, 4, 6, 7, 8, 2, 3, 1] [] rfl rfl (by decide) (by decide) hk1 hFc hP1 hD1
          clear hP1 hD1 hk1 hPc hDc hFc
          generalize H1 = H at hP hS ⊢
          have hP : va_P (dC, dI) vwCl (cw_U_addLayer cB cI a_this a_walked a_picture a_picture_colours a_layers a_begins a_areas a_xs a_ys n_walked n_picture_colours n_layers n_begins n_areas n_xs n_ys c_count_l31 (1 : Int32) u74_5 c_picture_width c_picture_height f_picture_colours u74_1 u74_0 u74_2 u74_3 u74_4) H := hP.sub [0, 8, 6, 7, 2, 1, 3, 4, 5] rfl
          have hD : va_D A (cw_U_addLayer cB cI a_this a_walked a_picture a_picture_colours a_layers a_begins a_areas a_xs a_ys n_walked n_picture_colours n_layers n_begins n_areas n_xs n_ys c_count_l31 (1 : Int32) u74_5 c_picture_width c_picture_height f_picture_colours u74_1 u74_0 u74_2 u74_3 u74_4) := hD.sub [0, 8, 6, 7, 2, 1, 3, 4, 5] (by decide) rfl
          refine lv_aload_n hx hb d_U_addLayer_77 rfl (lv_at hl 0 rfl) ?_
          refine va_get (D := (dC, dI)) (ci := 2) (v := .ref a_areas) (C := R_U) (T := F_U) (N := 9) hx hb hts i_U_in hown hK hP 0 rfl rfl 5 (by decide) (hts _ q_73) (fun _ h9 => h9) rfl d_U_addLayer_78 ?_
          refine lv_aload_n hx hb d_U_addLayer_81 rfl (lv_at hl 0 rfl) ?_
          refine va_get (D := (dC, dI)) (ci := 2) (v := .int c_count_l31) (C := R_U) (T := F_U) (N := 9) hx hb hts i_U_in hown hK hP 0 rfl rfl 7 (by decide) (hts _ q_76) (fun _ h9 => h9) rfl d_U_addLayer_82 ?_
          obtain ⟨hin, h⟩ := h
          refine va_iald hx hb hK hP 6 0 rfl rfl hin d_U_addLayer_85 ?_
          refine va_mabs hx hb (hml.trans hl.1.symm) hown (hts _ q_399) (hts _ q_400) (hts _ q_3) (hts _ q_401) (Nat.le_of_ble_eq_true rfl) (Nat.le_of_ble_eq_true rfl) (Nat.zero_le _) (Nat.zero_le _) d_U_addLayer_86 ?_
          refine W.eq (g2 := F0 m 89 ls [.int (jabs (u74_2 c_count_l31.toNatClampNeg))]) rfl ?_
          refine lv_iload_n hx hb d_U_addLayer_89 rfl (lv_at hl 3 rfl) ?_
          refine lv_icmp_le (tgt := 103) hx hb d_U_addLayer_90 (by decide) (fun cc_ => ?_) (fun cc_ => ?_)
          · have h := h.1 cc_
            exact J103 x5_l31 c_count_l31 u74_5 u74_1 u74_0 u74_2 u74_3 u74_4 _ _ _ h hP hD hS (lv_sub hl [0, 1, 2, 3, 4, 5] rfl)
          · have h := h.2 cc_
            refine lv_aload_n hx hb d_U_addLayer_93 rfl (lv_at hl 0 rfl) ?_
            refine lv_dup hx hb d_U_addLayer_94 rfl ?_
            refine va_get (D := (dC, dI)) (ci := 2) (v := .int c_count_l31) (C := R_U) (T := F_U) (N := 9) hx hb hts i_U_in hown hK hP 0 rfl rfl 7 (by decide) (hts _ q_76) (fun _ h9 => h9) rfl d_U_addLayer_95 ?_
            refine lv_iconst (v := 1) hx hb d_U_addLayer_98 (by decide) ?_
            refine lv_iadd hx hb d_U_addLayer_99 ?_
            refine lv_topi (fun v100 e_v100 => ?_)
            have h := h v100 e_v100
            refine va_put (D := (dC, dI)) (ci := 2) (v := .int v100) (ty := .int) (C := R_U) (T := F_U) (N := 9) hx hb hts i_U_in t_U t_U_ok n_U_ne hown hK hP hD hS 0 rfl rfl 7 (by decide) (hts _ q_76) (fun _ h9 => h9) rfl (by decide +kernel) (by rfl) (by rfl) (Nat.le_of_ble_eq_true rfl) d_U_addLayer_100 (fun H locs hP hD hS => ?_)
            have hP : va_P (dC, dI) vwCl (cw_U_addLayer cB cI a_this a_walked a_picture a_picture_colours a_layers a_begins a_areas a_xs a_ys n_walked n_picture_colours n_layers n_begins n_areas n_xs n_ys v100 (1 : Int32) u74_5 c_picture_width c_picture_height f_picture_colours u74_1 u74_0 u74_2 u74_3 u74_4) H := hP
            have hD : va_D A (cw_U_addLayer cB cI a_this a_walked a_picture a_picture_colours a_layers a_begins a_areas a_xs a_ys n_walked n_picture_colours n_layers n_begins n_areas n_xs n_ys v100 (1 : Int32) u74_5 c_picture_width c_picture_height f_picture_colours u74_1 u74_0 u74_2 u74_3 u74_4) := hD
            exact J103 x5_l31 v100 u74_5 u74_1 u74_0 u74_2 u74_3 u74_4 _ _ _ h hP hD hS (lv_sub hl [0, 1, 2, 3, 4, 5] rfl)
def wp_U_uprightsLeftOf_J86 (n_begins n_xs n_ys : Nat) (f_begins : Nat → Int32) (f_xs : Nat → Int32) (f_ys : Nat → Int32) (x2 : Int32) (x3 : Int32) (x4 : Int32) (x6 : Int32) (x7 : Int32) (back27 : (Int32 × Int32 × Int32) → Prop) (post : Int32 → Unit → Prop) : Prop :=
  ∀ x7_90 : Int32, x7_90 = x7 + (1 : Int32) → back27 (x7, x6, x7_90)
def wp_U_uprightsLeftOf_L27 (n_begins n_xs n_ys : Nat) (f_begins : Nat → Int32) (f_xs : Nat → Int32) (f_ys : Nat → Int32) (x2 : Int32) (x3 : Int32) (x4 : Int32) (post : Int32 → Unit → Prop) (back27 : (Int32 × Int32 × Int32) → Prop) (x5 : Int32) (x6 : Int32) (x7 : Int32) : Prop :=
  (x4 ≤ x7 → post x6 ()) ∧ (¬ x4 ≤ x7 → vp_in x7 n_xs ∧ (x2 < (f_xs x7.toNatClampNeg) → wp_U_uprightsLeftOf_J86 n_begins n_xs n_ys f_begins f_xs f_ys x2 x3 x4 x6 x7 back27 post) ∧ (¬ x2 < (f_xs x7.toNatClampNeg) → vp_in x7 n_xs ∧ vp_in x5 n_xs ∧ (¬ (f_xs x7.toNatClampNeg) = (f_xs x5.toNatClampNeg) → wp_U_uprightsLeftOf_J86 n_begins n_xs n_ys f_begins f_xs f_ys x2 x3 x4 x6 x7 back27 post) ∧ ((f_xs x7.toNatClampNeg) = (f_xs x5.toNatClampNeg) → vp_in x7 n_ys ∧ vp_in x5 n_ys ∧ (¬ (jmin (f_ys x7.toNatClampNeg) (f_ys x5.toNatClampNeg)) = x3 → wp_U_uprightsLeftOf_J86 n_begins n_xs n_ys f_begins f_xs f_ys x2 x3 x4 x6 x7 back27 post) ∧ ((jmin (f_ys x7.toNatClampNeg) (f_ys x5.toNatClampNeg)) = x3 → ∀ x6_83 : Int32, x6_83 = x6 + (1 : Int32) → wp_U_uprightsLeftOf_J86 n_begins n_xs n_ys f_begins f_xs f_ys x2 x3 x4 x6_83 x7 back27 post))))
def wp_U_uprightsLeftOf (n_begins n_xs n_ys : Nat) (f_begins : Nat → Int32) (f_xs : Nat → Int32) (f_ys : Nat → Int32) (x1 : Int32) (x2 : Int32) (x3 : Int32) (post : Int32 → Unit → Prop) : Prop :=
  vp_in (x1 + (1 : Int32)) n_begins ∧ ∀ x4_8 : Int32, x4_8 = (f_begins (x1 + (1 : Int32)).toNatClampNeg) → ∀ x5_14 : Int32, x5_14 = (x4_8 - (1 : Int32)) → vp_in x1 n_begins ∧ ∀ x7_25 : Int32, x7_25 = (f_begins x1.toNatClampNeg) → lpW (fun b z => wp_U_uprightsLeftOf_L27 n_begins n_xs n_ys f_begins f_xs f_ys x2 x3 x4_8 post b z.1 z.2.1 z.2.2) (x5_14, (0 : Int32), x7_25)
abbrev cw_U_uprightsLeftOf (cB cI : ClassId) (a_this a_begins a_xs a_ys a_picture a_layers a_areas a_walked : Nat) (n_begins n_xs n_ys : Nat) (c_count : Int32) (c_traced : Int32) (f_begins : Nat → Int32) (f_xs : Nat → Int32) (f_ys : Nat → Int32) : va_W := [(a_this, .inr (2, [.ref a_picture, .ref a_xs, .ref a_ys, .ref a_begins, .ref a_layers, .ref a_areas, .ref a_walked, .int c_count, .int c_traced])), (a_begins, .inl (cI, n_begins, .inl f_begins)), (a_xs, .inl (cB, n_xs, .inl f_xs)), (a_ys, .inl (cB, n_ys, .inl f_ys))]
abbrev qq_U_uprightsLeftOf (dC : Nat → ClassId) (dI : Nat → Nat → Nat) (cI cB cJ cZ : ClassId) (a_this a_begins a_xs a_ys a_picture a_layers a_areas a_walked : Nat) (n_begins n_xs n_ys : Nat) (c_count : Int32) (c_traced : Int32) (f_begins : Nat → Int32) (f_xs : Nat → Int32) (f_ys : Nat → Int32) (A : Nat → Prop) (post : Int32 → Unit → Prop) : Array Value → State → Outcome → State → Prop := va_Qi post (fun _ t => va_P (dC, dI) vwCl (cw_U_uprightsLeftOf cB cI a_this a_begins a_xs a_ys a_picture a_layers a_areas a_walked n_begins n_xs n_ys c_count c_traced f_begins f_xs f_ys) t.heap ∧ va_K (dC, dI) vwCl [(cI, .int), (cB, .byte), (cJ, .long), (cZ, .boolean)] t ∧ va_D A (cw_U_uprightsLeftOf cB cI a_this a_begins a_xs a_ys a_picture a_layers a_areas a_walked n_begins n_xs n_ys c_count c_traced f_begins f_xs f_ys)) A
set_option maxHeartbeats 4000000 in
set_option maxRecDepth 100000 in
theorem c_U_uprightsLeftOf (l : Launch) (dC : Nat → ClassId) (dI : Nat → Nat → Nat) (cI cB cJ cZ : ClassId) (a_this a_begins a_xs a_ys a_picture a_layers a_areas a_walked : Nat) (sz : Nat) (n_begins n_xs n_ys : Nat) (c_count : Int32) (c_traced : Int32) (f_begins : Nat → Int32) (f_xs : Nat → Int32) (f_ys : Nat → Int32) (x1 : Int32) (x2 : Int32) (x3 : Int32) (post : Int32 → Unit → Prop) (h : wp_U_uprightsLeftOf n_begins n_xs n_ys f_begins f_xs f_ys x1 x2 x3 post) : Met l y_U_uprightsLeftOf w_U_uprightsLeftOf ({ frames := 1, cells := 0, slots := 0, locals := 21 }) (va_Pc [.ref a_this, .int x1, .int x2, .int x3] (fun U => U.heap.size = sz ∧ va_P (dC, dI) vwCl (cw_U_uprightsLeftOf cB cI a_this a_begins a_xs a_ys a_picture a_layers a_areas a_walked n_begins n_xs n_ys c_count c_traced f_begins f_xs f_ys) U.heap ∧ va_K (dC, dI) vwCl [(cI, .int), (cB, .byte), (cJ, .long), (cZ, .boolean)] U ∧ va_D (fun _ => True) (cw_U_uprightsLeftOf cB cI a_this a_begins a_xs a_ys a_picture a_layers a_areas a_walked n_begins n_xs n_ys c_count c_traced f_begins f_xs f_ys))) (qq_U_uprightsLeftOf dC dI cI cB cJ cZ a_this a_begins a_xs a_ys a_picture a_layers a_areas a_walked n_begins n_xs n_ys c_count c_traced f_begins f_xs f_ys (va_A (cw_U_uprightsLeftOf cB cI a_this a_begins a_xs a_ys a_picture a_layers a_areas a_walked n_begins n_xs n_ys c_count c_traced f_begins f_xs f_ys) sz) post) 0 0 (va_A (cw_U_uprightsLeftOf cB cI a_this a_begins a_xs a_ys a_picture a_layers a_areas a_walked n_begins n_xs n_ys c_count c_traced f_begins f_xs f_ys) sz) := by
  refine Met.ofW (cc := b_U_uprightsLeftOf) (maxL := 8) (ret := (some .int)) (by decide +kernel) rfl ?_
  intro p e s m args below meth c s₁ B hml hv
  obtain ⟨rfl, hsz, hP, hK, hD0⟩ := hv
  have hx := B.exec
  have hb := B.bytes
  have hr := B.returns
  have hts : ∀ w ∈ allW, w.before _ s = true := fun w hw => atoms_spec (ws := w_U_uprightsLeftOf) B.pre w (List.mem_cons_of_mem _ hw)
  have hown : s.vm.findClass R_U = some m.cls := findClass_of_methodNamed B.named
  have hlocks := B.notSynchronized
  subst hsz
  have hD := hD0.self (sz := s.heap.size)
  generalize hAe : va_A (cw_U_uprightsLeftOf cB cI a_this a_begins a_xs a_ys a_picture a_layers a_areas a_walked n_begins n_xs n_ys c_count c_traced f_begins f_xs f_ys) s.heap.size = A at hD ⊢
  have hA : ∀ q : Nat, s.heap.size ≤ q → A q := fun q h => by rw [← hAe]; exact Or.inr h
  have hS : va_S A s.heap s.heap [] := va_S.rf
  clear hD0
  generalize hQf : MQ below (qq_U_uprightsLeftOf dC dI cI cB cJ cZ a_this a_begins a_xs a_ys a_picture a_layers a_areas a_walked n_begins n_xs n_ys c_count c_traced f_begins f_xs f_ys A post) ([.ref a_this, .int x1, .int x2, .int x3] : List Value).toArray s 0 0 A = Qf
  have hl := lv_entry ([.ref a_this, .int x1, .int x2, .int x3]) (n := 8) (Nat.le_of_ble_eq_true rfl)
  rw [lg_entry_eq]
  generalize (lg_sl ([.ref a_this, .int x1, .int x2, .int x3]) ++ List.replicate (8 - (lg_sl ([.ref a_this, .int x1, .int x2, .int x3])).length) Slot.unset).toArray = ls at hl ⊢
  have hl : lv_has ls 8 [(0, .ref a_this), (1, .int x1), (2, .int x2), (3, .int x3)] := hl
  unfold wp_U_uprightsLeftOf at h
  refine lv_aload_n hx hb d_U_uprightsLeftOf_0 rfl (lv_at hl 0 rfl) ?_
  refine va_get (D := (dC, dI)) (ci := 2) (v := .ref a_begins) (C := R_U) (T := F_U) (N := 9) hx hb hts i_U_in hown hK hP 0 rfl rfl 3 (by decide) (hts _ q_68) (fun _ h9 => h9) rfl d_U_uprightsLeftOf_1 ?_
  refine lv_iload_n hx hb d_U_uprightsLeftOf_4 rfl (lv_at hl 1 rfl) ?_
  refine lv_iconst (v := 1) hx hb d_U_uprightsLeftOf_5 (by decide) ?_
  refine lv_iadd hx hb d_U_uprightsLeftOf_6 ?_
  obtain ⟨hin, h⟩ := h
  refine va_iald hx hb hK hP 1 0 rfl rfl hin d_U_uprightsLeftOf_7 ?_
  refine lv_topi (fun x4_8 e_x4_8 => ?_)
  have h := h x4_8 e_x4_8
  refine lv_istore (lv' := [(4, .int x4_8), (0, .ref a_this), (1, .int x1), (2, .int x2), (3, .int x3)]) hx hb d_U_uprightsLeftOf_8 hl (by decide) rfl (fun ls hl => ?_)
  refine lv_iload hx hb d_U_uprightsLeftOf_10 (lv_at hl 0 rfl) ?_
  refine lv_iconst (v := 1) hx hb d_U_uprightsLeftOf_12 (by decide) ?_
  refine lv_isub hx hb d_U_uprightsLeftOf_13 ?_
  refine lv_topi (fun x5_14 e_x5_14 => ?_)
  have h := h x5_14 e_x5_14
  refine lv_istore (lv' := [(5, .int x5_14), (4, .int x4_8), (0, .ref a_this), (1, .int x1), (2, .int x2), (3, .int x3)]) hx hb d_U_uprightsLeftOf_14 hl (by decide) rfl (fun ls hl => ?_)
  refine lv_iconst (v := 0) hx hb d_U_uprightsLeftOf_16 (by decide) ?_
  refine lv_istore (lv' := [(6, .int (0 : Int32)), (5, .int x5_14), (4, .int x4_8), (0, .ref a_this), (1, .int x1), (2, .int x2), (3, .int x3)]) hx hb d_U_uprightsLeftOf_17 hl (by decide) rfl (fun ls hl => ?_)
  refine lv_aload_n hx hb d_U_uprightsLeftOf_19 rfl (lv_at hl 3 rfl) ?_
  refine va_get (D := (dC, dI)) (ci := 2) (v := .ref a_begins) (C := R_U) (T := F_U) (N := 9) hx hb hts i_U_in hown hK hP 0 rfl rfl 3 (by decide) (hts _ q_68) (fun _ h9 => h9) rfl d_U_uprightsLeftOf_20 ?_
  refine lv_iload_n hx hb d_U_uprightsLeftOf_23 rfl (lv_at hl 4 rfl) ?_
  obtain ⟨hin, h⟩ := h
  refine va_iald hx hb hK hP 1 0 rfl rfl hin d_U_uprightsLeftOf_24 ?_
  refine lv_topi (fun x7_25 e_x7_25 => ?_)
  have h := h x7_25 e_x7_25
  refine lv_istore (lv' := [(7, .int x7_25), (6, .int (0 : Int32)), (5, .int x5_14), (4, .int x4_8), (0, .ref a_this), (1, .int x1), (2, .int x2), (3, .int x3)]) hx hb d_U_uprightsLeftOf_25 hl (by decide) rfl (fun ls hl => ?_)
  refine lpW_ind (Wp := fun z => ∀ (H : Heap) (locs : List Loc) (ls : Array Slot), va_P (dC, dI) vwCl (cw_U_uprightsLeftOf cB cI a_this a_begins a_xs a_ys a_picture a_layers a_areas a_walked n_begins n_xs n_ys c_count c_traced f_begins f_xs f_ys) H → va_D A (cw_U_uprightsLeftOf cB cI a_this a_begins a_xs a_ys a_picture a_layers a_areas a_walked n_begins n_xs n_ys c_count c_traced f_begins f_xs f_ys) → va_S A s.heap H locs → lv_has ls 8 [(0, .ref a_this), (2, .int x2), (3, .int x3), (4, .int x4_8), (5, .int z.1), (6, .int z.2.1), (7, .int z.2.2)] → W p l e (headSpec w_U_uprightsLeftOf ({ frames := 1, cells := 0, slots := 0, locals := 21 })).room s m ([.ref a_this, .int x1, .int x2, .int x3] : List Value).toArray below meth c H locs 0 0 Qf (F0 m 27 ls [])) h ?_ _ _ _ hP hD hS (lv_sub hl [4, 6, 7, 3, 2, 1, 0] rfl)
  rintro ⟨x5_l27, x6_l27, x7_l27⟩ back27 h hb27 H locs ls hP hD hS hl
  have h : wp_U_uprightsLeftOf_L27 n_begins n_xs n_ys f_begins f_xs f_ys x2 x3 x4_8 post back27 x5_l27 x6_l27 x7_l27 := h
  have hP : va_P (dC, dI) vwCl (cw_U_uprightsLeftOf cB cI a_this a_begins a_xs a_ys a_picture a_layers a_areas a_walked n_begins n_xs n_ys c_count c_traced f_begins f_xs f_ys) H := hP
  have hD : va_D A (cw_U_uprightsLeftOf cB cI a_this a_begins a_xs a_ys a_picture a_layers a_areas a_walked n_begins n_xs n_ys c_count c_traced f_begins f_xs f_ys) := hD
  have hl : lv_has ls 8 [(0, .ref a_this), (2, .int x2), (3, .int x3), (4, .int x4_8), (5, .int x5_l27), (6, .int x6_l27), (7, .int x7_l27)] := hl
  unfold wp_U_uprightsLeftOf_L27 at h
  have J86 : ∀ (x6_j86 : Int32) (x7_j86 : Int32) (H : Heap) (locs : List Loc) (ls : Array Slot), wp_U_uprightsLeftOf_J86 n_begins n_xs n_ys f_begins f_xs f_ys x2 x3 x4_8 x6_j86 x7_j86 back27 post → va_P (dC, dI) vwCl (cw_U_uprightsLeftOf cB cI a_this a_begins a_xs a_ys a_picture a_layers a_areas a_walked n_begins n_xs n_ys c_count c_traced f_begins f_xs f_ys) H → va_D A (cw_U_uprightsLeftOf cB cI a_this a_begins a_xs a_ys a_picture a_layers a_areas a_walked n_begins n_xs n_ys c_count c_traced f_begins f_xs f_ys) → va_S A s.heap H locs → lv_has ls 8 [(0, .ref a_this), (2, .int x2), (3, .int x3), (4, .int x4_8), (6, .int x6_j86), (7, .int x7_j86)] → W p l e (headSpec w_U_uprightsLeftOf ({ frames := 1, cells := 0, slots := 0, locals := 21 })).room s m ([.ref a_this, .int x1, .int x2, .int x3] : List Value).toArray below meth c H locs 0 0 Qf (F0 m 86 ls []) := by
    intro x6_j86 x7_j86 H locs ls h hP hD hS hl
    unfold wp_U_uprightsLeftOf_J86 at h
    refine lv_iload hx hb d_U_uprightsLeftOf_86 (lv_at hl 5 rfl) ?_
    refine lv_istore (lv' := [(5, .int x7_j86), (0, .ref a_this), (2, .int x2), (3, .int x3), (4, .int x4_8), (6, .int x6_j86), (7, .int x7_j86)]) hx hb d_U_uprightsLeftOf_88 hl (by decide) rfl (fun ls hl => ?_)
    obtain ⟨x7_90, e_x7_90⟩ : ∃ y : Int32, y = x7_j86 + (1 : Int32) := ⟨_, rfl⟩
    have h := h x7_90 e_x7_90
    refine lv_iinc (v := x7_90) (lv' := [(7, .int x7_90), (5, .int x7_j86), (0, .ref a_this), (2, .int x2), (3, .int x3), (4, .int x4_8), (6, .int x6_j86)]) hx hb d_U_uprightsLeftOf_90 hl (k := 6) rfl (by rw [e_x7_90]; rfl) (by decide) rfl (fun ls hl => ?_)
    refine lv_goto (tgt := 27) hx hb d_U_uprightsLeftOf_93 (by decide) ?_
    exact hb27 _ h _ _ _ hP hD hS (lv_sub hl [2, 3, 4, 5, 1, 6, 0] rfl)
  refine lv_iload hx hb d_U_uprightsLeftOf_27 (lv_at hl 6 rfl) ?_
  refine lv_iload hx hb d_U_uprightsLeftOf_29 (lv_at hl 3 rfl) ?_
  refine lv_icmp_ge (tgt := 96) hx hb d_U_uprightsLeftOf_31 (by decide) (fun cc_ => ?_) (fun cc_ => ?_)
  · have h := h.1 cc_
    refine lv_iload hx hb d_U_uprightsLeftOf_96 (lv_at hl 5 rfl) ?_
    subst hQf
    exact W.iret (v := x6_l27) hx hb hr (fun t ht hW => ⟨⟨x6_l27, (), rfl, h, by rw [ht]; exact hP, va_K.moved hW.alike hK, hD⟩, hS.F ht⟩) hS.2.2 d_U_uprightsLeftOf_98
  · have h := h.2 cc_
    refine lv_aload_n hx hb d_U_uprightsLeftOf_34 rfl (lv_at hl 0 rfl) ?_
    refine va_get (D := (dC, dI)) (ci := 2) (v := .ref a_xs) (C := R_U) (T := F_U) (N := 9) hx hb hts i_U_in hown hK hP 0 rfl rfl 1 (by decide) (hts _ q_62) (fun _ h9 => h9) rfl d_U_uprightsLeftOf_35 ?_
    refine lv_iload hx hb d_U_uprightsLeftOf_38 (lv_at hl 6 rfl) ?_
    obtain ⟨hin, h⟩ := h
    refine va_bald hx hb hK hP 2 1 rfl rfl hin d_U_uprightsLeftOf_40 ?_
    refine lv_iload_n hx hb d_U_uprightsLeftOf_41 rfl (lv_at hl 1 rfl) ?_
    refine lv_icmp_gt (tgt := 86) hx hb d_U_uprightsLeftOf_42 (by decide) (fun cc_ => ?_) (fun cc_ => ?_)
    · have h := h.1 cc_
      exact J86 x6_l27 x7_l27 _ _ _ h hP hD hS (lv_sub hl [0, 1, 2, 3, 5, 6] rfl)
    · have h := h.2 cc_
      refine lv_aload_n hx hb d_U_uprightsLeftOf_45 rfl (lv_at hl 0 rfl) ?_
      refine va_get (D := (dC, dI)) (ci := 2) (v := .ref a_xs) (C := R_U) (T := F_U) (N := 9) hx hb hts i_U_in hown hK hP 0 rfl rfl 1 (by decide) (hts _ q_62) (fun _ h9 => h9) rfl d_U_uprightsLeftOf_46 ?_
      refine lv_iload hx hb d_U_uprightsLeftOf_49 (lv_at hl 6 rfl) ?_
      obtain ⟨hin, h⟩ := h
      refine va_bald hx hb hK hP 2 1 rfl rfl hin d_U_uprightsLeftOf_51 ?_
      refine lv_aload_n hx hb d_U_uprightsLeftOf_52 rfl (lv_at hl 0 rfl) ?_
      refine va_get (D := (dC, dI)) (ci := 2) (v := .ref a_xs) (C := R_U) (T := F_U) (N := 9) hx hb hts i_U_in hown hK hP 0 rfl rfl 1 (by decide) (hts _ q_62) (fun _ h9 => h9) rfl d_U_uprightsLeftOf_53 ?_
      refine lv_iload hx hb d_U_uprightsLeftOf_56 (lv_at hl 4 rfl) ?_
      obtain ⟨hin, h⟩ := h
      refine va_bald hx hb hK hP 2 1 rfl rfl hin d_U_uprightsLeftOf_58 ?_
      refine lv_icmp_ne (tgt := 86) hx hb d_U_uprightsLeftOf_59 (by decide) (fun cc_ => ?_) (fun cc_ => ?_)
      · have h := h.1 cc_
        exact J86 x6_l27 x7_l27 _ _ _ h hP hD hS (lv_sub hl [0, 1, 2, 3, 5, 6] rfl)
      · have h := h.2 cc_
        refine lv_aload_n hx hb d_U_uprightsLeftOf_62 rfl (lv_at hl 0 rfl) ?_
        refine va_get (D := (dC, dI)) (ci := 2) (v := .ref a_ys) (C := R_U) (T := F_U) (N := 9) hx hb hts i_U_in hown hK hP 0 rfl rfl 2 (by decide) (hts _ q_65) (fun _ h9 => h9) rfl d_U_uprightsLeftOf_63 ?_
        refine lv_iload hx hb d_U_uprightsLeftOf_66 (lv_at hl 6 rfl) ?_
        obtain ⟨hin, h⟩ := h
        refine va_bald hx hb hK hP 3 1 rfl rfl hin d_U_uprightsLeftOf_68 ?_
        refine lv_aload_n hx hb d_U_uprightsLeftOf_69 rfl (lv_at hl 0 rfl) ?_
        refine va_get (D := (dC, dI)) (ci := 2) (v := .ref a_ys) (C := R_U) (T := F_U) (N := 9) hx hb hts i_U_in hown hK hP 0 rfl rfl 2 (by decide) (hts _ q_65) (fun _ h9 => h9) rfl d_U_uprightsLeftOf_70 ?_
        refine lv_iload hx hb d_U_uprightsLeftOf_73 (lv_at hl 4 rfl) ?_
        obtain ⟨hin, h⟩ := h
        refine va_bald hx hb hK hP 3 1 rfl rfl hin d_U_uprightsLeftOf_75 ?_
        refine va_mmin hx hb (hml.trans hl.1.symm) hown (hts _ q_447) (hts _ q_31) (hts _ q_3) (hts _ q_32) (Nat.le_of_ble_eq_true rfl) (Nat.le_of_ble_eq_true rfl) (Nat.zero_le _) (Nat.zero_le _) d_U_uprightsLeftOf_76 ?_
        refine W.eq (g2 := F0 m 79 ls [.int (jmin (f_ys x7_l27.toNatClampNeg) (f_ys x5_l27.toNatClampNeg))]) rfl ?_
        refine lv_iload_n hx hb d_U_uprightsLeftOf_79 rfl (lv_at hl 2 rfl) ?_
        refine lv_icmp_ne (tgt := 86) hx hb d_U_uprightsLeftOf_80 (by decide) (fun cc_ => ?_) (fun cc_ => ?_)
        · have h := h.1 cc_
          exact J86 x6_l27 x7_l27 _ _ _ h hP hD hS (lv_sub hl [0, 1, 2, 3, 5, 6] rfl)
        · have h := h.2 cc_
          obtain ⟨x6_83, e_x6_83⟩ : ∃ y : Int32, y = x6_l27 + (1 : Int32) := ⟨_, rfl⟩
          have h := h x6_83 e_x6_83
          refine lv_iinc (v := x6_83) (lv' := [(6, .int x6_83), (0, .ref a_this), (2, .int x2), (3, .int x3), (4, .int x4_8), (5, .int x5_l27), (7, .int x7_l27)]) hx hb d_U_uprightsLeftOf_83 hl (k := 5) rfl (by rw [e_x6_83]; rfl) (by decide) rfl (fun ls hl => ?_)
          exact J86 x6_83 x7_l27 _ _ _ h hP hD hS (lv_sub hl [1, 2, 3, 4, 0, 6] rfl)
def wp_U_outlineRound_J146 (n_areas n_begins n_xs n_ys n_layers : Nat) (c_count : Int32) (f_areas : Nat → Int32) (f_begins : Nat → Int32) (f_xs : Nat → Int32) (f_ys : Nat → Int32) (f_layers : Nat → Int32) (x1 : Int32) (x2 : Int32) (x3 : Int32) (x4 : Int32) (x5 : Int32) (x6 : Int32) (x7 : Int32) (back60 : (Int32 × Int32 × Int32) → Prop) (post : Int32 → Unit → Prop) : Prop :=
  ∀ x7_146 : Int32, x7_146 = x7 + (1 : Int32) → back60 (x5, x6, x7_146)
def wp_U_outlineRound_J112 (n_areas n_begins n_xs n_ys n_layers : Nat) (c_count : Int32) (f_areas : Nat → Int32) (f_begins : Nat → Int32) (f_xs : Nat → Int32) (f_ys : Nat → Int32) (f_layers : Nat → Int32) (x1 : Int32) (x2 : Int32) (x3 : Int32) (x4 : Int32) (x5 : Int32) (x6 : Int32) (x7 : Int32) (x8 : Int32) (y0 : Int32) (back60 : (Int32 × Int32 × Int32) → Prop) (post : Int32 → Unit → Prop) : Prop :=
  (y0 = x2 → wp_U_outlineRound_J146 n_areas n_begins n_xs n_ys n_layers c_count f_areas f_begins f_xs f_ys f_layers x1 x2 x3 x4 x5 x6 x7 back60 post) ∧ (¬ y0 = x2 → (x6 ≤ x8 → wp_U_outlineRound_J146 n_areas n_begins n_xs n_ys n_layers c_count f_areas f_begins f_xs f_ys f_layers x1 x2 x3 x4 x5 x6 x7 back60 post) ∧ (¬ x6 ≤ x8 → ∃ Q129 : Int32 → Unit → Prop, wp_U_uprightsLeftOf n_begins n_xs n_ys f_begins f_xs f_ys x7 x3 x4 Q129 ∧ ∀ (r129 : Int32), Q129 r129 () → (¬ (r129 &&& (1 : Int32)) = (1 : Int32) → wp_U_outlineRound_J146 n_areas n_begins n_xs n_ys n_layers c_count f_areas f_begins f_xs f_ys f_layers x1 x2 x3 x4 x5 x6 x7 back60 post) ∧ ((r129 &&& (1 : Int32)) = (1 : Int32) → wp_U_outlineRound_J146 n_areas n_begins n_xs n_ys n_layers c_count f_areas f_begins f_xs f_ys f_layers x1 x2 x3 x4 x7 x8 x7 back60 post)))
def wp_U_outlineRound_L60 (n_areas n_begins n_xs n_ys n_layers : Nat) (c_count : Int32) (f_areas : Nat → Int32) (f_begins : Nat → Int32) (f_xs : Nat → Int32) (f_ys : Nat → Int32) (f_layers : Nat → Int32) (x1 : Int32) (x2 : Int32) (x3 : Int32) (x4 : Int32) (post : Int32 → Unit → Prop) (back60 : (Int32 × Int32 × Int32) → Prop) (x5 : Int32) (x6 : Int32) (x7 : Int32) : Prop :=
  (c_count ≤ x7 → post x5 ()) ∧ (¬ c_count ≤ x7 → vp_in x7 n_areas ∧ ∀ x8_79 : Int32, x8_79 = (jabs (f_areas x7.toNatClampNeg)) → vp_in x7 n_layers ∧ vp_in x1 n_layers ∧ (¬ (f_layers x7.toNatClampNeg) = (f_layers x1.toNatClampNeg) → wp_U_outlineRound_J146 n_areas n_begins n_xs n_ys n_layers c_count f_areas f_begins f_xs f_ys f_layers x1 x2 x3 x4 x5 x6 x7 back60 post) ∧ ((f_layers x7.toNatClampNeg) = (f_layers x1.toNatClampNeg) → vp_in x7 n_areas ∧ (0 ≤ (f_areas x7.toNatClampNeg) → wp_U_outlineRound_J112 n_areas n_begins n_xs n_ys n_layers c_count f_areas f_begins f_xs f_ys f_layers x1 x2 x3 x4 x5 x6 x7 x8_79 (0 : Int32) back60 post) ∧ (¬ 0 ≤ (f_areas x7.toNatClampNeg) → wp_U_outlineRound_J112 n_areas n_begins n_xs n_ys n_layers c_count f_areas f_begins f_xs f_ys f_layers x1 x2 x3 x4 x5 x6 x7 x8_79 (1 : Int32) back60 post)))
def wp_U_outlineRound_J47 (n_areas n_begins n_xs n_ys n_layers : Nat) (c_count : Int32) (f_areas : Nat → Int32) (f_begins : Nat → Int32) (f_xs : Nat → Int32) (f_ys : Nat → Int32) (f_layers : Nat → Int32) (x1 : Int32) (x2 : Int32) (x3 : Int32) (y0 : Int32) (y1 : Int32) (post : Int32 → Unit → Prop) : Prop :=
  ∀ x4_48 : Int32, x4_48 = (y1 - y0) → lpW (fun b z => wp_U_outlineRound_L60 n_areas n_begins n_xs n_ys n_layers c_count f_areas f_begins f_xs f_ys f_layers x1 x2 x3 x4_48 post b z.1 z.2.1 z.2.2) ((-1 : Int32), (2147483647 : Int32), (0 : Int32))
def wp_U_outlineRound_J14 (n_areas n_begins n_xs n_ys n_layers : Nat) (c_count : Int32) (f_areas : Nat → Int32) (f_begins : Nat → Int32) (f_xs : Nat → Int32) (f_ys : Nat → Int32) (f_layers : Nat → Int32) (x1 : Int32) (y0 : Int32) (post : Int32 → Unit → Prop) : Prop :=
  vp_in x1 n_begins ∧ vp_in (f_begins x1.toNatClampNeg) n_xs ∧ ∀ x3_26 : Int32, x3_26 = (f_xs (f_begins x1.toNatClampNeg).toNatClampNeg) → vp_in x1 n_begins ∧ vp_in (f_begins x1.toNatClampNeg) n_ys ∧ (y0 = 0 → wp_U_outlineRound_J47 n_areas n_begins n_xs n_ys n_layers c_count f_areas f_begins f_xs f_ys f_layers x1 y0 x3_26 (1 : Int32) (f_ys (f_begins x1.toNatClampNeg).toNatClampNeg) post) ∧ (¬ y0 = 0 → wp_U_outlineRound_J47 n_areas n_begins n_xs n_ys n_layers c_count f_areas f_begins f_xs f_ys f_layers x1 y0 x3_26 (0 : Int32) (f_ys (f_begins x1.toNatClampNeg).toNatClampNeg) post)
def wp_U_outlineRound (n_areas n_begins n_xs n_ys n_layers : Nat) (c_count : Int32) (f_areas : Nat → Int32) (f_begins : Nat → Int32) (f_xs : Nat → Int32) (f_ys : Nat → Int32) (f_layers : Nat → Int32) (x1 : Int32) (post : Int32 → Unit → Prop) : Prop :=
  vp_in x1 n_areas ∧ (0 ≤ (f_areas x1.toNatClampNeg) → wp_U_outlineRound_J14 n_areas n_begins n_xs n_ys n_layers c_count f_areas f_begins f_xs f_ys f_layers x1 (0 : Int32) post) ∧ (¬ 0 ≤ (f_areas x1.toNatClampNeg) → wp_U_outlineRound_J14 n_areas n_begins n_xs n_ys n_layers c_count f_areas f_begins f_xs f_ys f_layers x1 (1 : Int32) post)
abbrev cw_U_outlineRound (cB cI : ClassId) (a_this a_areas a_begins a_xs a_ys a_layers a_picture a_walked : Nat) (n_areas n_begins n_xs n_ys n_layers : Nat) (c_count : Int32) (c_traced : Int32) (f_areas : Nat → Int32) (f_begins : Nat → Int32) (f_xs : Nat → Int32) (f_ys : Nat → Int32) (f_layers : Nat → Int32) : va_W := [(a_this, .inr (2, [.ref a_picture, .ref a_xs, .ref a_ys, .ref a_begins, .ref a_layers, .ref a_areas, .ref a_walked, .int c_count, .int c_traced])), (a_areas, .inl (cI, n_areas, .inl f_areas)), (a_begins, .inl (cI, n_begins, .inl f_begins)), (a_xs, .inl (cB, n_xs, .inl f_xs)), (a_ys, .inl (cB, n_ys, .inl f_ys)), (a_layers, .inl (cB, n_layers, .inl f_layers))]
abbrev qq_U_outlineRound (dC : Nat → ClassId) (dI : Nat → Nat → Nat) (cI cB cJ cZ : ClassId) (a_this a_areas a_begins a_xs a_ys a_layers a_picture a_walked : Nat) (n_areas n_begins n_xs n_ys n_layers : Nat) (c_count : Int32) (c_traced : Int32) (f_areas : Nat → Int32) (f_begins : Nat → Int32) (f_xs : Nat → Int32) (f_ys : Nat → Int32) (f_layers : Nat → Int32) (A : Nat → Prop) (post : Int32 → Unit → Prop) : Array Value → State → Outcome → State → Prop := va_Qi post (fun _ t => va_P (dC, dI) vwCl (cw_U_outlineRound cB cI a_this a_areas a_begins a_xs a_ys a_layers a_picture a_walked n_areas n_begins n_xs n_ys n_layers c_count c_traced f_areas f_begins f_xs f_ys f_layers) t.heap ∧ va_K (dC, dI) vwCl [(cI, .int), (cB, .byte), (cJ, .long), (cZ, .boolean)] t ∧ va_D A (cw_U_outlineRound cB cI a_this a_areas a_begins a_xs a_ys a_layers a_picture a_walked n_areas n_begins n_xs n_ys n_layers c_count c_traced f_areas f_begins f_xs f_ys f_layers)) A
set_option maxHeartbeats 4000000 in
set_option maxRecDepth 100000 in
theorem c_U_outlineRound (l : Launch) (dC : Nat → ClassId) (dI : Nat → Nat → Nat) (cI cB cJ cZ : ClassId) (a_this a_areas a_begins a_xs a_ys a_layers a_picture a_walked : Nat) (sz : Nat) (n_areas n_begins n_xs n_ys n_layers : Nat) (c_count : Int32) (c_traced : Int32) (f_areas : Nat → Int32) (f_begins : Nat → Int32) (f_xs : Nat → Int32) (f_ys : Nat → Int32) (f_layers : Nat → Int32) (x1 : Int32) (post : Int32 → Unit → Prop) (h : wp_U_outlineRound n_areas n_begins n_xs n_ys n_layers c_count f_areas f_begins f_xs f_ys f_layers x1 post) : Met l y_U_outlineRound w_U_outlineRound ({ frames := 2, cells := 0, slots := 0, locals := 48 }) (va_Pc [.ref a_this, .int x1] (fun U => U.heap.size = sz ∧ va_P (dC, dI) vwCl (cw_U_outlineRound cB cI a_this a_areas a_begins a_xs a_ys a_layers a_picture a_walked n_areas n_begins n_xs n_ys n_layers c_count c_traced f_areas f_begins f_xs f_ys f_layers) U.heap ∧ va_K (dC, dI) vwCl [(cI, .int), (cB, .byte), (cJ, .long), (cZ, .boolean)] U ∧ va_D (fun _ => True) (cw_U_outlineRound cB cI a_this a_areas a_begins a_xs a_ys a_layers a_picture a_walked n_areas n_begins n_xs n_ys n_layers c_count c_traced f_areas f_begins f_xs f_ys f_layers))) (qq_U_outlineRound dC dI cI cB cJ cZ a_this a_areas a_begins a_xs a_ys a_layers a_picture a_walked n_areas n_begins n_xs n_ys n_layers c_count c_traced f_areas f_begins f_xs f_ys f_layers (va_A (cw_U_outlineRound cB cI a_this a_areas a_begins a_xs a_ys a_layers a_picture a_walked n_areas n_begins n_xs n_ys n_layers c_count c_traced f_areas f_begins f_xs f_ys f_layers) sz) post) 0 0 (va_A (cw_U_outlineRound cB cI a_this a_areas a_begins a_xs a_ys a_layers a_picture a_walked n_areas n_begins n_xs n_ys n_layers c_count c_traced f_areas f_begins f_xs f_ys f_layers) sz) := by
  refine Met.ofW (cc := b_U_outlineRound) (maxL := 9) (ret := (some .int)) (by decide +kernel) rfl ?_
  intro p e s m args below meth c s₁ B hml hv
  obtain ⟨rfl, hsz, hP, hK, hD0⟩ := hv
  have hx := B.exec
  have hb := B.bytes
  have hr := B.returns
  have hts : ∀ w ∈ allW, w.before _ s = true := fun w hw => atoms_spec (ws := w_U_outlineRound) B.pre w (List.mem_cons_of_mem _ hw)
  have hown : s.vm.findClass R_U = some m.cls := findClass_of_methodNamed B.named
  have hlocks := B.notSynchronized
  subst hsz
  have hD := hD0.self (sz := s.heap.size)
  generalize hAe : va_A (cw_U_outlineRound cB cI a_this a_areas a_begins a_xs a_ys a_layers a_picture a_walked n_areas n_begins n_xs n_ys n_layers c_count c_traced f_areas f_begins f_xs f_ys f_layers) s.heap.size = A at hD ⊢
  have hA : ∀ q : Nat, s.heap.size ≤ q → A q := fun q h => by rw [← hAe]; exact Or.inr h
  have hS : va_S A s.heap s.heap [] := va_S.rf
  clear hD0
  generalize hQf : MQ below (qq_U_outlineRound dC dI cI cB cJ cZ a_this a_areas a_begins a_xs a_ys a_layers a_picture a_walked n_areas n_begins n_xs n_ys n_layers c_count c_traced f_areas f_begins f_xs f_ys f_layers A post) ([.ref a_this, .int x1] : List Value).toArray s 0 0 A = Qf
  have hl := lv_entry ([.ref a_this, .int x1]) (n := 9) (Nat.le_of_ble_eq_true rfl)
  rw [lg_entry_eq]
  generalize (lg_sl ([.ref a_this, .int x1]) ++ List.replicate (9 - (lg_sl ([.ref a_this, .int x1])).length) Slot.unset).toArray = ls at hl ⊢
  have hl : lv_has ls 9 [(0, .ref a_this), (1, .int x1)] := hl
  unfold wp_U_outlineRound at h
  have J47 : ∀ (x1_j47 : Int32) (x2_j47 : Int32) (x3_j47 : Int32) (y0_j47 : Int32) (y1_j47 : Int32) (H : Heap) (locs : List Loc) (ls : Array Slot), wp_U_outlineRound_J47 n_areas n_begins n_xs n_ys n_layers c_count f_areas f_begins f_xs f_ys f_layers x1_j47 x2_j47 x3_j47 y0_j47 y1_j47 post → va_P (dC, dI) vwCl (cw_U_outlineRound cB cI a_this a_areas a_begins a_xs a_ys a_layers a_picture a_walked n_areas n_begins n_xs n_ys n_layers c_count c_traced f_areas f_begins f_xs f_ys f_layers) H → va_D A (cw_U_outlineRound cB cI a_this a_areas a_begins a_xs a_ys a_layers a_picture a_walked n_areas n_begins n_xs n_ys n_layers c_count c_traced f_areas f_begins f_xs f_ys f_layers) → va_S A s.heap H locs → lv_has ls 9 [(0, .ref a_this), (1, .int x1_j47), (2, .int x2_j47), (3, .int x3_j47)] → W p l e (headSpec w_U_outlineRound ({ frames := 2, cells := 0, slots := 0, locals := 48 })).room s m ([.ref a_this, .int x1] : List Value).toArray below meth c H locs 0 0 Qf (F0 m 47 ls [.int y0_j47, .int y1_j47]) := by
    intro x1_j47 x2_j47 x3_j47 y0_j47 y1_j47 H locs ls h hP hD hS hl
    unfold wp_U_outlineRound_J47 at h
    refine lv_isub hx hb d_U_outlineRound_47 ?_
    refine lv_topi (fun x4_48 e_x4_48 => ?_)
    have h := h x4_48 e_x4_48
    refine lv_istore (lv' := [(4, .int x4_48), (0, .ref a_this), (1, .int x1_j47), (2, .int x2_j47), (3, .int x3_j47)]) hx hb d_U_outlineRound_48 hl (by decide) rfl (fun ls hl => ?_)
    refine lv_iconst (v := -1) hx hb d_U_outlineRound_50 (by decide) ?_
    refine lv_istore (lv' := [(5, .int (-1 : Int32)), (4, .int x4_48), (0, .ref a_this), (1, .int x1_j47), (2, .int x2_j47), (3, .int x3_j47)]) hx hb d_U_outlineRound_51 hl (by decide) rfl (fun ls hl => ?_)
    refine lv_ldc (v := 2147483647) hx hb hown (hts _ q_442) d_U_outlineRound_53 ?_
    refine lv_istore (lv' := [(6, .int (2147483647 : Int32)), (5, .int (-1 : Int32)), (4, .int x4_48), (0, .ref a_this), (1, .int x1_j47), (2, .int x2_j47), (3, .int x3_j47)]) hx hb d_U_outlineRound_55 hl (by decide) rfl (fun ls hl => ?_)
    refine lv_iconst (v := 0) hx hb d_U_outlineRound_57 (by decide) ?_
    refine lv_istore (lv' := [(7, .int (0 : Int32)), (6, .int (2147483647 : Int32)), (5, .int (-1 : Int32)), (4, .int x4_48), (0, .ref a_this), (1, .int x1_j47), (2, .int x2_j47), (3, .int x3_j47)]) hx hb d_U_outlineRound_58 hl (by decide) rfl (fun ls hl => ?_)
    refine lpW_ind (Wp := fun z => ∀ (H : Heap) (locs : List Loc) (ls : Array Slot), va_P (dC, dI) vwCl (cw_U_outlineRound cB cI a_this a_areas a_begins a_xs a_ys a_layers a_picture a_walked n_areas n_begins n_xs n_ys n_layers c_count c_traced f_areas f_begins f_xs f_ys f_layers) H → va_D A (cw_U_outlineRound cB cI a_this a_areas a_begins a_xs a_ys a_layers a_picture a_walked n_areas n_begins n_xs n_ys n_layers c_count c_traced f_areas f_begins f_xs f_ys f_layers) → va_S A s.heap H locs → lv_has ls 9 [(0, .ref a_this), (1, .int x1_j47), (2, .int x2_j47), (3, .int x3_j47), (4, .int x4_48), (5, .int z.1), (6, .int z.2.1), (7, .int z.2.2)] → W p l e (headSpec w_U_outlineRound ({ frames := 2, cells := 0, slots := 0, locals := 48 })).room s m ([.ref a_this, .int x1] : List Value).toArray below meth c H locs 0 0 Qf (F0 m 60 ls [])) h ?_ _ _ _ hP hD hS (lv_sub hl [4, 5, 6, 7, 3, 2, 1, 0] rfl)
    rintro ⟨x5_l60, x6_l60, x7_l60⟩ back60 h hb60 H locs ls hP hD hS hl
    have h : wp_U_outlineRound_L60 n_areas n_begins n_xs n_ys n_layers c_count f_areas f_begins f_xs f_ys f_layers x1_j47 x2_j47 x3_j47 x4_48 post back60 x5_l60 x6_l60 x7_l60 := h
    have hP : va_P (dC, dI) vwCl (cw_U_outlineRound cB cI a_this a_areas a_begins a_xs a_ys a_layers a_picture a_walked n_areas n_begins n_xs n_ys n_layers c_count c_traced f_areas f_begins f_xs f_ys f_layers) H := hP
    have hD : va_D A (cw_U_outlineRound cB cI a_this a_areas a_begins a_xs a_ys a_layers a_picture a_walked n_areas n_begins n_xs n_ys n_layers c_count c_traced f_areas f_begins f_xs f_ys f_layers) := hD
    have hl : lv_has ls 9 [(0, .ref a_this), (1, .int x1_j47), (2, .int x2_j47), (3, .int x3_j47), (4, .int x4_48), (5, .int x5_l60), (6, .int x6_l60), (7, .int x7_l60)] := hl
    unfold wp_U_outlineRound_L60 at h
    have J146 : ∀ (x5_j146 : Int32) (x6_j146 : Int32) (x7_j146 : Int32) (H : Heap) (locs : List Loc) (ls : Array Slot), wp_U_outlineRound_J146 n_areas n_begins n_xs n_ys n_layers c_count f_areas f_begins f_xs f_ys f_layers x1_j47 x2_j47 x3_j47 x4_48 x5_j146 x6_j146 x7_j146 back60 post → va_P (dC, dI) vwCl (cw_U_outlineRound cB cI a_this a_areas a_begins a_xs a_ys a_layers a_picture a_walked n_areas n_begins n_xs n_ys n_layers c_count c_traced f_areas f_begins f_xs f_ys f_layers) H → va_D A (cw_U_outlineRound cB cI a_this a_areas a_begins a_xs a_ys a_layers a_picture a_walked n_areas n_begins n_xs n_ys n_layers c_count c_traced f_areas f_begins f_xs f_ys f_layers) → va_S A s.heap H locs → lv_has ls 9 [(0, .ref a_this), (1, .int x1_j47), (2, .int x2_j47), (3, .int x3_j47), (4, .int x4_48), (5, .int x5_j146), (6, .int x6_j146), (7, .int x7_j146)] → W p l e (headSpec w_U_outlineRound ({ frames := 2, cells := 0, slots := 0, locals := 48 })).room s m ([.ref a_this, .int x1] : List Value).toArray below meth c H locs 0 0 Qf (F0 m 146 ls []) := by
      intro x5_j146 x6_j146 x7_j146 H locs ls h hP hD hS hl
      unfold wp_U_outlineRound_J146 at h
      obtain ⟨x7_146, e_x7_146⟩ : ∃ y : Int32, y = x7_j146 + (1 : Int32) := ⟨_, rfl⟩
      have h := h x7_146 e_x7_146
      refine lv_iinc (v := x7_146) (lv' := [(7, .int x7_146), (0, .ref a_this), (1, .int x1_j47), (2, .int x2_j47), (3, .int x3_j47), (4, .int x4_48), (5, .int x5_j146), (6, .int x6_j146)]) hx hb d_U_outlineRound_146 hl (k := 7) rfl (by rw [e_x7_146]; rfl) (by decide) rfl (fun ls hl => ?_)
      refine lv_goto (tgt := 60) hx hb d_U_outlineRound_149 (by decide) ?_
      exact hb60 _ h _ _ _ hP hD hS (lv_sub hl [1, 2, 3, 4, 5, 6, 7, 0] rfl)
    have J112 : ∀ (x5_j112 : Int32) (x6_j112 : Int32) (x7_j112 : Int32) (x8_j112 : Int32) (y0_j112 : Int32) (H : Heap) (locs : List Loc) (ls : Array Slot), wp_U_outlineRound_J112 n_areas n_begins n_xs n_ys n_layers c_count f_areas f_begins f_xs f_ys f_layers x1_j47 x2_j47 x3_j47 x4_48 x5_j112 x6_j112 x7_j112 x8_j112 y0_j112 back60 post → va_P (dC, dI) vwCl (cw_U_outlineRound cB cI a_this a_areas a_begins a_xs a_ys a_layers a_picture a_walked n_areas n_begins n_xs n_ys n_layers c_count c_traced f_areas f_begins f_xs f_ys f_layers) H → va_D A (cw_U_outlineRound cB cI a_this a_areas a_begins a_xs a_ys a_layers a_picture a_walked n_areas n_begins n_xs n_ys n_layers c_count c_traced f_areas f_begins f_xs f_ys f_layers) → va_S A s.heap H locs → lv_has ls 9 [(0, .ref a_this), (1, .int x1_j47), (2, .int x2_j47), (3, .int x3_j47), (4, .int x4_48), (5, .int x5_j112), (6, .int x6_j112), (7, .int x7_j112), (8, .int x8_j112)] → W p l e (headSpec w_U_outlineRound ({ frames := 2, cells := 0, slots := 0, locals := 48 })).room s m ([.ref a_this, .int x1] : List Value).toArray below meth c H locs 0 0 Qf (F0 m 112 ls [.int y0_j112]) := by
      intro x5_j112 x6_j112 x7_j112 x8_j112 y0_j112 H locs ls h hP hD hS hl
      unfold wp_U_outlineRound_J112 at h
      refine lv_iload_n hx hb d_U_outlineRound_112 rfl (lv_at hl 2 rfl) ?_
      refine lv_icmp_eq (tgt := 146) hx hb d_U_outlineRound_113 (by decide) (fun cc_ => ?_) (fun cc_ => ?_)
      · have h := h.1 cc_
        exact J146 x5_j112 x6_j112 x7_j112 _ _ _ h hP hD hS (lv_sub hl [0, 1, 2, 3, 4, 5, 6, 7] rfl)
      · have h := h.2 cc_
        refine lv_iload hx hb d_U_outlineRound_116 (lv_at hl 8 rfl) ?_
        refine lv_iload hx hb d_U_outlineRound_118 (lv_at hl 6 rfl) ?_
        refine lv_icmp_ge (tgt := 146) hx hb d_U_outlineRound_120 (by decide) (fun cc_ => ?_) (fun cc_ => ?_)
        · have h := h.1 cc_
          exact J146 x5_j112 x6_j112 x7_j112 _ _ _ h hP hD hS (lv_sub hl [0, 1, 2, 3, 4, 5, 6, 7] rfl)
        · have h := h.2 cc_
          refine lv_aload_n hx hb d_U_outlineRound_123 rfl (lv_at hl 0 rfl) ?_
          refine lv_iload hx hb d_U_outlineRound_124 (lv_at hl 7 rfl) ?_
          refine lv_iload_n hx hb d_U_outlineRound_126 rfl (lv_at hl 3 rfl) ?_
          refine lv_iload hx hb d_U_outlineRound_127 (lv_at hl 4 rfl) ?_
          obtain ⟨Q129, hq129, h⟩ := h
          have hPc := hP.sub (ws' := (cw_U_uprightsLeftOf cB cI a_this a_begins a_xs a_ys a_picture a_layers a_areas a_walked n_begins n_xs n_ys c_count c_traced f_begins f_xs f_ys)) [0, 2, 3, 4] rfl
          have hDc := hD.sub (ws' := (cw_U_uprightsLeftOf cB cI a_this a_begins a_xs a_ys a_picture a_layers a_areas a_walked n_begins n_xs n_ys c_count c_traced f_begins f_xs f_ys)) [0, 2, 3, 4] (by decide) rfl
          have hFc := va_free (wc := (cw_U_uprightsLeftOf cB cI a_this a_begins a_xs a_ys a_picture a_layers a_areas a_walked n_begins n_xs n_ys c_count c_traced f_begins f_xs f_ys)) hD hS hA [0, 2, 3, 4] rfl
          refine va_calli (va_runV (As := [.int x7_j112, .int x3_j47, .int x4_48]) (rest := []) ⟨hx, hb, hml, hown, hts⟩ (c_U_uprightsLeftOf l dC dI cI cB cJ cZ a_this a_begins a_xs a_ys a_picture a_layers a_areas a_walked H.size n_begins n_xs n_ys c_count c_traced f_begins f_xs f_ys x7_j112 x3_j47 x4_48 Q129 hq129) (cwV 3 hts (goodV q_443 q_445 q_p9 q_4 q_446) rfl rfl rfl (by decide +kernel) ⟨Nat.le_of_ble_eq_true rfl, Nat.le_of_ble_eq_true rfl⟩) ⟨fun a U g mk q => by obtain ⟨q0, q1, qP, qK, qD⟩ := q; exact ⟨q0, q1, qP, va_K.moved (u := U) (U := U.calling g mk a) (Vm.Alike.refl U.vm) qK, qD⟩, va_recv hK hPc (ci := 2) (q0 := 0) rfl rfl, fun U hU hW => ⟨rfl, by rw [hU], by rw [hU]; exact hPc, va_K.moved hW.alike hK, hDc.weaken (fun _ _ _ _ => trivial)⟩⟩ rfl rfl hl.1 rfl (lv_room (Nat.le_of_ble_eq_true rfl)) d_U_outlineRound_129 ⟨Nat.le_of_ble_eq_true rfl, Nat.le_of_ble_eq_true rfl⟩) hS (fun q _ h => hFc q h) hFc (fun r129 u129 t H1 locs ht hvm hw hB hz1 hk1 hS => ?_)
          cases u129
          obtain ⟨hP1, -, hD1⟩ := hB
          rw [ht] at hP1
          have h := h r129 hw
          obtain ⟨hP, hD⟩ := va_join (wr := [(a_areas, .inl (cI, n_areas, .inl f_areas)), (a_layers, .inl (cB, n_layers, .inl f_layers))]) (w1 := (cw_U_uprightsLeftOf cB cI a_this a_begins a_xs a_ys a_picture a_layers a_areas a_walked n_begins n_xs n_ys c_count c_traced f_begins f_xs f_ys)) hP hD [0, 2, 3, 4] [1, 5] rfl rfl (by decide) (by decide) hk1 hFc hP1 hD1
          clear hP1 hD1 hk1 hPc hDc hFc
          generalize H1 = H at hP hS ⊢
          have hP : va_P (dC, dI) vwCl (cw_U_outlineRound cB cI a_this a_areas a_begins a_xs a_ys a_layers a_picture a_walked n_areas n_begins n_xs n_ys n_layers c_count c_traced f_areas f_begins f_xs f_ys f_layers) H := hP.sub [2, 0, 3, 4, 5, 1] rfl
          have hD : va_D A (cw_U_outlineRound cB cI a_this a_areas a_begins a_xs a_ys a_layers a_picture a_walked n_areas n_begins n_xs n_ys n_layers c_count c_traced f_areas f_begins f_xs f_ys f_layers) := hD.sub [2, 0, 3, 4, 5, 1] (by decide) rfl
          refine lv_iconst (v := 1) hx hb d_U_outlineRound_132 (by decide) ?_
          refine lv_iand hx hb d_U_outlineRound_133 ?_
          refine lv_iconst (v := 1) hx hb d_U_outlineRound_134 (by decide) ?_
          refine lv_icmp_ne (tgt := 146) hx hb d_U_outlineRound_135 (by decide) (fun cc_ => ?_) (fun cc_ => ?_)
          · have h := h.1 cc_
            exact J146 x5_j112 x6_j112 x7_j112 _ _ _ h hP hD hS (lv_sub hl [0, 1, 2, 3, 4, 5, 6, 7] rfl)
          · have h := h.2 cc_
            refine lv_iload hx hb d_U_outlineRound_138 (lv_at hl 7 rfl) ?_
            refine lv_istore (lv' := [(5, .int x7_j112), (0, .ref a_this), (1, .int x1_j47), (2, .int x2_j47), (3, .int x3_j47), (4, .int x4_48), (6, .int x6_j112), (7, .int x7_j112), (8, .int x8_j112)]) hx hb d_U_outlineRound_140 hl (by decide) rfl (fun ls hl => ?_)
            refine lv_iload hx hb d_U_outlineRound_142 (lv_at hl 8 rfl) ?_
            refine lv_istore (lv' := [(6, .int x8_j112), (5, .int x7_j112), (0, .ref a_this), (1, .int x1_j47), (2, .int x2_j47), (3, .int x3_j47), (4, .int x4_48), (7, .int x7_j112), (8, .int x8_j112)]) hx hb d_U_outlineRound_144 hl (by decide) rfl (fun ls hl => ?_)
            exact J146 x7_j112 x8_j112 x7_j112 _ _ _ h hP hD hS (lv_sub hl [2, 3, 4, 5, 6, 1, 0, 7] rfl)
    refine lv_iload hx hb d_U_outlineRound_60 (lv_at hl 7 rfl) ?_
    refine lv_aload_n hx hb d_U_outlineRound_62 rfl (lv_at hl 0 rfl) ?_
    refine va_get (D := (dC, dI)) (ci := 2) (v := .int c_count) (C := R_U) (T := F_U) (N := 9) hx hb hts i_U_in hown hK hP 0 rfl rfl 7 (by decide) (hts _ q_76) (fun _ h9 => h9) rfl d_U_outlineRound_63 ?_
    refine lv_icmp_ge (tgt := 152) hx hb d_U_outlineRound_66 (by decide) (fun cc_ => ?_) (fun cc_ => ?_)
    · have h := h.1 cc_
      refine lv_iload hx hb d_U_outlineRound_152 (lv_at hl 5 rfl) ?_
      subst hQf
      exact W.iret (v := x5_l60) hx hb hr (fun t ht hW => ⟨⟨x5_l60, (), rfl, h, by rw [ht]; exact hP, va_K.moved hW.alike hK, hD⟩, hS.F ht⟩) hS.2.2 d_U_outlineRound_154
    · have h := h.2 cc_
      refine lv_aload_n hx hb d_U_outlineRound_69 rfl (lv_at hl 0 rfl) ?_
      refine va_get (D := (dC, dI)) (ci := 2) (v := .ref a_areas) (C := R_U) (T := F_U) (N := 9) hx hb hts i_U_in hown hK hP 0 rfl rfl 5 (by decide) (hts _ q_73) (fun _ h9 => h9) rfl d_U_outlineRound_70 ?_
      refine lv_iload hx hb d_U_outlineRound_73 (lv_at hl 7 rfl) ?_
      obtain ⟨hin, h⟩ := h
      refine va_iald hx hb hK hP 1 0 rfl rfl hin d_U_outlineRound_75 ?_
      refine va_mabs hx hb (hml.trans hl.1.symm) hown (hts _ q_399) (hts _ q_400) (hts _ q_3) (hts _ q_401) (Nat.le_of_ble_eq_true rfl) (Nat.le_of_ble_eq_true rfl) (Nat.zero_le _) (Nat.zero_le _) d_U_outlineRound_76 ?_
      refine W.eq (g2 := F0 m 79 ls [.int (jabs (f_areas x7_l60.toNatClampNeg))]) rfl ?_
      refine lv_topi (fun x8_79 e_x8_79 => ?_)
      have h := h x8_79 e_x8_79
      refine lv_istore (lv' := [(8, .int x8_79), (0, .ref a_this), (1, .int x1_j47), (2, .int x2_j47), (3, .int x3_j47), (4, .int x4_48), (5, .int x5_l60), (6, .int x6_l60), (7, .int x7_l60)]) hx hb d_U_outlineRound_79 hl (by decide) rfl (fun ls hl => ?_)
      refine lv_aload_n hx hb d_U_outlineRound_81 rfl (lv_at hl 1 rfl) ?_
      refine va_get (D := (dC, dI)) (ci := 2) (v := .ref a_layers) (C := R_U) (T := F_U) (N := 9) hx hb hts i_U_in hown hK hP 0 rfl rfl 4 (by decide) (hts _ q_71) (fun _ h9 => h9) rfl d_U_outlineRound_82 ?_
      refine lv_iload hx hb d_U_outlineRound_85 (lv_at hl 8 rfl) ?_
      obtain ⟨hin, h⟩ := h
      refine va_bald hx hb hK hP 5 1 rfl rfl hin d_U_outlineRound_87 ?_
      refine lv_aload_n hx hb d_U_outlineRound_88 rfl (lv_at hl 1 rfl) ?_
      refine va_get (D := (dC, dI)) (ci := 2) (v := .ref a_layers) (C := R_U) (T := F_U) (N := 9) hx hb hts i_U_in hown hK hP 0 rfl rfl 4 (by decide) (hts _ q_71) (fun _ h9 => h9) rfl d_U_outlineRound_89 ?_
      refine lv_iload_n hx hb d_U_outlineRound_92 rfl (lv_at hl 2 rfl) ?_
      obtain ⟨hin, h⟩ := h
      refine va_bald hx hb hK hP 5 1 rfl rfl hin d_U_outlineRound_93 ?_
      refine lv_icmp_ne (tgt := 146) hx hb d_U_outlineRound_94 (by decide) (fun cc_ => ?_) (fun cc_ => ?_)
      · have h := h.1 cc_
        exact J146 x5_l60 x6_l60 x7_l60 _ _ _ h hP hD hS (lv_sub hl [1, 2, 3, 4, 5, 6, 7, 8] rfl)
      · have h := h.2 cc_
        refine lv_aload_n hx hb d_U_outlineRound_97 rfl (lv_at hl 1 rfl) ?_
        refine va_get (D := (dC, dI)) (ci := 2) (v := .ref a_areas) (C := R_U) (T := F_U) (N := 9) hx hb hts i_U_in hown hK hP 0 rfl rfl 5 (by decide) (hts _ q_73) (fun _ h9 => h9) rfl d_U_outlineRound_98 ?_
        refine lv_iload hx hb d_U_outlineRound_101 (lv_at hl 8 rfl) ?_
        obtain ⟨hin, h⟩ := h
        refine va_iald hx hb hK hP 1 0 rfl rfl hin d_U_outlineRound_103 ?_
        refine lv_if_ge (tgt := 111) hx hb d_U_outlineRound_104 (by decide) (fun cc_ => ?_) (fun cc_ => ?_)
        · have h := h.1 cc_
          refine lv_iconst (v := 0) hx hb d_U_outlineRound_111 (by decide) ?_
          exact J112 x5_l60 x6_l60 x7_l60 x8_79 (0 : Int32) _ _ _ h hP hD hS (lv_sub hl [1, 2, 3, 4, 5, 6, 7, 8, 0] rfl)
        · have h := h.2 cc_
          refine lv_iconst (v := 1) hx hb d_U_outlineRound_107 (by decide) ?_
          refine lv_goto (tgt := 112) hx hb d_U_outlineRound_108 (by decide) ?_
          exact J112 x5_l60 x6_l60 x7_l60 x8_79 (1 : Int32) _ _ _ h hP hD hS (lv_sub hl [1, 2, 3, 4, 5, 6, 7, 8, 0] rfl)
  have J14 : ∀ (x1_j14 : Int32) (y0_j14 : Int32) (H : Heap) (locs : List Loc) (ls : Array Slot), wp_U_outlineRound_J14 n_areas n_begins n_xs n_ys n_layers c_count f_areas f_begins f_xs f_ys f_layers x1_j14 y0_j14 post → va_P (dC, dI) vwCl (cw_U_outlineRound cB cI a_this a_areas a_begins a_xs a_ys a_layers a_picture a_walked n_areas n_begins n_xs n_ys n_layers c_count c_traced f_areas f_begins f_xs f_ys f_layers) H → va_D A (cw_U_outlineRound cB cI a_this a_areas a_begins a_xs a_ys a_layers a_picture a_walked n_areas n_begins n_xs n_ys n_layers c_count c_traced f_areas f_begins f_xs f_ys f_layers) → va_S A s.heap H locs → lv_has ls 9 [(0, .ref a_this), (1, .int x1_j14)] → W p l e (headSpec w_U_outlineRound ({ frames := 2, cells := 0, slots := 0, locals := 48 })).room s m ([.ref a_this, .int x1] : List Value).toArray below meth c H locs 0 0 Qf (F0 m 14 ls [.int y0_j14]) := by
    intro x1_j14 y0_j14 H locs ls h hP hD hS hl
    unfold wp_U_outlineRound_J14 at h
    refine lv_istore_n (lv' := [(2, .int y0_j14), (0, .ref a_this), (1, .int x1_j14)]) hx hb d_U_outlineRound_14 rfl hl (by decide) rfl (fun ls hl => ?_)
    refine lv_aload_n hx hb d_U_outlineRound_15 rfl (lv_at hl 1 rfl) ?_
    refine va_get (D := (dC, dI)) (ci := 2) (v := .ref a_xs) (C := R_U) (T := F_U) (N := 9) hx hb hts i_U_in hown hK hP 0 rfl rfl 1 (by decide) (hts _ q_62) (fun _ h9 => h9) rfl d_U_outlineRound_16 ?_
    refine lv_aload_n hx hb d_U_outlineRound_19 rfl (lv_at hl 1 rfl) ?_
    refine va_get (D := (dC, dI)) (ci := 2) (v := .ref a_begins) (C := R_U) (T := F_U) (N := 9) hx hb hts i_U_in hown hK hP 0 rfl rfl 3 (by decide) (hts _ q_68) (fun _ h9 => h9) rfl d_U_outlineRound_20 ?_
    refine lv_iload_n hx hb d_U_outlineRound_23 rfl (lv_at hl 2 rfl) ?_
    obtain ⟨hin, h⟩ := h
    refine va_iald hx hb hK hP 2 0 rfl rfl hin d_U_outlineRound_24 ?_
    obtain ⟨hin, h⟩ := h
    refine va_bald hx hb hK hP 3 1 rfl rfl hin d_U_outlineRound_25 ?_
    refine lv_topi (fun x3_26 e_x3_26 => ?_)
    have h := h x3_26 e_x3_26
    refine lv_istore_n (lv' := [(3, .int x3_26), (2, .int y0_j14), (0, .ref a_this), (1, .int x1_j14)]) hx hb d_U_outlineRound_26 rfl hl (by decide) rfl (fun ls hl => ?_)
    refine lv_aload_n hx hb d_U_outlineRound_27 rfl (lv_at hl 2 rfl) ?_
    refine va_get (D := (dC, dI)) (ci := 2) (v := .ref a_ys) (C := R_U) (T := F_U) (N := 9) hx hb hts i_U_in hown hK hP 0 rfl rfl 2 (by decide) (hts _ q_65) (fun _ h9 => h9) rfl d_U_outlineRound_28 ?_
    refine lv_aload_n hx hb d_U_outlineRound_31 rfl (lv_at hl 2 rfl) ?_
    refine va_get (D := (dC, dI)) (ci := 2) (v := .ref a_begins) (C := R_U) (T := F_U) (N := 9) hx hb hts i_U_in hown hK hP 0 rfl rfl 3 (by decide) (hts _ q_68) (fun _ h9 => h9) rfl d_U_outlineRound_32 ?_
    refine lv_iload_n hx hb d_U_outlineRound_35 rfl (lv_at hl 3 rfl) ?_
    obtain ⟨hin, h⟩ := h
    refine va_iald hx hb hK hP 2 0 rfl rfl hin d_U_outlineRound_36 ?_
    obtain ⟨hin, h⟩ := h
    refine va_bald hx hb hK hP 4 1 rfl rfl hin d_U_outlineRound_37 ?_
    refine lv_iload_n hx hb d_U_outlineRound_38 rfl (lv_at hl 1 rfl) ?_
    refine lv_if_eq (tgt := 46) hx hb d_U_outlineRound_39 (by decide) (fun cc_ => ?_) (fun cc_ => ?_)
    · have h := h.1 cc_
      refine lv_iconst (v := 1) hx hb d_U_outlineRound_46 (by decide) ?_
      exact J47 x1_j14 y0_j14 x3_26 (1 : Int32) (f_ys (f_begins x1_j14.toNatClampNeg).toNatClampNeg) _ _ _ h hP hD hS (lv_sub hl [2, 3, 1, 0] rfl)
    · have h := h.2 cc_
      refine lv_iconst (v := 0) hx hb d_U_outlineRound_42 (by decide) ?_
      refine lv_goto (tgt := 47) hx hb d_U_outlineRound_43 (by decide) ?_
      exact J47 x1_j14 y0_j14 x3_26 (0 : Int32) (f_ys (f_begins x1_j14.toNatClampNeg).toNatClampNeg) _ _ _ h hP hD hS (lv_sub hl [2, 3, 1, 0] rfl)
  refine lv_aload_n hx hb d_U_outlineRound_0 rfl (lv_at hl 0 rfl) ?_
  refine va_get (D := (dC, dI)) (ci := 2) (v := .ref a_areas) (C := R_U) (T := F_U) (N := 9) hx hb hts i_U_in hown hK hP 0 rfl rfl 5 (by decide) (hts _ q_73) (fun _ h9 => h9) rfl d_U_outlineRound_1 ?_
  refine lv_iload_n hx hb d_U_outlineRound_4 rfl (lv_at hl 1 rfl) ?_
  obtain ⟨hin, h⟩ := h
  refine va_iald hx hb hK hP 1 0 rfl rfl hin d_U_outlineRound_5 ?_
  refine lv_if_ge (tgt := 13) hx hb d_U_outlineRound_6 (by decide) (fun cc_ => ?_) (fun cc_ => ?_)
  · have h := h.1 cc_
    refine lv_iconst (v := 0) hx hb d_U_outlineRound_13 (by decide) ?_
    exact J14 x1 (0 : Int32) _ _ _ h hP hD hS (lv_sub hl [0, 1] rfl)
  · have h := h.2 cc_
    refine lv_iconst (v := 1) hx hb d_U_outlineRound_9 (by decide) ?_
    refine lv_goto (tgt := 14) hx hb d_U_outlineRound_10 (by decide) ?_
    exact J14 x1 (1 : Int32) _ _ _ h hP hD hS (lv_sub hl [0, 1] rfl)
def wp_U_length (n_begins : Nat) (f_begins : Nat → Int32) (x1 : Int32) (post : Int32 → Unit → Prop) : Prop :=
  vp_in (x1 + (1 : Int32)) n_begins ∧ vp_in x1 n_begins ∧ post ((f_begins (x1 + (1 : Int32)).toNatClampNeg) - (f_begins x1.toNatClampNeg)) ()
abbrev cw_U_length (cI : ClassId) (a_this a_begins a_picture a_xs a_ys a_layers a_areas a_walked : Nat) (n_begins : Nat) (c_count : Int32) (c_traced : Int32) (f_begins : Nat → Int32) : va_W := [(a_this, .inr (2, [.ref a_picture, .ref a_xs, .ref a_ys, .ref a_begins, .ref a_layers, .ref a_areas, .ref a_walked, .int c_count, .int c_traced])), (a_begins, .inl (cI, n_begins, .inl f_begins))]
abbrev qq_U_length (dC : Nat → ClassId) (dI : Nat → Nat → Nat) (cI cB cJ cZ : ClassId) (a_this a_begins a_picture a_xs a_ys a_layers a_areas a_walked : Nat) (n_begins : Nat) (c_count : Int32) (c_traced : Int32) (f_begins : Nat → Int32) (A : Nat → Prop) (post : Int32 → Unit → Prop) : Array Value → State → Outcome → State → Prop := va_Qi post (fun _ t => va_P (dC, dI) vwCl (cw_U_length cI a_this a_begins a_picture a_xs a_ys a_layers a_areas a_walked n_begins c_count c_traced f_begins) t.heap ∧ va_K (dC, dI) vwCl [(cI, .int), (cB, .byte), (cJ, .long), (cZ, .boolean)] t ∧ va_D A (cw_U_length cI a_this a_begins a_picture a_xs a_ys a_layers a_areas a_walked n_begins c_count c_traced f_begins)) A
set_option maxHeartbeats 4000000 in
set_option maxRecDepth 100000 in
theorem c_U_length (l : Launch) (dC : Nat → ClassId) (dI : Nat → Nat → Nat) (cI cB cJ cZ : ClassId) (a_this a_begins a_picture a_xs a_ys a_layers a_areas a_walked : Nat) (sz : Nat) (n_begins : Nat) (c_count : Int32) (c_traced : Int32) (f_begins : Nat → Int32) (x1 : Int32) (post : Int32 → Unit → Prop) (h : wp_U_length n_begins f_begins x1 post) : Met l y_U_length w_U_length ({ frames := 0, cells := 0, slots := 0, locals := 0 }) (va_Pc [.ref a_this, .int x1] (fun U => U.heap.size = sz ∧ va_P (dC, dI) vwCl (cw_U_length cI a_this a_begins a_picture a_xs a_ys a_layers a_areas a_walked n_begins c_count c_traced f_begins) U.heap ∧ va_K (dC, dI) vwCl [(cI, .int), (cB, .byte), (cJ, .long), (cZ, .boolean)] U ∧ va_D (fun _ => True) (cw_U_length cI a_this a_begins a_picture a_xs a_ys a_layers a_areas a_walked n_begins c_count c_traced f_begins))) (qq_U_length dC dI cI cB cJ cZ a_this a_begins a_picture a_xs a_ys a_layers a_areas a_walked n_begins c_count c_traced f_begins (va_A (cw_U_length cI a_this a_begins a_picture a_xs a_ys a_layers a_areas a_walked n_begins c_count c_traced f_begins) sz) post) 0 0 (va_A (cw_U_length cI a_this a_begins a_picture a_xs a_ys a_layers a_areas a_walked n_begins c_count c_traced f_begins) sz) := by
  refine Met.ofW (cc := b_U_length) (maxL := 2) (ret := (some .int)) (by decide +kernel) rfl ?_
  intro p e s m args below meth c s₁ B hml hv
  obtain ⟨rfl, hsz, hP, hK, hD0⟩ := hv
  have hx := B.exec
  have hb := B.bytes
  have hr := B.returns
  have hts : ∀ w ∈ allW, w.before _ s = true := fun w hw => atoms_spec (ws := w_U_length) B.pre w (List.mem_cons_of_mem _ hw)
  have hown : s.vm.findClass R_U = some m.cls := findClass_of_methodNamed B.named
  have hlocks := B.notSynchronized
  subst hsz
  have hD := hD0.self (sz := s.heap.size)
  generalize hAe : va_A (cw_U_length cI a_this a_begins a_picture a_xs a_ys a_layers a_areas a_walked n_begins c_count c_traced f_begins) s.heap.size = A at hD ⊢
  have hA : ∀ q : Nat, s.heap.size ≤ q → A q := fun q h => by rw [← hAe]; exact Or.inr h
  have hS : va_S A s.heap s.heap [] := va_S.rf
  clear hD0
  generalize hQf : MQ below (qq_U_length dC dI cI cB cJ cZ a_this a_begins a_picture a_xs a_ys a_layers a_areas a_walked n_begins c_count c_traced f_begins A post) ([.ref a_this, .int x1] : List Value).toArray s 0 0 A = Qf
  have hl := lv_entry ([.ref a_this, .int x1]) (n := 2) (Nat.le_of_ble_eq_true rfl)
  rw [lg_entry_eq]
  generalize (lg_sl ([.ref a_this, .int x1]) ++ List.replicate (2 - (lg_sl ([.ref a_this, .int x1])).length) Slot.unset).toArray = ls at hl ⊢
  have hl : lv_has ls 2 [(0, .ref a_this), (1, .int x1)] := hl
  unfold wp_U_length at h
  refine lv_aload_n hx hb d_U_length_0 rfl (lv_at hl 0 rfl) ?_
  refine va_get (D := (dC, dI)) (ci := 2) (v := .ref a_begins) (C := R_U) (T := F_U) (N := 9) hx hb hts i_U_in hown hK hP 0 rfl rfl 3 (by decide) (hts _ q_68) (fun _ h9 => h9) rfl d_U_length_1 ?_
  refine lv_iload_n hx hb d_U_length_4 rfl (lv_at hl 1 rfl) ?_
  refine lv_iconst (v := 1) hx hb d_U_length_5 (by decide) ?_
  refine lv_iadd hx hb d_U_length_6 ?_
  obtain ⟨hin, h⟩ := h
  refine va_iald hx hb hK hP 1 0 rfl rfl hin d_U_length_7 ?_
  refine lv_aload_n hx hb d_U_length_8 rfl (lv_at hl 0 rfl) ?_
  refine va_get (D := (dC, dI)) (ci := 2) (v := .ref a_begins) (C := R_U) (T := F_U) (N := 9) hx hb hts i_U_in hown hK hP 0 rfl rfl 3 (by decide) (hts _ q_68) (fun _ h9 => h9) rfl d_U_length_9 ?_
  refine lv_iload_n hx hb d_U_length_12 rfl (lv_at hl 1 rfl) ?_
  obtain ⟨hin, h⟩ := h
  refine va_iald hx hb hK hP 1 0 rfl rfl hin d_U_length_13 ?_
  refine lv_isub hx hb d_U_length_14 ?_
  subst hQf
  exact W.iret (v := ((f_begins (x1 + (1 : Int32)).toNatClampNeg) - (f_begins x1.toNatClampNeg))) hx hb hr (fun t ht hW => ⟨⟨((f_begins (x1 + (1 : Int32)).toNatClampNeg) - (f_begins x1.toNatClampNeg)), (), rfl, h, by rw [ht]; exact hP, va_K.moved hW.alike hK, hD⟩, hS.F ht⟩) hS.2.2 d_U_length_15
def wp_U_greatestLayerAt_J46 (n_layers n_begins n_xs n_ys : Nat) (c_count : Int32) (f_layers : Nat → Int32) (f_begins : Nat → Int32) (f_xs : Nat → Int32) (f_ys : Nat → Int32) (x1 : Int32) (x2 : Int32) (x3 : Int32) (x4 : Int32) (x5 : Int32) (back3 : Int32 → Prop) (back13 : (Int32 × Int32) → Prop) (post : Int32 → Unit → Prop) : Prop :=
  ∀ x5_46 : Int32, x5_46 = x5 + (1 : Int32) → back13 (x4, x5_46)
def wp_U_greatestLayerAt_L13 (n_layers n_begins n_xs n_ys : Nat) (c_count : Int32) (f_layers : Nat → Int32) (f_begins : Nat → Int32) (f_xs : Nat → Int32) (f_ys : Nat → Int32) (x1 : Int32) (x2 : Int32) (x3 : Int32) (back3 : Int32 → Prop) (post : Int32 → Unit → Prop) (back13 : (Int32 × Int32) → Prop) (x4 : Int32) (x5 : Int32) : Prop :=
  (c_count ≤ x5 → (¬ (x4 &&& (1 : Int32)) = (1 : Int32) → ∀ x3_62 : Int32, x3_62 = x3 + (-1 : Int32) → back3 x3_62) ∧ ((x4 &&& (1 : Int32)) = (1 : Int32) → post x3 ())) ∧ (¬ c_count ≤ x5 → vp_in x5 n_layers ∧ (¬ (f_layers x5.toNatClampNeg) = x3 → wp_U_greatestLayerAt_J46 n_layers n_begins n_xs n_ys c_count f_layers f_begins f_xs f_ys x1 x2 x3 x4 x5 back3 back13 post) ∧ ((f_layers x5.toNatClampNeg) = x3 → ∃ Q40 : Int32 → Unit → Prop, wp_U_uprightsLeftOf n_begins n_xs n_ys f_begins f_xs f_ys x5 x1 x2 Q40 ∧ ∀ (r40 : Int32), Q40 r40 () → ∀ x4_44 : Int32, x4_44 = (x4 + r40) → wp_U_greatestLayerAt_J46 n_layers n_begins n_xs n_ys c_count f_layers f_begins f_xs f_ys x1 x2 x3 x4_44 x5 back3 back13 post))
def wp_U_greatestLayerAt_L3 (n_layers n_begins n_xs n_ys : Nat) (c_count : Int32) (f_layers : Nat → Int32) (f_begins : Nat → Int32) (f_xs : Nat → Int32) (f_ys : Nat → Int32) (x1 : Int32) (x2 : Int32) (post : Int32 → Unit → Prop) (back3 : Int32 → Prop) (x3 : Int32) : Prop :=
  (x3 ≤ 0 → post (0 : Int32) ()) ∧ (¬ x3 ≤ 0 → lpW (fun b z => wp_U_greatestLayerAt_L13 n_layers n_begins n_xs n_ys c_count f_layers f_begins f_xs f_ys x1 x2 x3 back3 post b z.1 z.2) ((0 : Int32), (0 : Int32)))
def wp_U_greatestLayerAt (n_layers n_begins n_xs n_ys : Nat) (c_count : Int32) (f_layers : Nat → Int32) (f_begins : Nat → Int32) (f_xs : Nat → Int32) (f_ys : Nat → Int32) (x1 : Int32) (x2 : Int32) (post : Int32 → Unit → Prop) : Prop :=
  lpW (fun b z => wp_U_greatestLayerAt_L3 n_layers n_begins n_xs n_ys c_count f_layers f_begins f_xs f_ys x1 x2 post b z) (7 : Int32)
abbrev cw_U_greatestLayerAt (cB cI : ClassId) (a_this a_layers a_begins a_xs a_ys a_picture a_areas a_walked : Nat) (n_layers n_begins n_xs n_ys : Nat) (c_count : Int32) (c_traced : Int32) (f_layers : Nat → Int32) (f_begins : Nat → Int32) (f_xs : Nat → Int32) (f_ys : Nat → Int32) : va_W := [(a_this, .inr (2, [.ref a_picture, .ref a_xs, .ref a_ys, .ref a_begins, .ref a_layers, .ref a_areas, .ref a_walked, .int c_count, .int c_traced])), (a_layers, .inl (cB, n_layers, .inl f_layers)), (a_begins, .inl (cI, n_begins, .inl f_begins)), (a_xs, .inl (cB, n_xs, .inl f_xs)), (a_ys, .inl (cB, n_ys, .inl f_ys))]
abbrev qq_U_greatestLayerAt (dC : Nat → ClassId) (dI : Nat → Nat → Nat) (cI cB cJ cZ : ClassId) (a_this a_layers a_begins a_xs a_ys a_picture a_areas a_walked : Nat) (n_layers n_begins n_xs n_ys : Nat) (c_count : Int32) (c_traced : Int32) (f_layers : Nat → Int32) (f_begins : Nat → Int32) (f_xs : Nat → Int32) (f_ys : Nat → Int32) (A : Nat → Prop) (post : Int32 → Unit → Prop) : Array Value → State → Outcome → State → Prop := va_Qi post (fun _ t => va_P (dC, dI) vwCl (cw_U_greatestLayerAt cB cI a_this a_layers a_begins a_xs a_ys a_picture a_areas a_walked n_layers n_begins n_xs n_ys c_count c_traced f_layers f_begins f_xs f_ys) t.heap ∧ va_K (dC, dI) vwCl [(cI, .int), (cB, .byte), (cJ, .long), (cZ, .boolean)] t ∧ va_D A (cw_U_greatestLayerAt cB cI a_this a_layers a_begins a_xs a_ys a_picture a_areas a_walked n_layers n_begins n_xs n_ys c_count c_traced f_layers f_begins f_xs f_ys)) A
set_option maxHeartbeats 4000000 in
set_option maxRecDepth 100000 in
theorem c_U_greatestLayerAt (l : Launch) (dC : Nat → ClassId) (dI : Nat → Nat → Nat) (cI cB cJ cZ : ClassId) (a_this a_layers a_begins a_xs a_ys a_picture a_areas a_walked : Nat) (sz : Nat) (n_layers n_begins n_xs n_ys : Nat) (c_count : Int32) (c_traced : Int32) (f_layers : Nat → Int32) (f_begins : Nat → Int32) (f_xs : Nat → Int32) (f_ys : Nat → Int32) (x1 : Int32) (x2 : Int32) (post : Int32 → Unit → Prop) (h : wp_U_greatestLayerAt n_layers n_begins n_xs n_ys c_count f_layers f_begins f_xs f_ys x1 x2 post) : Met l y_U_greatestLayerAt w_U_greatestLayerAt ({ frames := 2, cells := 0, slots := 0, locals := 48 }) (va_Pc [.ref a_this, .int x1, .int x2] (fun U => U.heap.size = sz ∧ va_P (dC, dI) vwCl (cw_U_greatestLayerAt cB cI a_this a_layers a_begins a_xs a_ys a_picture a_areas a_walked n_layers n_begins n_xs n_ys c_count c_traced f_layers f_begins f_xs f_ys) U.heap ∧ va_K (dC, dI) vwCl [(cI, .int), (cB, .byte), (cJ, .long), (cZ, .boolean)] U ∧ va_D (fun _ => True) (cw_U_greatestLayerAt cB cI a_this a_layers a_begins a_xs a_ys a_picture a_areas a_walked n_layers n_begins n_xs n_ys c_count c_traced f_layers f_begins f_xs f_ys))) (qq_U_greatestLayerAt dC dI cI cB cJ cZ a_this a_layers a_begins a_xs a_ys a_picture a_areas a_walked n_layers n_begins n_xs n_ys c_count c_traced f_layers f_begins f_xs f_ys (va_A (cw_U_greatestLayerAt cB cI a_this a_layers a_begins a_xs a_ys a_picture a_areas a_walked n_layers n_begins n_xs n_ys c_count c_traced f_layers f_begins f_xs f_ys) sz) post) 0 0 (va_A (cw_U_greatestLayerAt cB cI a_this a_layers a_begins a_xs a_ys a_picture a_areas a_walked n_layers n_begins n_xs n_ys c_count c_traced f_layers f_begins f_xs f_ys) sz) := by
  refine Met.ofW (cc := b_U_greatestLayerAt) (maxL := 6) (ret := (some .int)) (by decide +kernel) rfl ?_
  intro p e s m args below meth c s₁ B hml hv
  obtain ⟨rfl, hsz, hP, hK, hD0⟩ := hv
  have hx := B.exec
  have hb := B.bytes
  have hr := B.returns
  have hts : ∀ w ∈ allW, w.before _ s = true := fun w hw => atoms_spec (ws := w_U_greatestLayerAt) B.pre w (List.mem_cons_of_mem _ hw)
  have hown : s.vm.findClass R_U = some m.cls := findClass_of_methodNamed B.named
  have hlocks := B.notSynchronized
  subst hsz
  have hD := hD0.self (sz := s.heap.size)
  generalize hAe : va_A (cw_U_greatestLayerAt cB cI a_this a_layers a_begins a_xs a_ys a_picture a_areas a_walked n_layers n_begins n_xs n_ys c_count c_traced f_layers f_begins f_xs f_ys) s.heap.size = A at hD ⊢
  have hA : ∀ q : Nat, s.heap.size ≤ q → A q := fun q h => by rw [← hAe]; exact Or.inr h
  have hS : va_S A s.heap s.heap [] := va_S.rf
  clear hD0
  generalize hQf : MQ below (qq_U_greatestLayerAt dC dI cI cB cJ cZ a_this a_layers a_begins a_xs a_ys a_picture a_areas a_walked n_layers n_begins n_xs n_ys c_count c_traced f_layers f_begins f_xs f_ys A post) ([.ref a_this, .int x1, .int x2] : List Value).toArray s 0 0 A = Qf
  have hl := lv_entry ([.ref a_this, .int x1, .int x2]) (n := 6) (Nat.le_of_ble_eq_true rfl)
  rw [lg_entry_eq]
  generalize (lg_sl ([.ref a_this, .int x1, .int x2]) ++ List.replicate (6 - (lg_sl ([.ref a_this, .int x1, .int x2])).length) Slot.unset).toArray = ls at hl ⊢
  have hl : lv_has ls 6 [(0, .ref a_this), (1, .int x1), (2, .int x2)] := hl
  unfold wp_U_greatestLayerAt at h
  refine lv_bipush (v := 7) hx hb d_U_greatestLayerAt_0 (by decide) ?_
  refine lv_istore_n (lv' := [(3, .int (7 : Int32)), (0, .ref a_this), (1, .int x1), (2, .int x2)]) hx hb d_U_greatestLayerAt_2 rfl hl (by decide) rfl (fun ls hl => ?_)
  refine lpW_ind (Wp := fun z => ∀ (H : Heap) (locs : List Loc) (ls : Array Slot), va_P (dC, dI) vwCl (cw_U_greatestLayerAt cB cI a_this a_layers a_begins a_xs a_ys a_picture a_areas a_walked n_layers n_begins n_xs n_ys c_count c_traced f_layers f_begins f_xs f_ys) H → va_D A (cw_U_greatestLayerAt cB cI a_this a_layers a_begins a_xs a_ys a_picture a_areas a_walked n_layers n_begins n_xs n_ys c_count c_traced f_layers f_begins f_xs f_ys) → va_S A s.heap H locs → lv_has ls 6 [(0, .ref a_this), (1, .int x1), (2, .int x2), (3, .int z)] → W p l e (headSpec w_U_greatestLayerAt ({ frames := 2, cells := 0, slots := 0, locals := 48 })).room s m ([.ref a_this, .int x1, .int x2] : List Value).toArray below meth c H locs 0 0 Qf (F0 m 3 ls [])) h ?_ _ _ _ hP hD hS (lv_sub hl [1, 2, 3, 0] rfl)
  intro x3_l3 back3 h hb3 H locs ls hP hD hS hl
  have h : wp_U_greatestLayerAt_L3 n_layers n_begins n_xs n_ys c_count f_layers f_begins f_xs f_ys x1 x2 post back3 x3_l3 := h
  have hP : va_P (dC, dI) vwCl (cw_U_greatestLayerAt cB cI a_this a_layers a_begins a_xs a_ys a_picture a_areas a_walked n_layers n_begins n_xs n_ys c_count c_traced f_layers f_begins f_xs f_ys) H := hP
  have hD : va_D A (cw_U_greatestLayerAt cB cI a_this a_layers a_begins a_xs a_ys a_picture a_areas a_walked n_layers n_begins n_xs n_ys c_count c_traced f_layers f_begins f_xs f_ys) := hD
  have hl : lv_has ls 6 [(0, .ref a_this), (1, .int x1), (2, .int x2), (3, .int x3_l3)] := hl
  unfold wp_U_greatestLayerAt_L3 at h
  refine lv_iload_n hx hb d_U_greatestLayerAt_3 rfl (lv_at hl 3 rfl) ?_
  refine lv_if_le (tgt := 68) hx hb d_U_greatestLayerAt_4 (by decide) (fun cc_ => ?_) (fun cc_ => ?_)
  · have h := h.1 cc_
    refine lv_iconst (v := 0) hx hb d_U_greatestLayerAt_68 (by decide) ?_
    subst hQf
    exact W.iret (v := (0 : Int32)) hx hb hr (fun t ht hW => ⟨⟨(0 : Int32), (), rfl, h, by rw [ht]; exact hP, va_K.moved hW.alike hK, hD⟩, hS.F ht⟩) hS.2.2 d_U_greatestLayerAt_69
  · have h := h.2 cc_
    refine lv_iconst (v := 0) hx hb d_U_greatestLayerAt_7 (by decide) ?_
    refine lv_istore (lv' := [(4, .int (0 : Int32)), (0, .ref a_this), (1, .int x1), (2, .int x2), (3, .int x3_l3)]) hx hb d_U_greatestLayerAt_8 hl (by decide) rfl (fun ls hl => ?_)
    refine lv_iconst (v := 0) hx hb d_U_greatestLayerAt_10 (by decide) ?_
    refine lv_istore (lv' := [(5, .int (0 : Int32)), (4, .int (0 : Int32)), (0, .ref a_this), (1, .int x1), (2, .int x2), (3, .int x3_l3)]) hx hb d_U_greatestLayerAt_11 hl (by decide) rfl (fun ls hl => ?_)
    refine lpW_ind (Wp := fun z => ∀ (H : Heap) (locs : List Loc) (ls : Array Slot), va_P (dC, dI) vwCl (cw_U_greatestLayerAt cB cI a_this a_layers a_begins a_xs a_ys a_picture a_areas a_walked n_layers n_begins n_xs n_ys c_count c_traced f_layers f_begins f_xs f_ys) H → va_D A (cw_U_greatestLayerAt cB cI a_this a_layers a_begins a_xs a_ys a_picture a_areas a_walked n_layers n_begins n_xs n_ys c_count c_traced f_layers f_begins f_xs f_ys) → va_S A s.heap H locs → lv_has ls 6 [(0, .ref a_this), (1, .int x1), (2, .int x2), (3, .int x3_l3), (4, .int z.1), (5, .int z.2)] → W p l e (headSpec w_U_greatestLayerAt ({ frames := 2, cells := 0, slots := 0, locals := 48 })).room s m ([.ref a_this, .int x1, .int x2] : List Value).toArray below meth c H locs 0 0 Qf (F0 m 13 ls [])) h ?_ _ _ _ hP hD hS (lv_sub hl [2, 3, 4, 5, 1, 0] rfl)
    rintro ⟨x4_l13, x5_l13⟩ back13 h hb13 H locs ls hP hD hS hl
    have h : wp_U_greatestLayerAt_L13 n_layers n_begins n_xs n_ys c_count f_layers f_begins f_xs f_ys x1 x2 x3_l3 back3 post back13 x4_l13 x5_l13 := h
    have hP : va_P (dC, dI) vwCl (cw_U_greatestLayerAt cB cI a_this a_layers a_begins a_xs a_ys a_picture a_areas a_walked n_layers n_begins n_xs n_ys c_count c_traced f_layers f_begins f_xs f_ys) H := hP
    have hD : va_D A (cw_U_greatestLayerAt cB cI a_this a_layers a_begins a_xs a_ys a_picture a_areas a_walked n_layers n_begins n_xs n_ys c_count c_traced f_layers f_begins f_xs f_ys) := hD
    have hl : lv_has ls 6 [(0, .ref a_this), (1, .int x1), (2, .int x2), (3, .int x3_l3), (4, .int x4_l13), (5, .int x5_l13)] := hl
    unfold wp_U_greatestLayerAt_L13 at h
    have J46 : ∀ (x4_j46 : Int32) (x5_j46 : Int32) (H : Heap) (locs : List Loc) (ls : Array Slot), wp_U_greatestLayerAt_J46 n_layers n_begins n_xs n_ys c_count f_layers f_begins f_xs f_ys x1 x2 x3_l3 x4_j46 x5_j46 back3 back13 post → va_P (dC, dI) vwCl (cw_U_greatestLayerAt cB cI a_this a_layers a_begins a_xs a_ys a_picture a_areas a_walked n_layers n_begins n_xs n_ys c_count c_traced f_layers f_begins f_xs f_ys) H → va_D A (cw_U_greatestLayerAt cB cI a_this a_layers a_begins a_xs a_ys a_picture a_areas a_walked n_layers n_begins n_xs n_ys c_count c_traced f_layers f_begins f_xs f_ys) → va_S A s.heap H locs → lv_has ls 6 [(0, .ref a_this), (1, .int x1), (2, .int x2), (3, .int x3_l3), (4, .int x4_j46), (5, .int x5_j46)] → W p l e (headSpec w_U_greatestLayerAt ({ frames := 2, cells := 0, slots := 0, locals := 48 })).room s m ([.ref a_this, .int x1, .int x2] : List Value).toArray below meth c H locs 0 0 Qf (F0 m 46 ls []) := by
      intro x4_j46 x5_j46 H locs ls h hP hD hS hl
      unfold wp_U_greatestLayerAt_J46 at h
      obtain ⟨x5_46, e_x5_46⟩ : ∃ y : Int32, y = x5_j46 + (1 : Int32) := ⟨_, rfl⟩
      have h := h x5_46 e_x5_46
      refine lv_iinc (v := x5_46) (lv' := [(5, .int x5_46), (0, .ref a_this), (1, .int x1), (2, .int x2), (3, .int x3_l3), (4, .int x4_j46)]) hx hb d_U_greatestLayerAt_46 hl (k := 5) rfl (by rw [e_x5_46]; rfl) (by decide) rfl (fun ls hl => ?_)
      refine lv_goto (tgt := 13) hx hb d_U_greatestLayerAt_49 (by decide) ?_
      exact hb13 _ h _ _ _ hP hD hS (lv_sub hl [1, 2, 3, 4, 5, 0] rfl)
    refine lv_iload hx hb d_U_greatestLayerAt_13 (lv_at hl 5 rfl) ?_
    refine lv_aload_n hx hb d_U_greatestLayerAt_15 rfl (lv_at hl 0 rfl) ?_
    refine va_get (D := (dC, dI)) (ci := 2) (v := .int c_count) (C := R_U) (T := F_U) (N := 9) hx hb hts i_U_in hown hK hP 0 rfl rfl 7 (by decide) (hts _ q_76) (fun _ h9 => h9) rfl d_U_greatestLayerAt_16 ?_
    refine lv_icmp_ge (tgt := 52) hx hb d_U_greatestLayerAt_19 (by decide) (fun cc_ => ?_) (fun cc_ => ?_)
    · have h := h.1 cc_
      refine lv_iload hx hb d_U_greatestLayerAt_52 (lv_at hl 4 rfl) ?_
      refine lv_iconst (v := 1) hx hb d_U_greatestLayerAt_54 (by decide) ?_
      refine lv_iand hx hb d_U_greatestLayerAt_55 ?_
      refine lv_iconst (v := 1) hx hb d_U_greatestLayerAt_56 (by decide) ?_
      refine lv_icmp_ne (tgt := 62) hx hb d_U_greatestLayerAt_57 (by decide) (fun cc_ => ?_) (fun cc_ => ?_)
      · have h := h.1 cc_
        obtain ⟨x3_62, e_x3_62⟩ : ∃ y : Int32, y = x3_l3 + (-1 : Int32) := ⟨_, rfl⟩
        have h := h x3_62 e_x3_62
        refine lv_iinc (v := x3_62) (lv' := [(3, .int x3_62), (0, .ref a_this), (1, .int x1), (2, .int x2), (4, .int x4_l13), (5, .int x5_l13)]) hx hb d_U_greatestLayerAt_62 hl (k := 3) rfl (by rw [e_x3_62]; rfl) (by decide) rfl (fun ls hl => ?_)
        refine lv_goto (tgt := 3) hx hb d_U_greatestLayerAt_65 (by decide) ?_
        exact hb3 _ h _ _ _ hP hD hS (lv_sub hl [1, 2, 3, 0] rfl)
      · have h := h.2 cc_
        refine lv_iload_n hx hb d_U_greatestLayerAt_60 rfl (lv_at hl 3 rfl) ?_
        subst hQf
        exact W.iret (v := x3_l3) hx hb hr (fun t ht hW => ⟨⟨x3_l3, (), rfl, h, by rw [ht]; exact hP, va_K.moved hW.alike hK, hD⟩, hS.F ht⟩) hS.2.2 d_U_greatestLayerAt_61
    · have h := h.2 cc_
      refine lv_aload_n hx hb d_U_greatestLayerAt_22 rfl (lv_at hl 0 rfl) ?_
      refine va_get (D := (dC, dI)) (ci := 2) (v := .ref a_layers) (C := R_U) (T := F_U) (N := 9) hx hb hts i_U_in hown hK hP 0 rfl rfl 4 (by decide) (hts _ q_71) (fun _ h9 => h9) rfl d_U_greatestLayerAt_23 ?_
      refine lv_iload hx hb d_U_greatestLayerAt_26 (lv_at hl 5 rfl) ?_
      obtain ⟨hin, h⟩ := h
      refine va_bald hx hb hK hP 1 1 rfl rfl hin d_U_greatestLayerAt_28 ?_
      refine lv_iload_n hx hb d_U_greatestLayerAt_29 rfl (lv_at hl 3 rfl) ?_
      refine lv_icmp_ne (tgt := 46) hx hb d_U_greatestLayerAt_30 (by decide) (fun cc_ => ?_) (fun cc_ => ?_)
      · have h := h.1 cc_
        exact J46 x4_l13 x5_l13 _ _ _ h hP hD hS (lv_sub hl [0, 1, 2, 3, 4, 5] rfl)
      · have h := h.2 cc_
        refine lv_iload hx hb d_U_greatestLayerAt_33 (lv_at hl 4 rfl) ?_
        refine lv_aload_n hx hb d_U_greatestLayerAt_35 rfl (lv_at hl 0 rfl) ?_
        refine lv_iload hx hb d_U_greatestLayerAt_36 (lv_at hl 5 rfl) ?_
        refine lv_iload_n hx hb d_U_greatestLayerAt_38 rfl (lv_at hl 1 rfl) ?_
        refine lv_iload_n hx hb d_U_greatestLayerAt_39 rfl (lv_at hl 2 rfl) ?_
        obtain ⟨Q40, hq40, h⟩ := h
        have hPc := hP.sub (ws' := (cw_U_uprightsLeftOf cB cI a_this a_begins a_xs a_ys a_picture a_layers a_areas a_walked n_begins n_xs n_ys c_count c_traced f_begins f_xs f_ys)) [0, 2, 3, 4] rfl
        have hDc := hD.sub (ws' := (cw_U_uprightsLeftOf cB cI a_this a_begins a_xs a_ys a_picture a_layers a_areas a_walked n_begins n_xs n_ys c_count c_traced f_begins f_xs f_ys)) [0, 2, 3, 4] (by decide) rfl
        have hFc := va_free (wc := (cw_U_uprightsLeftOf cB cI a_this a_begins a_xs a_ys a_picture a_layers a_areas a_walked n_begins n_xs n_ys c_count c_traced f_begins f_xs f_ys)) hD hS hA [0, 2, 3, 4] rfl
        refine va_calli (va_runV (As := [.int x5_l13, .int x1, .int x2]) (rest := [.int x4_l13]) ⟨hx, hb, hml, hown, hts⟩ (c_U_uprightsLeftOf l dC dI cI cB cJ cZ a_this a_begins a_xs a_ys a_picture a_layers a_areas a_walked H.size n_begins n_xs n_ys c_count c_traced f_begins f_xs f_ys x5_l13 x1 x2 Q40 hq40) (cwV 3 hts (goodV q_443 q_445 q_p9 q_4 q_446) rfl rfl rfl (by decide +kernel) ⟨Nat.le_of_ble_eq_true rfl, Nat.le_of_ble_eq_true rfl⟩) ⟨fun a U g mk q => by obtain ⟨q0, q1, qP, qK, qD⟩ := q; exact ⟨q0, q1, qP, va_K.moved (u := U) (U := U.calling g mk a) (Vm.Alike.refl U.vm) qK, qD⟩, va_recv hK hPc (ci := 2) (q0 := 0) rfl rfl, fun U hU hW => ⟨rfl, by rw [hU], by rw [hU]; exact hPc, va_K.moved hW.alike hK, hDc.weaken (fun _ _ _ _ => trivial)⟩⟩ rfl rfl hl.1 rfl (lv_room (Nat.le_of_ble_eq_true rfl)) d_U_greatestLayerAt_40 ⟨Nat.le_of_ble_eq_true rfl, Nat.le_of_ble_eq_true rfl⟩) hS (fun q _ h => hFc q h) hFc (fun r40 u40 t H1 locs ht hvm hw hB hz1 hk1 hS => ?_)
        cases u40
        obtain ⟨hP1, -, hD1⟩ := hB
        rw [ht] at hP1
        have h := h r40 hw
        obtain ⟨hP, hD⟩ := va_join (wr := [(a_layers, .inl (cB, n_layers, .inl f_layers))]) (w1 := (cw_U_uprightsLeftOf cB cI a_this a_begins a_xs a_ys a_picture a_layers a_areas a_walked n_begins n_xs n_ys c_count c_traced f_begins f_xs f_ys)) hP hD [0, 2, 3, 4] [1] rfl rfl (by decide) (by decide) hk1 hFc hP1 hD1
        clear hP1 hD1 hk1 hPc hDc hFc
        generalize H1 = H at hP hS ⊢
        have hP : va_P (dC, dI) vwCl (cw_U_greatestLayerAt cB cI a_this a_layers a_begins a_xs a_ys a_picture a_areas a_walked n_layers n_begins n_xs n_ys c_count c_traced f_layers f_begins f_xs f_ys) H := hP.sub [1, 0, 2, 3, 4] rfl
        have hD : va_D A (cw_U_greatestLayerAt cB cI a_this a_layers a_begins a_xs a_ys a_picture a_areas a_walked n_layers n_begins n_xs n_ys c_count c_traced f_layers f_begins f_xs f_ys) := hD.sub [1, 0, 2, 3, 4] (by decide) rfl
        refine lv_iadd hx hb d_U_greatestLayerAt_43 ?_
        refine lv_topi (fun x4_44 e_x4_44 => ?_)
        have h := h x4_44 e_x4_44
        refine lv_istore (lv' := [(4, .int x4_44), (0, .ref a_this), (1, .int x1), (2, .int x2), (3, .int x3_l3), (5, .int x5_l13)]) hx hb d_U_greatestLayerAt_44 hl (by decide) rfl (fun ls hl => ?_)
        exact J46 x4_44 x5_l13 _ _ _ h hP hD hS (lv_sub hl [1, 2, 3, 4, 0, 5] rfl)
def wp_U_directionBit (n_ys n_xs : Nat) (f_ys : Nat → Int32) (f_xs : Nat → Int32) (x1 : Int32) (x2 : Int32) (post : Int32 → Unit → Prop) : Prop :=
  vp_in x1 n_ys ∧ vp_in x2 n_ys ∧ (¬ (f_ys x1.toNatClampNeg) = (f_ys x2.toNatClampNeg) → vp_in x2 n_ys ∧ vp_in x1 n_ys ∧ ((f_ys x2.toNatClampNeg) ≤ (f_ys x1.toNatClampNeg) → post (8 : Int32) ()) ∧ (¬ (f_ys x2.toNatClampNeg) ≤ (f_ys x1.toNatClampNeg) → post (4 : Int32) ())) ∧ ((f_ys x1.toNatClampNeg) = (f_ys x2.toNatClampNeg) → vp_in x2 n_xs ∧ vp_in x1 n_xs ∧ ((f_xs x2.toNatClampNeg) ≤ (f_xs x1.toNatClampNeg) → post (2 : Int32) ()) ∧ (¬ (f_xs x2.toNatClampNeg) ≤ (f_xs x1.toNatClampNeg) → post (1 : Int32) ()))
abbrev cw_U_directionBit (cB : ClassId) (a_this a_ys a_xs a_picture a_begins a_layers a_areas a_walked : Nat) (n_ys n_xs : Nat) (c_count : Int32) (c_traced : Int32) (f_ys : Nat → Int32) (f_xs : Nat → Int32) : va_W := [(a_this, .inr (2, [.ref a_picture, .ref a_xs, .ref a_ys, .ref a_begins, .ref a_layers, .ref a_areas, .ref a_walked, .int c_count, .int c_traced])), (a_ys, .inl (cB, n_ys, .inl f_ys)), (a_xs, .inl (cB, n_xs, .inl f_xs))]
abbrev qq_U_directionBit (dC : Nat → ClassId) (dI : Nat → Nat → Nat) (cI cB cJ cZ : ClassId) (a_this a_ys a_xs a_picture a_begins a_layers a_areas a_walked : Nat) (n_ys n_xs : Nat) (c_count : Int32) (c_traced : Int32) (f_ys : Nat → Int32) (f_xs : Nat → Int32) (A : Nat → Prop) (post : Int32 → Unit → Prop) : Array Value → State → Outcome → State → Prop := va_Qi post (fun _ t => va_P (dC, dI) vwCl (cw_U_directionBit cB a_this a_ys a_xs a_picture a_begins a_layers a_areas a_walked n_ys n_xs c_count c_traced f_ys f_xs) t.heap ∧ va_K (dC, dI) vwCl [(cI, .int), (cB, .byte), (cJ, .long), (cZ, .boolean)] t ∧ va_D A (cw_U_directionBit cB a_this a_ys a_xs a_picture a_begins a_layers a_areas a_walked n_ys n_xs c_count c_traced f_ys f_xs)) A
set_option maxHeartbeats 4000000 in
set_option maxRecDepth 100000 in
theorem c_U_directionBit (l : Launch) (dC : Nat → ClassId) (dI : Nat → Nat → Nat) (cI cB cJ cZ : ClassId) (a_this a_ys a_xs a_picture a_begins a_layers a_areas a_walked : Nat) (sz : Nat) (n_ys n_xs : Nat) (c_count : Int32) (c_traced : Int32) (f_ys : Nat → Int32) (f_xs : Nat → Int32) (x1 : Int32) (x2 : Int32) (post : Int32 → Unit → Prop) (h : wp_U_directionBit n_ys n_xs f_ys f_xs x1 x2 post) : Met l y_U_directionBit w_U_directionBit ({ frames := 0, cells := 0, slots := 0, locals := 0 }) (va_Pc [.ref a_this, .int x1, .int x2] (fun U => U.heap.size = sz ∧ va_P (dC, dI) vwCl (cw_U_directionBit cB a_this a_ys a_xs a_picture a_begins a_layers a_areas a_walked n_ys n_xs c_count c_traced f_ys f_xs) U.heap ∧ va_K (dC, dI) vwCl [(cI, .int), (cB, .byte), (cJ, .long), (cZ, .boolean)] U ∧ va_D (fun _ => True) (cw_U_directionBit cB a_this a_ys a_xs a_picture a_begins a_layers a_areas a_walked n_ys n_xs c_count c_traced f_ys f_xs))) (qq_U_directionBit dC dI cI cB cJ cZ a_this a_ys a_xs a_picture a_begins a_layers a_areas a_walked n_ys n_xs c_count c_traced f_ys f_xs (va_A (cw_U_directionBit cB a_this a_ys a_xs a_picture a_begins a_layers a_areas a_walked n_ys n_xs c_count c_traced f_ys f_xs) sz) post) 0 0 (va_A (cw_U_directionBit cB a_this a_ys a_xs a_picture a_begins a_layers a_areas a_walked n_ys n_xs c_count c_traced f_ys f_xs) sz) := by
  refine Met.ofW (cc := b_U_directionBit) (maxL := 3) (ret := (some .int)) (by decide +kernel) rfl ?_
  intro p e s m args below meth c s₁ B hml hv
  obtain ⟨rfl, hsz, hP, hK, hD0⟩ := hv
  have hx := B.exec
  have hb := B.bytes
  have hr := B.returns
  have hts : ∀ w ∈ allW, w.before _ s = true := fun w hw => atoms_spec (ws := w_U_directionBit) B.pre w (List.mem_cons_of_mem _ hw)
  have hown : s.vm.findClass R_U = some m.cls := findClass_of_methodNamed B.named
  have hlocks := B.notSynchronized
  subst hsz
  have hD := hD0.self (sz := s.heap.size)
  generalize hAe : va_A (cw_U_directionBit cB a_this a_ys a_xs a_picture a_begins a_layers a_areas a_walked n_ys n_xs c_count c_traced f_ys f_xs) s.heap.size = A at hD ⊢
  have hA : ∀ q : Nat, s.heap.size ≤ q → A q := fun q h => by rw [← hAe]; exact Or.inr h
  have hS : va_S A s.heap s.heap [] := va_S.rf
  clear hD0
  generalize hQf : MQ below (qq_U_directionBit dC dI cI cB cJ cZ a_this a_ys a_xs a_picture a_begins a_layers a_areas a_walked n_ys n_xs c_count c_traced f_ys f_xs A post) ([.ref a_this, .int x1, .int x2] : List Value).toArray s 0 0 A = Qf
  have hl := lv_entry ([.ref a_this, .int x1, .int x2]) (n := 3) (Nat.le_of_ble_eq_true rfl)
  rw [lg_entry_eq]
  generalize (lg_sl ([.ref a_this, .int x1, .int x2]) ++ List.replicate (3 - (lg_sl ([.ref a_this, .int x1, .int x2])).length) Slot.unset).toArray = ls at hl ⊢
  have hl : lv_has ls 3 [(0, .ref a_this), (1, .int x1), (2, .int x2)] := hl
  unfold wp_U_directionBit at h
  refine lv_aload_n hx hb d_U_directionBit_0 rfl (lv_at hl 0 rfl) ?_
  refine va_get (D := (dC, dI)) (ci := 2) (v := .ref a_ys) (C := R_U) (T := F_U) (N := 9) hx hb hts i_U_in hown hK hP 0 rfl rfl 2 (by decide) (hts _ q_65) (fun _ h9 => h9) rfl d_U_directionBit_1 ?_
  refine lv_iload_n hx hb d_U_directionBit_4 rfl (lv_at hl 1 rfl) ?_
  obtain ⟨hin, h⟩ := h
  refine va_bald hx hb hK hP 1 1 rfl rfl hin d_U_directionBit_5 ?_
  refine lv_aload_n hx hb d_U_directionBit_6 rfl (lv_at hl 0 rfl) ?_
  refine va_get (D := (dC, dI)) (ci := 2) (v := .ref a_ys) (C := R_U) (T := F_U) (N := 9) hx hb hts i_U_in hown hK hP 0 rfl rfl 2 (by decide) (hts _ q_65) (fun _ h9 => h9) rfl d_U_directionBit_7 ?_
  refine lv_iload_n hx hb d_U_directionBit_10 rfl (lv_at hl 2 rfl) ?_
  obtain ⟨hin, h⟩ := h
  refine va_bald hx hb hK hP 1 1 rfl rfl hin d_U_directionBit_11 ?_
  refine lv_icmp_ne (tgt := 36) hx hb d_U_directionBit_12 (by decide) (fun cc_ => ?_) (fun cc_ => ?_)
  · have h := h.1 cc_
    refine lv_aload_n hx hb d_U_directionBit_36 rfl (lv_at hl 0 rfl) ?_
    refine va_get (D := (dC, dI)) (ci := 2) (v := .ref a_ys) (C := R_U) (T := F_U) (N := 9) hx hb hts i_U_in hown hK hP 0 rfl rfl 2 (by decide) (hts _ q_65) (fun _ h9 => h9) rfl d_U_directionBit_37 ?_
    refine lv_iload_n hx hb d_U_directionBit_40 rfl (lv_at hl 2 rfl) ?_
    obtain ⟨hin, h⟩ := h
    refine va_bald hx hb hK hP 1 1 rfl rfl hin d_U_directionBit_41 ?_
    refine lv_aload_n hx hb d_U_directionBit_42 rfl (lv_at hl 0 rfl) ?_
    refine va_get (D := (dC, dI)) (ci := 2) (v := .ref a_ys) (C := R_U) (T := F_U) (N := 9) hx hb hts i_U_in hown hK hP 0 rfl rfl 2 (by decide) (hts _ q_65) (fun _ h9 => h9) rfl d_U_directionBit_43 ?_
    refine lv_iload_n hx hb d_U_directionBit_46 rfl (lv_at hl 1 rfl) ?_
    obtain ⟨hin, h⟩ := h
    refine va_bald hx hb hK hP 1 1 rfl rfl hin d_U_directionBit_47 ?_
    refine lv_icmp_le (tgt := 55) hx hb d_U_directionBit_48 (by decide) (fun cc_ => ?_) (fun cc_ => ?_)
    · have h := h.1 cc_
      refine lv_bipush (v := 8) hx hb d_U_directionBit_55 (by decide) ?_
      subst hQf
      exact W.iret (v := (8 : Int32)) hx hb hr (fun t ht hW => ⟨⟨(8 : Int32), (), rfl, h, by rw [ht]; exact hP, va_K.moved hW.alike hK, hD⟩, hS.F ht⟩) hS.2.2 d_U_directionBit_57
    · have h := h.2 cc_
      refine lv_iconst (v := 4) hx hb d_U_directionBit_51 (by decide) ?_
      refine lv_goto (tgt := 57) hx hb d_U_directionBit_52 (by decide) ?_
      subst hQf
      exact W.iret (v := (4 : Int32)) hx hb hr (fun t ht hW => ⟨⟨(4 : Int32), (), rfl, h, by rw [ht]; exact hP, va_K.moved hW.alike hK, hD⟩, hS.F ht⟩) hS.2.2 d_U_directionBit_57
  · have h := h.2 cc_
    refine lv_aload_n hx hb d_U_directionBit_15 rfl (lv_at hl 0 rfl) ?_
    refine va_get (D := (dC, dI)) (ci := 2) (v := .ref a_xs) (C := R_U) (T := F_U) (N := 9) hx hb hts i_U_in hown hK hP 0 rfl rfl 1 (by decide) (hts _ q_62) (fun _ h9 => h9) rfl d_U_directionBit_16 ?_
    refine lv_iload_n hx hb d_U_directionBit_19 rfl (lv_at hl 2 rfl) ?_
    obtain ⟨hin, h⟩ := h
    refine va_bald hx hb hK hP 2 1 rfl rfl hin d_U_directionBit_20 ?_
    refine lv_aload_n hx hb d_U_directionBit_21 rfl (lv_at hl 0 rfl) ?_
    refine va_get (D := (dC, dI)) (ci := 2) (v := .ref a_xs) (C := R_U) (T := F_U) (N := 9) hx hb hts i_U_in hown hK hP 0 rfl rfl 1 (by decide) (hts _ q_62) (fun _ h9 => h9) rfl d_U_directionBit_22 ?_
    refine lv_iload_n hx hb d_U_directionBit_25 rfl (lv_at hl 1 rfl) ?_
    obtain ⟨hin, h⟩ := h
    refine va_bald hx hb hK hP 2 1 rfl rfl hin d_U_directionBit_26 ?_
    refine lv_icmp_le (tgt := 34) hx hb d_U_directionBit_27 (by decide) (fun cc_ => ?_) (fun cc_ => ?_)
    · have h := h.1 cc_
      refine lv_iconst (v := 2) hx hb d_U_directionBit_34 (by decide) ?_
      subst hQf
      exact W.iret (v := (2 : Int32)) hx hb hr (fun t ht hW => ⟨⟨(2 : Int32), (), rfl, h, by rw [ht]; exact hP, va_K.moved hW.alike hK, hD⟩, hS.F ht⟩) hS.2.2 d_U_directionBit_35
    · have h := h.2 cc_
      refine lv_iconst (v := 1) hx hb d_U_directionBit_30 (by decide) ?_
      refine lv_goto (tgt := 35) hx hb d_U_directionBit_31 (by decide) ?_
      subst hQf
      exact W.iret (v := (1 : Int32)) hx hb hr (fun t ht hW => ⟨⟨(1 : Int32), (), rfl, h, by rw [ht]; exact hP, va_K.moved hW.alike hK, hD⟩, hS.F ht⟩) hS.2.2 d_U_directionBit_35
