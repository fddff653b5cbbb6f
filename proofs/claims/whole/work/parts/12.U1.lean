def wp_U_costOf_J178 (n_begins n_xs n_ys : Nat) (f_begins : Nat → Int32) (f_xs : Nat → Int32) (f_ys : Nat → Int32) (x3 : Int32) (x5 : Int32) (x6 : Int32) (x7 : Int32) (x10 : Int32) (x11 : Int32) (x12 : Int32) (x13 : Int32) (x15 : Int32) (y0 : Int32) (back154 : (Int32 × Int32 × Int32) → Prop) (post : Int32 → Unit → Prop) : Prop :=
  vp_in y0 n_ys ∧ vp_in x7 n_ys ∧ vp_in y0 n_xs ∧ vp_in x7 n_xs ∧ ∀ x16_220 : Int32, x16_220 = (jabs ((x10 * ((f_ys y0.toNatClampNeg) - (f_ys x7.toNatClampNeg))) - (x11 * ((f_xs y0.toNatClampNeg) - (f_xs x7.toNatClampNeg))))) → (((2 : Int32) * x16_220) ≤ x12 → ∀ x13_238 : Int32, x13_238 = (x13 + x16_220) → ∀ x15_240 : Int32, x15_240 = x15 + (1 : Int32) → back154 (x13_238, y0, x15_240)) ∧ (¬ ((2 : Int32) * x16_220) ≤ x12 → post (-1 : Int32) ())
def wp_U_costOf_L154 (n_begins n_xs n_ys : Nat) (f_begins : Nat → Int32) (f_xs : Nat → Int32) (f_ys : Nat → Int32) (x3 : Int32) (x5 : Int32) (x6 : Int32) (x7 : Int32) (x10 : Int32) (x11 : Int32) (x12 : Int32) (post : Int32 → Unit → Prop) (back154 : (Int32 × Int32 × Int32) → Prop) (x13 : Int32) (x14 : Int32) (x15 : Int32) : Prop :=
  (x3 ≤ x15 → post x13 ()) ∧ (¬ x3 ≤ x15 → (x6 ≤ (x14 + (1 : Int32)) → wp_U_costOf_J178 n_begins n_xs n_ys f_begins f_xs f_ys x3 x5 x6 x7 x10 x11 x12 x13 x15 x5 back154 post) ∧ (¬ x6 ≤ (x14 + (1 : Int32)) → wp_U_costOf_J178 n_begins n_xs n_ys f_begins f_xs f_ys x3 x5 x6 x7 x10 x11 x12 x13 x15 (x14 + (1 : Int32)) back154 post))
def wp_U_costOf_J58 (n_begins n_xs n_ys : Nat) (f_begins : Nat → Int32) (f_xs : Nat → Int32) (f_ys : Nat → Int32) (x3 : Int32) (x4 : Int32) (x5 : Int32) (x6 : Int32) (x7 : Int32) (x8 : Int32) (x9 : Int32) (x10 : Int32) (y0 : Int32) (back34 : (Int32 × Int32 × Int32) → Prop) (post : Int32 → Unit → Prop) : Prop :=
  ∃ Q67 : Int32 → Unit → Prop, wp_U_directionBit n_ys n_xs f_ys f_xs x8 y0 Q67 ∧ ∀ (r67 : Int32), Q67 r67 () → ∀ x9_71 : Int32, x9_71 = (x9 ||| r67) → ∀ x10_77 : Int32, x10_77 = x10 + (1 : Int32) → back34 (y0, x9_71, x10_77)
def wp_U_costOf_L34 (n_begins n_xs n_ys : Nat) (f_begins : Nat → Int32) (f_xs : Nat → Int32) (f_ys : Nat → Int32) (x3 : Int32) (x4 : Int32) (x5 : Int32) (x6 : Int32) (x7 : Int32) (post : Int32 → Unit → Prop) (back34 : (Int32 × Int32 × Int32) → Prop) (x8 : Int32) (x9 : Int32) (x10 : Int32) : Prop :=
  (x3 ≤ x10 → (¬ x9 = (15 : Int32) → vp_in x8 n_xs ∧ vp_in x7 n_xs ∧ ∀ x10_107 : Int32, x10_107 = ((f_xs x8.toNatClampNeg) - (f_xs x7.toNatClampNeg)) → vp_in x8 n_ys ∧ vp_in x7 n_ys ∧ ∀ x11_124 : Int32, x11_124 = ((f_ys x8.toNatClampNeg) - (f_ys x7.toNatClampNeg)) → ∀ x12_142 : Int32, x12_142 = (x4 * (jmax (jabs x10_107) (jabs x11_124))) → lpW (fun b z => wp_U_costOf_L154 n_begins n_xs n_ys f_begins f_xs f_ys x3 x5 x6 x7 x10_107 x11_124 x12_142 post b z.1 z.2.1 z.2.2) ((0 : Int32), x7, (1 : Int32))) ∧ (x9 = (15 : Int32) → post (-1 : Int32) ())) ∧ (¬ x3 ≤ x10 → (x6 ≤ (x8 + (1 : Int32)) → wp_U_costOf_J58 n_begins n_xs n_ys f_begins f_xs f_ys x3 x4 x5 x6 x7 x8 x9 x10 x5 back34 post) ∧ (¬ x6 ≤ (x8 + (1 : Int32)) → wp_U_costOf_J58 n_begins n_xs n_ys f_begins f_xs f_ys x3 x4 x5 x6 x7 x8 x9 x10 (x8 + (1 : Int32)) back34 post))
def wp_U_costOf (n_begins n_xs n_ys : Nat) (f_begins : Nat → Int32) (f_xs : Nat → Int32) (f_ys : Nat → Int32) (x1 : Int32) (x2 : Int32) (x3 : Int32) (x4 : Int32) (post : Int32 → Unit → Prop) : Prop :=
  vp_in x1 n_begins ∧ ∀ x5_6 : Int32, x5_6 = (f_begins x1.toNatClampNeg) → vp_in (x1 + (1 : Int32)) n_begins ∧ ∀ x6_16 : Int32, x6_16 = (f_begins (x1 + (1 : Int32)).toNatClampNeg) → ∀ x7_22 : Int32, x7_22 = (x5_6 + x2) → lpW (fun b z => wp_U_costOf_L34 n_begins n_xs n_ys f_begins f_xs f_ys x3 x4 x5_6 x6_16 x7_22 post b z.1 z.2.1 z.2.2) (x7_22, (0 : Int32), (0 : Int32))
abbrev cw_U_costOf (cB cI : ClassId) (a_this a_begins a_xs a_ys a_picture a_layers a_areas a_walked : Nat) (n_begins n_xs n_ys : Nat) (c_count : Int32) (c_traced : Int32) (f_begins : Nat → Int32) (f_xs : Nat → Int32) (f_ys : Nat → Int32) : va_W := [(a_this, .inr (2, [.ref a_picture, .ref a_xs, .ref a_ys, .ref a_begins, .ref a_layers, .ref a_areas, .ref a_walked, .int c_count, .int c_traced])), (a_begins, .inl (cI, n_begins, .inl f_begins)), (a_xs, .inl (cB, n_xs, .inl f_xs)), (a_ys, .inl (cB, n_ys, .inl f_ys))]
abbrev qq_U_costOf (dC : Nat → ClassId) (dI : Nat → Nat → Nat) (cI cB cJ cZ : ClassId) (a_this a_begins a_xs a_ys a_picture a_layers a_areas a_walked : Nat) (n_begins n_xs n_ys : Nat) (c_count : Int32) (c_traced : Int32) (f_begins : Nat → Int32) (f_xs : Nat → Int32) (f_ys : Nat → Int32) (A : Nat → Prop) (post : Int32 → Unit → Prop) : Array Value → State → Outcome → State → Prop := va_Qi post (fun _ t => va_P (dC, dI) vwCl (cw_U_costOf cB cI a_this a_begins a_xs a_ys a_picture a_layers a_areas a_walked n_begins n_xs n_ys c_count c_traced f_begins f_xs f_ys) t.heap ∧ va_K (dC, dI) vwCl [(cI, .int), (cB, .byte), (cJ, .long), (cZ, .boolean)] t ∧ va_D A (cw_U_costOf cB cI a_this a_begins a_xs a_ys a_picture a_layers a_areas a_walked n_begins n_xs n_ys c_count c_traced f_begins f_xs f_ys)) A
set_option maxHeartbeats 4000000 in
set_option maxRecDepth 100000 in
theorem c_U_costOf (l : Launch) (dC : Nat → ClassId) (dI : Nat → Nat → Nat) (cI cB cJ cZ : ClassId) (a_this a_begins a_xs a_ys a_picture a_layers a_areas a_walked : Nat) (sz : Nat) (n_begins n_xs n_ys : Nat) (c_count : Int32) (c_traced : Int32) (f_begins : Nat → Int32) (f_xs : Nat → Int32) (f_ys : Nat → Int32) (x1 : Int32) (x2 : Int32) (x3 : Int32) (x4 : Int32) (post : Int32 → Unit → Prop) (h : wp_U_costOf n_begins n_xs n_ys f_begins f_xs f_ys x1 x2 x3 x4 post) : Met l y_U_costOf w_U_costOf ({ frames := 1, cells := 0, slots := 0, locals := 22 }) (va_Pc [.ref a_this, .int x1, .int x2, .int x3, .int x4] (fun U => U.heap.size = sz ∧ va_P (dC, dI) vwCl (cw_U_costOf cB cI a_this a_begins a_xs a_ys a_picture a_layers a_areas a_walked n_begins n_xs n_ys c_count c_traced f_begins f_xs f_ys) U.heap ∧ va_K (dC, dI) vwCl [(cI, .int), (cB, .byte), (cJ, .long), (cZ, .boolean)] U ∧ va_D (fun _ => True) (cw_U_costOf cB cI a_this a_begins a_xs a_ys a_picture a_layers a_areas a_walked n_begins n_xs n_ys c_count c_traced f_begins f_xs f_ys))) (qq_U_costOf dC dI cI cB cJ cZ a_this a_begins a_xs a_ys a_picture a_layers a_areas a_walked n_begins n_xs n_ys c_count c_traced f_begins f_xs f_ys (va_A (cw_U_costOf cB cI a_this a_begins a_xs a_ys a_picture a_layers a_areas a_walked n_begins n_xs n_ys c_count c_traced f_begins f_xs f_ys) sz) post) 0 0 (va_A (cw_U_costOf cB cI a_this a_begins a_xs a_ys a_picture a_layers a_areas a_walked n_begins n_xs n_ys c_count c_traced f_begins f_xs f_ys) sz) := by
  refine Met.ofW (cc := b_U_costOf) (maxL := 17) (ret := (some .int)) (by decide +kernel) rfl ?_
  intro p e s m args below meth c s₁ B hml hv
  obtain ⟨rfl, hsz, hP, hK, hD0⟩ := hv
  have hx := B.exec
  have hb := B.bytes
  have hr := B.returns
  have hts : ∀ w ∈ allW, w.before _ s = true := fun w hw => atoms_spec (ws := w_U_costOf) B.pre w (List.mem_cons_of_mem _ hw)
  have hown : s.vm.findClass R_U = some m.cls := findClass_of_methodNamed B.named
  have hlocks := B.notSynchronized
  subst hsz
  have hD := hD0.self (sz := s.heap.size)
  generalize hAe : va_A (cw_U_costOf cB cI a_this a_begins a_xs a_ys a_picture a_layers a_areas a_walked n_begins n_xs n_ys c_count c_traced f_begins f_xs f_ys) s.heap.size = A at hD ⊢
  have hA : ∀ q : Nat, s.heap.size ≤ q → A q := fun q h => by rw [← hAe]; exact Or.inr h
  have hS : va_S A s.heap s.heap [] := va_S.rf
  clear hD0
  generalize hQf : MQ below (qq_U_costOf dC dI cI cB cJ cZ a_this a_begins a_xs a_ys a_picture a_layers a_areas a_walked n_begins n_xs n_ys c_count c_traced f_begins f_xs f_ys A post) ([.ref a_this, .int x1, .int x2, .int x3, .int x4] : List Value).toArray s 0 0 A = Qf
  have hl := lv_entry ([.ref a_this, .int x1, .int x2, .int x3, .int x4]) (n := 17) (Nat.le_of_ble_eq_true rfl)
  rw [lg_entry_eq]
  generalize (lg_sl ([.ref a_this, .int x1, .int x2, .int x3, .int x4]) ++ List.replicate (17 - (lg_sl ([.ref a_this, .int x1, .int x2, .int x3, .int x4])).length) Slot.unset).toArray = ls at hl ⊢
  have hl : lv_has ls 17 [(0, .ref a_this), (1, .int x1), (2, .int x2), (3, .int x3), (4, .int x4)] := hl
  unfold wp_U_costOf at h
  refine lv_aload_n hx hb d_U_costOf_0 rfl (lv_at hl 0 rfl) ?_
  refine va_get (D := (dC, dI)) (ci := 2) (v := .ref a_begins) (C := R_U) (T := F_U) (N := 9) hx hb hts i_U_in hown hK hP 0 rfl rfl 3 (by decide) (hts _ q_68) (fun _ h9 => h9) rfl d_U_costOf_1 ?_
  refine lv_iload_n hx hb d_U_costOf_4 rfl (lv_at hl 1 rfl) ?_
  obtain ⟨hin, h⟩ := h
  refine va_iald hx hb hK hP 1 0 rfl rfl hin d_U_costOf_5 ?_
  refine lv_topi (fun x5_6 e_x5_6 => ?_)
  have h := h x5_6 e_x5_6
  refine lv_istore (lv' := [(5, .int x5_6), (0, .ref a_this), (1, .int x1), (2, .int x2), (3, .int x3), (4, .int x4)]) hx hb d_U_costOf_6 hl (by decide) rfl (fun ls hl => ?_)
  refine lv_aload_n hx hb d_U_costOf_8 rfl (lv_at hl 1 rfl) ?_
  refine va_get (D := (dC, dI)) (ci := 2) (v := .ref a_begins) (C := R_U) (T := F_U) (N := 9) hx hb hts i_U_in hown hK hP 0 rfl rfl 3 (by decide) (hts _ q_68) (fun _ h9 => h9) rfl d_U_costOf_9 ?_
  refine lv_iload_n hx hb d_U_costOf_12 rfl (lv_at hl 2 rfl) ?_
  refine lv_iconst (v := 1) hx hb d_U_costOf_13 (by decide) ?_
  refine lv_iadd hx hb d_U_costOf_14 ?_
  obtain ⟨hin, h⟩ := h
  refine va_iald hx hb hK hP 1 0 rfl rfl hin d_U_costOf_15 ?_
  refine lv_topi (fun x6_16 e_x6_16 => ?_)
  have h := h x6_16 e_x6_16
  refine lv_istore (lv' := [(6, .int x6_16), (5, .int x5_6), (0, .ref a_this), (1, .int x1), (2, .int x2), (3, .int x3), (4, .int x4)]) hx hb d_U_costOf_16 hl (by decide) rfl (fun ls hl => ?_)
  refine lv_iload hx hb d_U_costOf_18 (lv_at hl 1 rfl) ?_
  refine lv_iload_n hx hb d_U_costOf_20 rfl (lv_at hl 4 rfl) ?_
  refine lv_iadd hx hb d_U_costOf_21 ?_
  refine lv_topi (fun x7_22 e_x7_22 => ?_)
  have h := h x7_22 e_x7_22
  refine lv_istore (lv' := [(7, .int x7_22), (6, .int x6_16), (5, .int x5_6), (0, .ref a_this), (1, .int x1), (2, .int x2), (3, .int x3), (4, .int x4)]) hx hb d_U_costOf_22 hl (by decide) rfl (fun ls hl => ?_)
  refine lv_iload hx hb d_U_costOf_24 (lv_at hl 0 rfl) ?_
  refine lv_istore (lv' := [(8, .int x7_22), (7, .int x7_22), (6, .int x6_16), (5, .int x5_6), (0, .ref a_this), (1, .int x1), (2, .int x2), (3, .int x3), (4, .int x4)]) hx hb d_U_costOf_26 hl (by decide) rfl (fun ls hl => ?_)
  refine lv_iconst (v := 0) hx hb d_U_costOf_28 (by decide) ?_
  refine lv_istore (lv' := [(9, .int (0 : Int32)), (8, .int x7_22), (7, .int x7_22), (6, .int x6_16), (5, .int x5_6), (0, .ref a_this), (1, .int x1), (2, .int x2), (3, .int x3), (4, .int x4)]) hx hb d_U_costOf_29 hl (by decide) rfl (fun ls hl => ?_)
  refine lv_iconst (v := 0) hx hb d_U_costOf_31 (by decide) ?_
  refine lv_istore (lv' := [(10, .int (0 : Int32)), (9, .int (0 : Int32)), (8, .int x7_22), (7, .int x7_22), (6, .int x6_16), (5, .int x5_6), (0, .ref a_this), (1, .int x1), (2, .int x2), (3, .int x3), (4, .int x4)]) hx hb d_U_costOf_32 hl (by decide) rfl (fun ls hl => ?_)
  refine lpW_ind (Wp := fun z => ∀ (H : Heap) (locs : List Loc) (ls : Array Slot), va_P (dC, dI) vwCl (cw_U_costOf cB cI a_this a_begins a_xs a_ys a_picture a_layers a_areas a_walked n_begins n_xs n_ys c_count c_traced f_begins f_xs f_ys) H → va_D A (cw_U_costOf cB cI a_this a_begins a_xs a_ys a_picture a_layers a_areas a_walked n_begins n_xs n_ys c_count c_traced f_begins f_xs f_ys) → va_S A s.heap H locs → lv_has ls 17 [(0, .ref a_this), (3, .int x3), (4, .int x4), (5, .int x5_6), (6, .int x6_16), (7, .int x7_22), (8, .int z.1), (9, .int z.2.1), (10, .int z.2.2)] → W p l e (headSpec w_U_costOf ({ frames := 1, cells := 0, slots := 0, locals := 22 })).room s m ([.ref a_this, .int x1, .int x2, .int x3, .int x4] : List Value).toArray below meth c H locs 0 0 Qf (F0 m 34 ls [])) h ?_ _ _ _ hP hD hS (lv_sub hl [6, 9, 10, 5, 4, 3, 2, 1, 0] rfl)
  rintro ⟨x8_l34, x9_l34, x10_l34⟩ back34 h hb34 H locs ls hP hD hS hl
  have h : wp_U_costOf_L34 n_begins n_xs n_ys f_begins f_xs f_ys x3 x4 x5_6 x6_16 x7_22 post back34 x8_l34 x9_l34 x10_l34 := h
  have hP : va_P (dC, dI) vwCl (cw_U_costOf cB cI a_this a_begins a_xs a_ys a_picture a_layers a_areas a_walked n_begins n_xs n_ys c_count c_traced f_begins f_xs f_ys) H := hP
  have hD : va_D A (cw_U_costOf cB cI a_this a_begins a_xs a_ys a_picture a_layers a_areas a_walked n_begins n_xs n_ys c_count c_traced f_begins f_xs f_ys) := hD
  have hl : lv_has ls 17 [(0, .ref a_this), (3, .int x3), (4, .int x4), (5, .int x5_6), (6, .int x6_16), (7, .int x7_22), (8, .int x8_l34), (9, .int x9_l34), (10, .int x10_l34)] := hl
  unfold wp_U_costOf_L34 at h
  have J58 : ∀ (x8_j58 : Int32) (x9_j58 : Int32) (x10_j58 : Int32) (y0_j58 : Int32) (H : Heap) (locs : List Loc) (ls : Array Slot), wp_U_costOf_J58 n_begins n_xs n_ys f_begins f_xs f_ys x3 x4 x5_6 x6_16 x7_22 x8_j58 x9_j58 x10_j58 y0_j58 back34 post → va_P (dC, dI) vwCl (cw_U_costOf cB cI a_this a_begins a_xs a_ys a_picture a_layers a_areas a_walked n_begins n_xs n_ys c_count c_traced f_begins f_xs f_ys) H → va_D A (cw_U_costOf cB cI a_this a_begins a_xs a_ys a_picture a_layers a_areas a_walked n_begins n_xs n_ys c_count c_traced f_begins f_xs f_ys) → va_S A s.heap H locs → lv_has ls 17 [(0, .ref a_this), (3, .int x3), (4, .int x4), (5, .int x5_6), (6, .int x6_16), (7, .int x7_22), (8, .int x8_j58), (9, .int x9_j58), (10, .int x10_j58)] → W p l e (headSpec w_U_costOf ({ frames := 1, cells := 0, slots := 0, locals := 22 })).room s m ([.ref a_this, .int x1, .int x2, .int x3, .int x4] : List Value).toArray below meth c H locs 0 0 Qf (F0 m 58 ls [.int y0_j58]) := by
    intro x8_j58 x9_j58 x10_j58 y0_j58 H locs ls h hP hD hS hl
    unfold wp_U_costOf_J58 at h
    refine lv_istore (lv' := [(11, .int y0_j58), (0, .ref a_this), (3, .int x3), (4, .int x4), (5, .int x5_6), (6, .int x6_16), (7, .int x7_22), (8, .int x8_j58), (9, .int x9_j58), (10, .int x10_j58)]) hx hb d_U_costOf_58 hl (by decide) rfl (fun ls hl => ?_)
    refine lv_iload hx hb d_U_costOf_60 (lv_at hl 8 rfl) ?_
    refine lv_aload_n hx hb d_U_costOf_62 rfl (lv_at hl 1 rfl) ?_
    refine lv_iload hx hb d_U_costOf_63 (lv_at hl 7 rfl) ?_
    refine lv_iload hx hb d_U_costOf_65 (lv_at hl 0 rfl) ?_
    obtain ⟨Q67, hq67, h⟩ := h
    have hPc := hP.sub (ws' := (cw_U_directionBit cB a_this a_ys a_xs a_picture a_begins a_layers a_areas a_walked n_ys n_xs c_count c_traced f_ys f_xs)) [0, 3, 2] rfl
    have hDc := hD.sub (ws' := (cw_U_directionBit cB a_this a_ys a_xs a_picture a_begins a_layers a_areas a_walked n_ys n_xs c_count c_traced f_ys f_xs)) [0, 3, 2] (by decide) rfl
    have hFc := va_free (wc := (cw_U_directionBit cB a_this a_ys a_xs a_picture a_begins a_layers a_areas a_walked n_ys n_xs c_count c_traced f_ys f_xs)) hD hS hA [0, 3, 2] rfl
    refine va_calli (va_runV (As := [.int x8_j58, .int y0_j58]) (rest := [.int x9_j58]) ⟨hx, hb, hml, hown, hts⟩ (c_U_directionBit l dC dI cI cB cJ cZ a_this a_ys a_xs a_picture a_begins a_layers a_areas a_walked H.size n_ys n_xs c_count c_traced f_ys f_xs x8_j58 y0_j58 Q67 hq67) (cwV 2 hts (goodV q_481 q_483 q_p11 q_4 q_484) rfl rfl rfl (by decide +kernel) ⟨Nat.le_of_ble_eq_true rfl, Nat.le_of_ble_eq_true rfl⟩) ⟨fun a U g mk q => by obtain ⟨q0, q1, qP, qK, qD⟩ := q; exact ⟨q0, q1, qP, va_K.moved (u := U) (U := U.calling g mk a) (Vm.Alike.refl U.vm) qK, qD⟩, va_recv hK hPc (ci := 2) (q0 := 0) rfl rfl, fun U hU hW => ⟨rfl, by rw [hU], by rw [hU]; exact hPc, va_K.moved hW.alike hK, hDc.weaken (fun _ _ _ _ => trivial)⟩⟩ rfl rfl hl.1 rfl (lv_room (Nat.le_of_ble_eq_true rfl)) d_U_costOf_67 ⟨Nat.le_of_ble_eq_true rfl, Nat.le_of_ble_eq_true rfl⟩) hS (fun q _ h => hFc q h) hFc (fun r67 u67 t H1 locs ht hvm hw hB hz1 hk1 hS => ?_)
    cases u67
    obtain ⟨hP1, -, hD1⟩ := hB
    rw [ht] at hP1
    have h := h r67 hw
    obtain ⟨hP, hD⟩ := va_join (wr := [(a_begins, .inl (cI, n_begins, .inl f_begins))]) (w1 := (cw_U_directionBit cB a_this a_ys a_xs a_picture a_begins a_layers a_areas a_walked n_ys n_xs c_count c_traced f_ys f_xs)) hP hD [0, 3, 2] [1] rfl rfl (by decide) (by decide) hk1 hFc hP1 hD1
    clear hP1 hD1 hk1 hPc hDc hFc
    generalize H1 = H at hP hS ⊢
    have hP : va_P (dC, dI) vwCl (cw_U_costOf cB cI a_this a_begins a_xs a_ys a_picture a_layers a_areas a_walked n_begins n_xs n_ys c_count c_traced f_begins f_xs f_ys) H := hP.sub [1, 0, 3, 2] rfl
    have hD : va_D A (cw_U_costOf cB cI a_this a_begins a_xs a_ys a_picture a_layers a_areas a_walked n_begins n_xs n_ys c_count c_traced f_begins f_xs f_ys) := hD.sub [1, 0, 3, 2] (by decide) rfl
    refine lv_ior hx hb d_U_costOf_70 ?_
    refine lv_topi (fun x9_71 e_x9_71 => ?_)
    have h := h x9_71 e_x9_71
    refine lv_istore (lv' := [(9, .int x9_71), (11, .int y0_j58), (0, .ref a_this), (3, .int x3), (4, .int x4), (5, .int x5_6), (6, .int x6_16), (7, .int x7_22), (8, .int x8_j58), (10, .int x10_j58)]) hx hb d_U_costOf_71 hl (by decide) rfl (fun ls hl => ?_)
    refine lv_iload hx hb d_U_costOf_73 (lv_at hl 1 rfl) ?_
    refine lv_istore (lv' := [(8, .int y0_j58), (9, .int x9_71), (11, .int y0_j58), (0, .ref a_this), (3, .int x3), (4, .int x4), (5, .int x5_6), (6, .int x6_16), (7, .int x7_22), (10, .int x10_j58)]) hx hb d_U_costOf_75 hl (by decide) rfl (fun ls hl => ?_)
    obtain ⟨x10_77, e_x10_77⟩ : ∃ y : Int32, y = x10_j58 + (1 : Int32) := ⟨_, rfl⟩
    have h := h x10_77 e_x10_77
    refine lv_iinc (v := x10_77) (lv' := [(10, .int x10_77), (8, .int y0_j58), (9, .int x9_71), (11, .int y0_j58), (0, .ref a_this), (3, .int x3), (4, .int x4), (5, .int x5_6), (6, .int x6_16), (7, .int x7_22)]) hx hb d_U_costOf_77 hl (k := 9) rfl (by rw [e_x10_77]; rfl) (by decide) rfl (fun ls hl => ?_)
    refine lv_goto (tgt := 34) hx hb d_U_costOf_80 (by decide) ?_
    exact hb34 _ h _ _ _ hP hD hS (lv_sub hl [4, 5, 6, 7, 8, 9, 1, 2, 0] rfl)
  refine lv_iload hx hb d_U_costOf_34 (lv_at hl 8 rfl) ?_
  refine lv_iload_n hx hb d_U_costOf_36 rfl (lv_at hl 1 rfl) ?_
  refine lv_icmp_ge (tgt := 83) hx hb d_U_costOf_37 (by decide) (fun cc_ => ?_) (fun cc_ => ?_)
  · have h := h.1 cc_
    refine lv_iload hx hb d_U_costOf_83 (lv_at hl 7 rfl) ?_
    refine lv_bipush (v := 15) hx hb d_U_costOf_85 (by decide) ?_
    refine lv_icmp_ne (tgt := 92) hx hb d_U_costOf_87 (by decide) (fun cc_ => ?_) (fun cc_ => ?_)
    · have h := h.1 cc_
      refine lv_aload_n hx hb d_U_costOf_92 rfl (lv_at hl 0 rfl) ?_
      refine va_get (D := (dC, dI)) (ci := 2) (v := .ref a_xs) (C := R_U) (T := F_U) (N := 9) hx hb hts i_U_in hown hK hP 0 rfl rfl 1 (by decide) (hts _ q_62) (fun _ h9 => h9) rfl d_U_costOf_93 ?_
      refine lv_iload hx hb d_U_costOf_96 (lv_at hl 6 rfl) ?_
      obtain ⟨hin, h⟩ := h
      refine va_bald hx hb hK hP 2 1 rfl rfl hin d_U_costOf_98 ?_
      refine lv_aload_n hx hb d_U_costOf_99 rfl (lv_at hl 0 rfl) ?_
      refine va_get (D := (dC, dI)) (ci := 2) (v := .ref a_xs) (C := R_U) (T := F_U) (N := 9) hx hb hts i_U_in hown hK hP 0 rfl rfl 1 (by decide) (hts _ q_62) (fun _ h9 => h9) rfl d_U_costOf_100 ?_
      refine lv_iload hx hb d_U_costOf_103 (lv_at hl 5 rfl) ?_
      obtain ⟨hin, h⟩ := h
      refine va_bald hx hb hK hP 2 1 rfl rfl hin d_U_costOf_105 ?_
      refine lv_isub hx hb d_U_costOf_106 ?_
      refine lv_topi (fun x10_107 e_x10_107 => ?_)
      have h := h x10_107 e_x10_107
      refine lv_istore (lv' := [(10, .int x10_107), (0, .ref a_this), (3, .int x3), (4, .int x4), (5, .int x5_6), (6, .int x6_16), (7, .int x7_22), (8, .int x8_l34), (9, .int x9_l34)]) hx hb d_U_costOf_107 hl (by decide) rfl (fun ls hl => ?_)
      refine lv_aload_n hx hb d_U_costOf_109 rfl (lv_at hl 1 rfl) ?_
      refine va_get (D := (dC, dI)) (ci := 2) (v := .ref a_ys) (C := R_U) (T := F_U) (N := 9) hx hb hts i_U_in hown hK hP 0 rfl rfl 2 (by decide) (hts _ q_65) (fun _ h9 => h9) rfl d_U_costOf_110 ?_
      refine lv_iload hx hb d_U_costOf_113 (lv_at hl 7 rfl) ?_
      obtain ⟨hin, h⟩ := h
      refine va_bald hx hb hK hP 3 1 rfl rfl hin d_U_costOf_115 ?_
      refine lv_aload_n hx hb d_U_costOf_116 rfl (lv_at hl 1 rfl) ?_
      refine va_get (D := (dC, dI)) (ci := 2) (v := .ref a_ys) (C := R_U) (T := F_U) (N := 9) hx hb hts i_U_in hown hK hP 0 rfl rfl 2 (by decide) (hts _ q_65) (fun _ h9 => h9) rfl d_U_costOf_117 ?_
      refine lv_iload hx hb d_U_costOf_120 (lv_at hl 6 rfl) ?_
      obtain ⟨hin, h⟩ := h
      refine va_bald hx hb hK hP 3 1 rfl rfl hin d_U_costOf_122 ?_
      refine lv_isub hx hb d_U_costOf_123 ?_
      refine lv_topi (fun x11_124 e_x11_124 => ?_)
      have h := h x11_124 e_x11_124
      refine lv_istore (lv' := [(11, .int x11_124), (10, .int x10_107), (0, .ref a_this), (3, .int x3), (4, .int x4), (5, .int x5_6), (6, .int x6_16), (7, .int x7_22), (8, .int x8_l34), (9, .int x9_l34)]) hx hb d_U_costOf_124 hl (by decide) rfl (fun ls hl => ?_)
      refine lv_iload hx hb d_U_costOf_126 (lv_at hl 4 rfl) ?_
      refine lv_iload hx hb d_U_costOf_128 (lv_at hl 1 rfl) ?_
      refine va_mabs hx hb (hml.trans hl.1.symm) hown (hts _ q_399) (hts _ q_400) (hts _ q_3) (hts _ q_401) (Nat.le_of_ble_eq_true rfl) (Nat.le_of_ble_eq_true rfl) (Nat.zero_le _) (Nat.zero_le _) d_U_costOf_130 ?_
      refine W.eq (g2 := F0 m 133 ls [.int (jabs x10_107), .int x4]) rfl ?_
      refine lv_iload hx hb d_U_costOf_133 (lv_at hl 0 rfl) ?_
      refine va_mabs hx hb (hml.trans hl.1.symm) hown (hts _ q_399) (hts _ q_400) (hts _ q_3) (hts _ q_401) (Nat.le_of_ble_eq_true rfl) (Nat.le_of_ble_eq_true rfl) (Nat.zero_le _) (Nat.zero_le _) d_U_costOf_135 ?_
      refine W.eq (g2 := F0 m 138 ls [.int (jabs x11_124), .int (jabs x10_107), .int x4]) rfl ?_
      refine va_mmax hx hb (hml.trans hl.1.symm) hown (hts _ q_485) (hts _ q_34) (hts _ q_3) (hts _ q_35) (Nat.le_of_ble_eq_true rfl) (Nat.le_of_ble_eq_true rfl) (Nat.zero_le _) (Nat.zero_le _) d_U_costOf_138 ?_
      refine W.eq (g2 := F0 m 141 ls [.int (jmax (jabs x10_107) (jabs x11_124)), .int x4]) rfl ?_
      refine lv_imul hx hb d_U_costOf_141 ?_
      refine lv_topi (fun x12_142 e_x12_142 => ?_)
      have h := h x12_142 e_x12_142
      refine lv_istore (lv' := [(12, .int x12_142), (11, .int x11_124), (10, .int x10_107), (0, .ref a_this), (3, .int x3), (4, .int x4), (5, .int x5_6), (6, .int x6_16), (7, .int x7_22), (8, .int x8_l34), (9, .int x9_l34)]) hx hb d_U_costOf_142 hl (by decide) rfl (fun ls hl => ?_)
      refine lv_iconst (v := 0) hx hb d_U_costOf_144 (by decide) ?_
      refine lv_istore (lv' := [(13, .int (0 : Int32)), (12, .int x12_142), (11, .int x11_124), (10, .int x10_107), (0, .ref a_this), (3, .int x3), (4, .int x4), (5, .int x5_6), (6, .int x6_16), (7, .int x7_22), (8, .int x8_l34), (9, .int x9_l34)]) hx hb d_U_costOf_145 hl (by decide) rfl (fun ls hl => ?_)
      refine lv_iload hx hb d_U_costOf_147 (lv_at hl 9 rfl) ?_
      refine lv_istore (lv' := [(14, .int x7_22), (13, .int (0 : Int32)), (12, .int x12_142), (11, .int x11_124), (10, .int x10_107), (0, .ref a_this), (3, .int x3), (4, .int x4), (5, .int x5_6), (6, .int x6_16), (7, .int x7_22), (8, .int x8_l34), (9, .int x9_l34)]) hx hb d_U_costOf_149 hl (by decide) rfl (fun ls hl => ?_)
      refine lv_iconst (v := 1) hx hb d_U_costOf_151 (by decide) ?_
      refine lv_istore (lv' := [(15, .int (1 : Int32)), (14, .int x7_22), (13, .int (0 : Int32)), (12, .int x12_142), (11, .int x11_124), (10, .int x10_107), (0, .ref a_this), (3, .int x3), (4, .int x4), (5, .int x5_6), (6, .int x6_16), (7, .int x7_22), (8, .int x8_l34), (9, .int x9_l34)]) hx hb d_U_costOf_152 hl (by decide) rfl (fun ls hl => ?_)
      refine lpW_ind (Wp := fun z => ∀ (H : Heap) (locs : List Loc) (ls : Array Slot), va_P (dC, dI) vwCl (cw_U_costOf cB cI a_this a_begins a_xs a_ys a_picture a_layers a_areas a_walked n_begins n_xs n_ys c_count c_traced f_begins f_xs f_ys) H → va_D A (cw_U_costOf cB cI a_this a_begins a_xs a_ys a_picture a_layers a_areas a_walked n_begins n_xs n_ys c_count c_traced f_begins f_xs f_ys) → va_S A s.heap H locs → lv_has ls 17 [(0, .ref a_this), (3, .int x3), (5, .int x5_6), (6, .int x6_16), (7, .int x7_22), (10, .int x10_107), (11, .int x11_124), (12, .int x12_142), (13, .int z.1), (14, .int z.2.1), (15, .int z.2.2)] → W p l e (headSpec w_U_costOf ({ frames := 1, cells := 0, slots := 0, locals := 22 })).room s m ([.ref a_this, .int x1, .int x2, .int x3, .int x4] : List Value).toArray below meth c H locs 0 0 Qf (F0 m 154 ls [])) h ?_ _ _ _ hP hD hS (lv_sub hl [6, 7, 9, 10, 11, 5, 4, 3, 2, 1, 0] rfl)
      rintro ⟨x13_l154, x14_l154, x15_l154⟩ back154 h hb154 H locs ls hP hD hS hl
      have h : wp_U_costOf_L154 n_begins n_xs n_ys f_begins f_xs f_ys x3 x5_6 x6_16 x7_22 x10_107 x11_124 x12_142 post back154 x13_l154 x14_l154 x15_l154 := h
      have hP : va_P (dC, dI) vwCl (cw_U_costOf cB cI a_this a_begins a_xs a_ys a_picture a_layers a_areas a_walked n_begins n_xs n_ys c_count c_traced f_begins f_xs f_ys) H := hP
      have hD : va_D A (cw_U_costOf cB cI a_this a_begins a_xs a_ys a_picture a_layers a_areas a_walked n_begins n_xs n_ys c_count c_traced f_begins f_xs f_ys) := hD
      have hl : lv_has ls 17 [(0, .ref a_this), (3, .int x3), (5, .int x5_6), (6, .int x6_16), (7, .int x7_22), (10, .int x10_107), (11, .int x11_124), (12, .int x12_142), (13, .int x13_l154), (14, .int x14_l154), (15, .int x15_l154)] := hl
      unfold wp_U_costOf_L154 at h
      have J178 : ∀ (x13_j178 : Int32) (x15_j178 : Int32) (y0_j178 : Int32) (H : Heap) (locs : List Loc) (ls : Array Slot), wp_U_costOf_J178 n_begins n_xs n_ys f_begins f_xs f_ys x3 x5_6 x6_16 x7_22 x10_107 x11_124 x12_142 x13_j178 x15_j178 y0_j178 back154 post → va_P (dC, dI) vwCl (cw_U_costOf cB cI a_this a_begins a_xs a_ys a_picture a_layers a_areas a_walked n_begins n_xs n_ys c_count c_traced f_begins f_xs f_ys) H → va_D A (cw_U_costOf cB cI a_this a_begins a_xs a_ys a_picture a_layers a_areas a_walked n_begins n_xs n_ys c_count c_traced f_begins f_xs f_ys) → va_S A s.heap H locs → lv_has ls 17 [(0, .ref a_this), (3, .int x3), (5, .int x5_6), (6, .int x6_16), (7, .int x7_22), (10, .int x10_107), (11, .int x11_124), (12, .int x12_142), (13, .int x13_j178), (15, .int x15_j178)] → W p l e (headSpec w_U_costOf ({ frames := 1, cells := 0, slots := 0, locals := 22 })).room s m ([.ref a_this, .int x1, .int x2, .int x3, .int x4] : List Value).toArray below meth c H locs 0 0 Qf (F0 m 178 ls [.int y0_j178]) := by
        intro x13_j178 x15_j178 y0_j178 H locs ls h hP hD hS hl
        unfold wp_U_costOf_J178 at h
        refine lv_istore (lv' := [(14, .int y0_j178), (0, .ref a_this), (3, .int x3), (5, .int x5_6), (6, .int x6_16), (7, .int x7_22), (10, .int x10_107), (11, .int x11_124), (12, .int x12_142), (13, .int x13_j178), (15, .int x15_j178)]) hx hb d_U_costOf_178 hl (by decide) rfl (fun ls hl => ?_)
        refine lv_iload hx hb d_U_costOf_180 (lv_at hl 6 rfl) ?_
        refine lv_aload_n hx hb d_U_costOf_182 rfl (lv_at hl 1 rfl) ?_
        refine va_get (D := (dC, dI)) (ci := 2) (v := .ref a_ys) (C := R_U) (T := F_U) (N := 9) hx hb hts i_U_in hown hK hP 0 rfl rfl 2 (by decide) (hts _ q_65) (fun _ h9 => h9) rfl d_U_costOf_183 ?_
        refine lv_iload hx hb d_U_costOf_186 (lv_at hl 0 rfl) ?_
        obtain ⟨hin, h⟩ := h
        refine va_bald hx hb hK hP 3 1 rfl rfl hin d_U_costOf_188 ?_
        refine lv_aload_n hx hb d_U_costOf_189 rfl (lv_at hl 1 rfl) ?_
        refine va_get (D := (dC, dI)) (ci := 2) (v := .ref a_ys) (C := R_U) (T := F_U) (N := 9) hx hb hts i_U_in hown hK hP 0 rfl rfl 2 (by decide) (hts _ q_65) (fun _ h9 => h9) rfl d_U_costOf_190 ?_
        refine lv_iload hx hb d_U_costOf_193 (lv_at hl 5 rfl) ?_
        obtain ⟨hin, h⟩ := h
        refine va_bald hx hb hK hP 3 1 rfl rfl hin d_U_costOf_195 ?_
        refine lv_isub hx hb d_U_costOf_196 ?_
        refine lv_imul hx hb d_U_costOf_197 ?_
        refine lv_iload hx hb d_U_costOf_198 (lv_at hl 7 rfl) ?_
        refine lv_aload_n hx hb d_U_costOf_200 rfl (lv_at hl 1 rfl) ?_
        refine va_get (D := (dC, dI)) (ci := 2) (v := .ref a_xs) (C := R_U) (T := F_U) (N := 9) hx hb hts i_U_in hown hK hP 0 rfl rfl 1 (by decide) (hts _ q_62) (fun _ h9 => h9) rfl d_U_costOf_201 ?_
        refine lv_iload hx hb d_U_costOf_204 (lv_at hl 0 rfl) ?_
        obtain ⟨hin, h⟩ := h
        refine va_bald hx hb hK hP 2 1 rfl rfl hin d_U_costOf_206 ?_
        refine lv_aload_n hx hb d_U_costOf_207 rfl (lv_at hl 1 rfl) ?_
        refine va_get (D := (dC, dI)) (ci := 2) (v := .ref a_xs) (C := R_U) (T := F_U) (N := 9) hx hb hts i_U_in hown hK hP 0 rfl rfl 1 (by decide) (hts _ q_62) (fun _ h9 => h9) rfl d_U_costOf_208 ?_
        refine lv_iload hx hb d_U_costOf_211 (lv_at hl 5 rfl) ?_
        obtain ⟨hin, h⟩ := h
        refine va_bald hx hb hK hP 2 1 rfl rfl hin d_U_costOf_213 ?_
        refine lv_isub hx hb d_U_costOf_214 ?_
        refine lv_imul hx hb d_U_costOf_215 ?_
        refine lv_isub hx hb d_U_costOf_216 ?_
        refine va_mabs hx hb (hml.trans hl.1.symm) hown (hts _ q_399) (hts _ q_400) (hts _ q_3) (hts _ q_401) (Nat.le_of_ble_eq_true rfl) (Nat.le_of_ble_eq_true rfl) (Nat.zero_le _) (Nat.zero_le _) d_U_costOf_217 ?_
        refine W.eq (g2 := F0 m 220 ls [.int (jabs ((x10_107 * ((f_ys y0_j178.toNatClampNeg) - (f_ys x7_22.toNatClampNeg))) - (x11_124 * ((f_xs y0_j178.toNatClampNeg) - (f_xs x7_22.toNatClampNeg)))))]) rfl ?_
        refine lv_topi (fun x16_220 e_x16_220 => ?_)
        have h := h x16_220 e_x16_220
        refine lv_istore (lv' := [(16, .int x16_220), (14, .int y0_j178), (0, .ref a_this), (3, .int x3), (5, .int x5_6), (6, .int x6_16), (7, .int x7_22), (10, .int x10_107), (11, .int x11_124), (12, .int x12_142), (13, .int x13_j178), (15, .int x15_j178)]) hx hb d_U_costOf_220 hl (by decide) rfl (fun ls hl => ?_)
        refine lv_iconst (v := 2) hx hb d_U_costOf_222 (by decide) ?_
        refine lv_iload hx hb d_U_costOf_223 (lv_at hl 0 rfl) ?_
        refine lv_imul hx hb d_U_costOf_225 ?_
        refine lv_iload hx hb d_U_costOf_226 (lv_at hl 9 rfl) ?_
        refine lv_icmp_le (tgt := 233) hx hb d_U_costOf_228 (by decide) (fun cc_ => ?_) (fun cc_ => ?_)
        · have h := h.1 cc_
          refine lv_iload hx hb d_U_costOf_233 (lv_at hl 10 rfl) ?_
          refine lv_iload hx hb d_U_costOf_235 (lv_at hl 0 rfl) ?_
          refine lv_iadd hx hb d_U_costOf_237 ?_
          refine lv_topi (fun x13_238 e_x13_238 => ?_)
          have h := h x13_238 e_x13_238
          refine lv_istore (lv' := [(13, .int x13_238), (16, .int x16_220), (14, .int y0_j178), (0, .ref a_this), (3, .int x3), (5, .int x5_6), (6, .int x6_16), (7, .int x7_22), (10, .int x10_107), (11, .int x11_124), (12, .int x12_142), (15, .int x15_j178)]) hx hb d_U_costOf_238 hl (by decide) rfl (fun ls hl => ?_)
          obtain ⟨x15_240, e_x15_240⟩ : ∃ y : Int32, y = x15_j178 + (1 : Int32) := ⟨_, rfl⟩
          have h := h x15_240 e_x15_240
          refine lv_iinc (v := x15_240) (lv' := [(15, .int x15_240), (13, .int x13_238), (16, .int x16_220), (14, .int y0_j178), (0, .ref a_this), (3, .int x3), (5, .int x5_6), (6, .int x6_16), (7, .int x7_22), (10, .int x10_107), (11, .int x11_124), (12, .int x12_142)]) hx hb d_U_costOf_240 hl (k := 11) rfl (by rw [e_x15_240]; rfl) (by decide) rfl (fun ls hl => ?_)
          refine lv_goto (tgt := 154) hx hb d_U_costOf_243 (by decide) ?_
          exact hb154 _ h _ _ _ hP hD hS (lv_sub hl [4, 5, 6, 7, 8, 9, 10, 11, 1, 3, 0] rfl)
        · have h := h.2 cc_
          refine lv_iconst (v := -1) hx hb d_U_costOf_231 (by decide) ?_
          subst hQf
          exact W.iret (v := (-1 : Int32)) hx hb hr (fun t ht hW => ⟨⟨(-1 : Int32), (), rfl, h, by rw [ht]; exact hP, va_K.moved hW.alike hK, hD⟩, hS.F ht⟩) hS.2.2 d_U_costOf_232
      refine lv_iload hx hb d_U_costOf_154 (lv_at hl 10 rfl) ?_
      refine lv_iload_n hx hb d_U_costOf_156 rfl (lv_at hl 1 rfl) ?_
      refine lv_icmp_ge (tgt := 246) hx hb d_U_costOf_157 (by decide) (fun cc_ => ?_) (fun cc_ => ?_)
      · have h := h.1 cc_
        refine lv_iload hx hb d_U_costOf_246 (lv_at hl 8 rfl) ?_
        subst hQf
        exact W.iret (v := x13_l154) hx hb hr (fun t ht hW => ⟨⟨x13_l154, (), rfl, h, by rw [ht]; exact hP, va_K.moved hW.alike hK, hD⟩, hS.F ht⟩) hS.2.2 d_U_costOf_248
      · have h := h.2 cc_
        refine lv_iload hx hb d_U_costOf_160 (lv_at hl 9 rfl) ?_
        refine lv_iconst (v := 1) hx hb d_U_costOf_162 (by decide) ?_
        refine lv_iadd hx hb d_U_costOf_163 ?_
        refine lv_iload hx hb d_U_costOf_164 (lv_at hl 3 rfl) ?_
        refine lv_icmp_ge (tgt := 176) hx hb d_U_costOf_166 (by decide) (fun cc_ => ?_) (fun cc_ => ?_)
        · have h := h.1 cc_
          refine lv_iload hx hb d_U_costOf_176 (lv_at hl 2 rfl) ?_
          exact J178 x13_l154 x15_l154 x5_6 _ _ _ h hP hD hS (lv_sub hl [0, 1, 2, 3, 4, 5, 6, 7, 8, 10] rfl)
        · have h := h.2 cc_
          refine lv_iload hx hb d_U_costOf_169 (lv_at hl 9 rfl) ?_
          refine lv_iconst (v := 1) hx hb d_U_costOf_171 (by decide) ?_
          refine lv_iadd hx hb d_U_costOf_172 ?_
          refine lv_goto (tgt := 178) hx hb d_U_costOf_173 (by decide) ?_
          exact J178 x13_l154 x15_l154 (x14_l154 + (1 : Int32)) _ _ _ h hP hD hS (lv_sub hl [0, 1, 2, 3, 4, 5, 6, 7, 8, 10] rfl)
    · have h := h.2 cc_
      refine lv_iconst (v := -1) hx hb d_U_costOf_90 (by decide) ?_
      subst hQf
      exact W.iret (v := (-1 : Int32)) hx hb hr (fun t ht hW => ⟨⟨(-1 : Int32), (), rfl, h, by rw [ht]; exact hP, va_K.moved hW.alike hK, hD⟩, hS.F ht⟩) hS.2.2 d_U_costOf_91
  · have h := h.2 cc_
    refine lv_iload hx hb d_U_costOf_40 (lv_at hl 6 rfl) ?_
    refine lv_iconst (v := 1) hx hb d_U_costOf_42 (by decide) ?_
    refine lv_iadd hx hb d_U_costOf_43 ?_
    refine lv_iload hx hb d_U_costOf_44 (lv_at hl 4 rfl) ?_
    refine lv_icmp_ge (tgt := 56) hx hb d_U_costOf_46 (by decide) (fun cc_ => ?_) (fun cc_ => ?_)
    · have h := h.1 cc_
      refine lv_iload hx hb d_U_costOf_56 (lv_at hl 3 rfl) ?_
      exact J58 x8_l34 x9_l34 x10_l34 x5_6 _ _ _ h hP hD hS (lv_sub hl [0, 1, 2, 3, 4, 5, 6, 7, 8] rfl)
    · have h := h.2 cc_
      refine lv_iload hx hb d_U_costOf_49 (lv_at hl 6 rfl) ?_
      refine lv_iconst (v := 1) hx hb d_U_costOf_51 (by decide) ?_
      refine lv_iadd hx hb d_U_costOf_52 ?_
      refine lv_goto (tgt := 58) hx hb d_U_costOf_53 (by decide) ?_
      exact J58 x8_l34 x9_l34 x10_l34 (x8_l34 + (1 : Int32)) _ _ _ h hP hD hS (lv_sub hl [0, 1, 2, 3, 4, 5, 6, 7, 8] rfl)
