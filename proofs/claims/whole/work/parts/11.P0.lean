def wp_P_has_J28 (c_width : Int32) (c_height : Int32) (post : Int32 → Unit → Prop) : Prop :=
  post (0 : Int32) ()
def wp_P_has (c_width : Int32) (c_height : Int32) (x1 : Int32) (x2 : Int32) (post : Int32 → Unit → Prop) : Prop :=
  (x1 < 0 → wp_P_has_J28 c_width c_height post) ∧ (¬ x1 < 0 → (c_width ≤ x1 → wp_P_has_J28 c_width c_height post) ∧ (¬ c_width ≤ x1 → (x2 < 0 → wp_P_has_J28 c_width c_height post) ∧ (¬ x2 < 0 → (c_height ≤ x2 → wp_P_has_J28 c_width c_height post) ∧ (¬ c_height ≤ x2 → post (1 : Int32) ()))))
abbrev cw_P_has (a_this a_colours : Nat) (c_width : Int32) (c_height : Int32) : va_W := [(a_this, .inr (1, [.int c_width, .int c_height, .ref a_colours]))]
abbrev qq_P_has (dC : Nat → ClassId) (dI : Nat → Nat → Nat) (cI cB cJ cZ : ClassId) (a_this a_colours : Nat) (c_width : Int32) (c_height : Int32) (A : Nat → Prop) (post : Int32 → Unit → Prop) : Array Value → State → Outcome → State → Prop := va_Qi post (fun _ t => va_P (dC, dI) vwCl (cw_P_has a_this a_colours c_width c_height) t.heap ∧ va_K (dC, dI) vwCl [(cI, .int), (cB, .byte), (cJ, .long), (cZ, .boolean)] t ∧ va_D A (cw_P_has a_this a_colours c_width c_height)) A
set_option maxHeartbeats 4000000 in
set_option maxRecDepth 100000 in
theorem c_P_has (l : Launch) (dC : Nat → ClassId) (dI : Nat → Nat → Nat) (cI cB cJ cZ : ClassId) (a_this a_colours : Nat) (sz : Nat) (c_width : Int32) (c_height : Int32) (x1 : Int32) (x2 : Int32) (post : Int32 → Unit → Prop) (h : wp_P_has c_width c_height x1 x2 post) : Met l y_P_has w_P_has ({ frames := 0, cells := 0, slots := 0, locals := 0 }) (va_Pc [.ref a_this, .int x1, .int x2] (fun U => U.heap.size = sz ∧ va_P (dC, dI) vwCl (cw_P_has a_this a_colours c_width c_height) U.heap ∧ va_K (dC, dI) vwCl [(cI, .int), (cB, .byte), (cJ, .long), (cZ, .boolean)] U ∧ va_D (fun _ => True) (cw_P_has a_this a_colours c_width c_height))) (qq_P_has dC dI cI cB cJ cZ a_this a_colours c_width c_height (va_A (cw_P_has a_this a_colours c_width c_height) sz) post) 0 0 (va_A (cw_P_has a_this a_colours c_width c_height) sz) := by
  refine Met.ofW (cc := b_P_has) (maxL := 3) (ret := (some .boolean)) (by decide +kernel) rfl ?_
  intro p e s m args below meth c s₁ B hml hv
  obtain ⟨rfl, hsz, hP, hK, hD0⟩ := hv
  have hx := B.exec
  have hb := B.bytes
  have hr := B.returns
  have hts : ∀ w ∈ allW, w.before _ s = true := fun w hw => atoms_spec (ws := w_P_has) B.pre w (List.mem_cons_of_mem _ hw)
  have hown : s.vm.findClass R_P = some m.cls := findClass_of_methodNamed B.named
  have hlocks := B.notSynchronized
  subst hsz
  have hD := hD0.self (sz := s.heap.size)
  generalize hAe : va_A (cw_P_has a_this a_colours c_width c_height) s.heap.size = A at hD ⊢
  have hA : ∀ q : Nat, s.heap.size ≤ q → A q := fun q h => by rw [← hAe]; exact Or.inr h
  have hS : va_S A s.heap s.heap [] := va_S.rf
  clear hD0
  generalize hQf : MQ below (qq_P_has dC dI cI cB cJ cZ a_this a_colours c_width c_height A post) ([.ref a_this, .int x1, .int x2] : List Value).toArray s 0 0 A = Qf
  have hl := lv_entry ([.ref a_this, .int x1, .int x2]) (n := 3) (Nat.le_of_ble_eq_true rfl)
  rw [lg_entry_eq]
  generalize (lg_sl ([.ref a_this, .int x1, .int x2]) ++ List.replicate (3 - (lg_sl ([.ref a_this, .int x1, .int x2])).length) Slot.unset).toArray = ls at hl ⊢
  have hl : lv_has ls 3 [(0, .ref a_this), (1, .int x1), (2, .int x2)] := hl
  unfold wp_P_has at h
  have J28 : ∀ (H : Heap) (locs : List Loc) (ls : Array Slot), wp_P_has_J28 c_width c_height post → va_P (dC, dI) vwCl (cw_P_has a_this a_colours c_width c_height) H → va_D A (cw_P_has a_this a_colours c_width c_height) → va_S A s.heap H locs → lv_has ls 3 [] → W p l e (headSpec w_P_has ({ frames := 0, cells := 0, slots := 0, locals := 0 })).room s m ([.ref a_this, .int x1, .int x2] : List Value).toArray below meth c H locs 0 0 Qf (F0 m 28 ls []) := by
    intro H locs ls h hP hD hS hl
    unfold wp_P_has_J28 at h
    refine lv_iconst (v := 0) hx hb d_P_has_28 (by decide) ?_
    subst hQf
    exact W.zret (v := (0 : Int32)) hx hb hr (by rfl) (fun t ht hW => ⟨⟨(0 : Int32), (), rfl, h, by rw [ht]; exact hP, va_K.moved hW.alike hK, hD⟩, hS.F ht⟩) hS.2.2 d_P_has_29
  refine lv_iload_n hx hb d_P_has_0 rfl (lv_at hl 1 rfl) ?_
  refine lv_if_lt (tgt := 28) hx hb d_P_has_1 (by decide) (fun cc_ => ?_) (fun cc_ => ?_)
  · have h := h.1 cc_
    exact J28 _ _ _ h hP hD hS (lv_sub hl [] rfl)
  · have h := h.2 cc_
    refine lv_iload_n hx hb d_P_has_4 rfl (lv_at hl 1 rfl) ?_
    refine lv_aload_n hx hb d_P_has_5 rfl (lv_at hl 0 rfl) ?_
    refine va_get (D := (dC, dI)) (ci := 1) (v := .int c_width) (C := R_P) (T := F_P) (N := 3) hx hb hts i_P_in hown hK hP 0 rfl rfl 0 (by decide) (hts _ q_36) (fun _ h9 => h9) rfl d_P_has_6 ?_
    refine lv_icmp_ge (tgt := 28) hx hb d_P_has_9 (by decide) (fun cc_ => ?_) (fun cc_ => ?_)
    · have h := h.1 cc_
      exact J28 _ _ _ h hP hD hS (lv_sub hl [] rfl)
    · have h := h.2 cc_
      refine lv_iload_n hx hb d_P_has_12 rfl (lv_at hl 2 rfl) ?_
      refine lv_if_lt (tgt := 28) hx hb d_P_has_13 (by decide) (fun cc_ => ?_) (fun cc_ => ?_)
      · have h := h.1 cc_
        exact J28 _ _ _ h hP hD hS (lv_sub hl [] rfl)
      · have h := h.2 cc_
        refine lv_iload_n hx hb d_P_has_16 rfl (lv_at hl 2 rfl) ?_
        refine lv_aload_n hx hb d_P_has_17 rfl (lv_at hl 0 rfl) ?_
        refine va_get (D := (dC, dI)) (ci := 1) (v := .int c_height) (C := R_P) (T := F_P) (N := 3) hx hb hts i_P_in hown hK hP 0 rfl rfl 1 (by decide) (hts _ q_39) (fun _ h9 => h9) rfl d_P_has_18 ?_
        refine lv_icmp_ge (tgt := 28) hx hb d_P_has_21 (by decide) (fun cc_ => ?_) (fun cc_ => ?_)
        · have h := h.1 cc_
          exact J28 _ _ _ h hP hD hS (lv_sub hl [] rfl)
        · have h := h.2 cc_
          refine lv_iconst (v := 1) hx hb d_P_has_24 (by decide) ?_
          refine lv_goto (tgt := 29) hx hb d_P_has_25 (by decide) ?_
          subst hQf
          exact W.zret (v := (1 : Int32)) hx hb hr (by rfl) (fun t ht hW => ⟨⟨(1 : Int32), (), rfl, h, by rw [ht]; exact hP, va_K.moved hW.alike hK, hD⟩, hS.F ht⟩) hS.2.2 d_P_has_29
def wp_P_paint_J64 (n_colours : Nat) (c_width : Int32) (f_colours : Nat → Int32) (x4 : Int32) (x6 : Int32) (x7 : Int32) (x8 : Int32) (back32 : (Int32 × Int32 × (Nat → Int32)) → Prop) (post : Int32 → (Nat → Int32) → Prop) : Prop :=
  ∀ x8_64 : Int32, x8_64 = x8 + (1 : Int32) → back32 (x7, x8_64, f_colours)
def wp_P_paint_L32 (n_colours : Nat) (c_width : Int32) (x4 : Int32) (x6 : Int32) (post : Int32 → (Nat → Int32) → Prop) (back32 : (Int32 × Int32 × (Nat → Int32)) → Prop) (x7 : Int32) (x8 : Int32) (f_colours : Nat → Int32) : Prop :=
  (x6 ≤ x8 → post x7 f_colours) ∧ (¬ x6 ≤ x8 → vp_in x8 n_colours ∧ ((f_colours x8.toNatClampNeg) = x4 → wp_P_paint_J64 n_colours c_width f_colours x4 x6 x7 x8 back32 post) ∧ (¬ (f_colours x8.toNatClampNeg) = x4 → vp_in x8 n_colours ∧ ∀ f60 : Nat → Int32, f60 = upd f_colours x8.toNatClampNeg (vp_nar .byte (x4.toInt8.toInt32)) → ∀ x7_61 : Int32, x7_61 = x7 + (1 : Int32) → wp_P_paint_J64 n_colours c_width f60 x4 x6 x7_61 x8 back32 post))
def wp_P_paint (n_colours : Nat) (c_width : Int32) (f_colours : Nat → Int32) (x1 : Int32) (x2 : Int32) (x3 : Int32) (x4 : Int32) (post : Int32 → (Nat → Int32) → Prop) : Prop :=
  ∀ x5_8 : Int32, x5_8 = ((x2 * c_width) + x1) → ∀ x6_23 : Int32, x6_23 = (x5_8 + (jmin x3 (c_width - x1))) → lpW (fun b z => wp_P_paint_L32 n_colours c_width x4 x6_23 post b z.1 z.2.1 z.2.2) ((0 : Int32), x5_8, f_colours)
abbrev cw_P_paint (cB : ClassId) (a_this a_colours : Nat) (n_colours : Nat) (c_width : Int32) (c_height : Int32) (f_colours : Nat → Int32) : va_W := [(a_this, .inr (1, [.int c_width, .int c_height, .ref a_colours])), (a_colours, .inl (cB, n_colours, .inl f_colours))]
abbrev qq_P_paint (dC : Nat → ClassId) (dI : Nat → Nat → Nat) (cI cB cJ cZ : ClassId) (a_this a_colours : Nat) (n_colours : Nat) (c_width : Int32) (c_height : Int32) (A : Nat → Prop) (post : Int32 → (Nat → Int32) → Prop) : Array Value → State → Outcome → State → Prop := va_Qi post (fun u t => va_P (dC, dI) vwCl (cw_P_paint cB a_this a_colours n_colours c_width c_height u) t.heap ∧ va_K (dC, dI) vwCl [(cI, .int), (cB, .byte), (cJ, .long), (cZ, .boolean)] t ∧ va_D A (cw_P_paint cB a_this a_colours n_colours c_width c_height u)) A
set_option maxHeartbeats 4000000 in
set_option maxRecDepth 100000 in
theorem c_P_paint (l : Launch) (dC : Nat → ClassId) (dI : Nat → Nat → Nat) (cI cB cJ cZ : ClassId) (a_this a_colours : Nat) (sz : Nat) (n_colours : Nat) (c_width : Int32) (c_height : Int32) (f_colours : Nat → Int32) (x1 : Int32) (x2 : Int32) (x3 : Int32) (x4 : Int32) (post : Int32 → (Nat → Int32) → Prop) (h : wp_P_paint n_colours c_width f_colours x1 x2 x3 x4 post) : Met l y_P_paint w_P_paint ({ frames := 1, cells := 0, slots := 0, locals := 21 }) (va_Pc [.ref a_this, .int x1, .int x2, .int x3, .int x4] (fun U => U.heap.size = sz ∧ va_P (dC, dI) vwCl (cw_P_paint cB a_this a_colours n_colours c_width c_height f_colours) U.heap ∧ va_K (dC, dI) vwCl [(cI, .int), (cB, .byte), (cJ, .long), (cZ, .boolean)] U ∧ va_D (fun _ => True) (cw_P_paint cB a_this a_colours n_colours c_width c_height f_colours))) (qq_P_paint dC dI cI cB cJ cZ a_this a_colours n_colours c_width c_height (va_A (cw_P_paint cB a_this a_colours n_colours c_width c_height f_colours) sz) post) 0 0 (va_A (cw_P_paint cB a_this a_colours n_colours c_width c_height f_colours) sz) := by
  refine Met.ofW (cc := b_P_paint) (maxL := 9) (ret := (some .int)) (by decide +kernel) rfl ?_
  intro p e s m args below meth c s₁ B hml hv
  obtain ⟨rfl, hsz, hP, hK, hD0⟩ := hv
  have hx := B.exec
  have hb := B.bytes
  have hr := B.returns
  have hts : ∀ w ∈ allW, w.before _ s = true := fun w hw => atoms_spec (ws := w_P_paint) B.pre w (List.mem_cons_of_mem _ hw)
  have hown : s.vm.findClass R_P = some m.cls := findClass_of_methodNamed B.named
  have hlocks := B.notSynchronized
  subst hsz
  have hD := hD0.self (sz := s.heap.size)
  generalize hAe : va_A (cw_P_paint cB a_this a_colours n_colours c_width c_height f_colours) s.heap.size = A at hD ⊢
  have hA : ∀ q : Nat, s.heap.size ≤ q → A q := fun q h => by rw [← hAe]; exact Or.inr h
  have hS : va_S A s.heap s.heap [] := va_S.rf
  clear hD0
  generalize hQf : MQ below (qq_P_paint dC dI cI cB cJ cZ a_this a_colours n_colours c_width c_height A post) ([.ref a_this, .int x1, .int x2, .int x3, .int x4] : List Value).toArray s 0 0 A = Qf
  have hl := lv_entry ([.ref a_this, .int x1, .int x2, .int x3, .int x4]) (n := 9) (Nat.le_of_ble_eq_true rfl)
  rw [lg_entry_eq]
  generalize (lg_sl ([.ref a_this, .int x1, .int x2, .int x3, .int x4]) ++ List.replicate (9 - (lg_sl ([.ref a_this, .int x1, .int x2, .int x3, .int x4])).length) Slot.unset).toArray = ls at hl ⊢
  have hl : lv_has ls 9 [(0, .ref a_this), (1, .int x1), (2, .int x2), (3, .int x3), (4, .int x4)] := hl
  unfold wp_P_paint at h
  refine lv_iload_n hx hb d_P_paint_0 rfl (lv_at hl 2 rfl) ?_
  refine lv_aload_n hx hb d_P_paint_1 rfl (lv_at hl 0 rfl) ?_
  refine va_get (D := (dC, dI)) (ci := 1) (v := .int c_width) (C := R_P) (T := F_P) (N := 3) hx hb hts i_P_in hown hK hP 0 rfl rfl 0 (by decide) (hts _ q_36) (fun _ h9 => h9) rfl d_P_paint_2 ?_
  refine lv_imul hx hb d_P_paint_5 ?_
  refine lv_iload_n hx hb d_P_paint_6 rfl (lv_at hl 1 rfl) ?_
  refine lv_iadd hx hb d_P_paint_7 ?_
  refine lv_topi (fun x5_8 e_x5_8 => ?_)
  have h := h x5_8 e_x5_8
  refine lv_istore (lv' := [(5, .int x5_8), (0, .ref a_this), (1, .int x1), (2, .int x2), (3, .int x3), (4, .int x4)]) hx hb d_P_paint_8 hl (by decide) rfl (fun ls hl => ?_)
  refine lv_iload hx hb d_P_paint_10 (lv_at hl 0 rfl) ?_
  refine lv_iload_n hx hb d_P_paint_12 rfl (lv_at hl 4 rfl) ?_
  refine lv_aload_n hx hb d_P_paint_13 rfl (lv_at hl 1 rfl) ?_
  refine va_get (D := (dC, dI)) (ci := 1) (v := .int c_width) (C := R_P) (T := F_P) (N := 3) hx hb hts i_P_in hown hK hP 0 rfl rfl 0 (by decide) (hts _ q_36) (fun _ h9 => h9) rfl d_P_paint_14 ?_
  refine lv_iload_n hx hb d_P_paint_17 rfl (lv_at hl 2 rfl) ?_
  refine lv_isub hx hb d_P_paint_18 ?_
  refine va_mmin hx hb (hml.trans hl.1.symm) hown (hts _ q_30) (hts _ q_31) (hts _ q_3) (hts _ q_32) (Nat.le_of_ble_eq_true rfl) (Nat.le_of_ble_eq_true rfl) (Nat.zero_le _) (Nat.zero_le _) d_P_paint_19 ?_
  refine W.eq (g2 := F0 m 22 ls [.int (jmin x3 (c_width - x1)), .int x5_8]) rfl ?_
  refine lv_iadd hx hb d_P_paint_22 ?_
  refine lv_topi (fun x6_23 e_x6_23 => ?_)
  have h := h x6_23 e_x6_23
  refine lv_istore (lv' := [(6, .int x6_23), (5, .int x5_8), (0, .ref a_this), (1, .int x1), (2, .int x2), (3, .int x3), (4, .int x4)]) hx hb d_P_paint_23 hl (by decide) rfl (fun ls hl => ?_)
  refine lv_iconst (v := 0) hx hb d_P_paint_25 (by decide) ?_
  refine lv_istore (lv' := [(7, .int (0 : Int32)), (6, .int x6_23), (5, .int x5_8), (0, .ref a_this), (1, .int x1), (2, .int x2), (3, .int x3), (4, .int x4)]) hx hb d_P_paint_26 hl (by decide) rfl (fun ls hl => ?_)
  refine lv_iload hx hb d_P_paint_28 (lv_at hl 2 rfl) ?_
  refine lv_istore (lv' := [(8, .int x5_8), (7, .int (0 : Int32)), (6, .int x6_23), (5, .int x5_8), (0, .ref a_this), (1, .int x1), (2, .int x2), (3, .int x3), (4, .int x4)]) hx hb d_P_paint_30 hl (by decide) rfl (fun ls hl => ?_)
  refine lpW_ind (Wp := fun z => ∀ (H : Heap) (locs : List Loc) (ls : Array Slot), va_P (dC, dI) vwCl (cw_P_paint cB a_this a_colours n_colours c_width c_height z.2.2) H → va_D A (cw_P_paint cB a_this a_colours n_colours c_width c_height z.2.2) → va_S A s.heap H locs → lv_has ls 9 [(0, .ref a_this), (4, .int x4), (6, .int x6_23), (7, .int z.1), (8, .int z.2.1)] → W p l e (headSpec w_P_paint ({ frames := 1, cells := 0, slots := 0, locals := 21 })).room s m ([.ref a_this, .int x1, .int x2, .int x3, .int x4] : List Value).toArray below meth c H locs 0 0 Qf (F0 m 32 ls [])) h ?_ _ _ _ hP hD hS (lv_sub hl [4, 8, 2, 1, 0] rfl)
  rintro ⟨x7_l32, x8_l32, f_colours_l32⟩ back32 h hb32 H locs ls hP hD hS hl
  have h : wp_P_paint_L32 n_colours c_width x4 x6_23 post back32 x7_l32 x8_l32 f_colours_l32 := h
  have hP : va_P (dC, dI) vwCl (cw_P_paint cB a_this a_colours n_colours c_width c_height f_colours_l32) H := hP
  have hD : va_D A (cw_P_paint cB a_this a_colours n_colours c_width c_height f_colours_l32) := hD
  have hl : lv_has ls 9 [(0, .ref a_this), (4, .int x4), (6, .int x6_23), (7, .int x7_l32), (8, .int x8_l32)] := hl
  unfold wp_P_paint_L32 at h
  have J64 : ∀ (x7_j64 : Int32) (x8_j64 : Int32) (f_colours_j64 : Nat → Int32) (H : Heap) (locs : List Loc) (ls : Array Slot), wp_P_paint_J64 n_colours c_width f_colours_j64 x4 x6_23 x7_j64 x8_j64 back32 post → va_P (dC, dI) vwCl (cw_P_paint cB a_this a_colours n_colours c_width c_height f_colours_j64) H → va_D A (cw_P_paint cB a_this a_colours n_colours c_width c_height f_colours_j64) → va_S A s.heap H locs → lv_has ls 9 [(0, .ref a_this), (4, .int x4), (6, .int x6_23), (7, .int x7_j64), (8, .int x8_j64)] → W p l e (headSpec w_P_paint ({ frames := 1, cells := 0, slots := 0, locals := 21 })).room s m ([.ref a_this, .int x1, .int x2, .int x3, .int x4] : List Value).toArray below meth c H locs 0 0 Qf (F0 m 64 ls []) := by
    intro x7_j64 x8_j64 f_colours_j64 H locs ls h hP hD hS hl
    unfold wp_P_paint_J64 at h
    obtain ⟨x8_64, e_x8_64⟩ : ∃ y : Int32, y = x8_j64 + (1 : Int32) := ⟨_, rfl⟩
    have h := h x8_64 e_x8_64
    refine lv_iinc (v := x8_64) (lv' := [(8, .int x8_64), (0, .ref a_this), (4, .int x4), (6, .int x6_23), (7, .int x7_j64)]) hx hb d_P_paint_64 hl (k := 4) rfl (by rw [e_x8_64]; rfl) (by decide) rfl (fun ls hl => ?_)
    refine lv_goto (tgt := 32) hx hb d_P_paint_67 (by decide) ?_
    exact hb32 _ h _ _ _ hP hD hS (lv_sub hl [1, 2, 3, 4, 0] rfl)
  refine lv_iload hx hb d_P_paint_32 (lv_at hl 4 rfl) ?_
  refine lv_iload hx hb d_P_paint_34 (lv_at hl 2 rfl) ?_
  refine lv_icmp_ge (tgt := 70) hx hb d_P_paint_36 (by decide) (fun cc_ => ?_) (fun cc_ => ?_)
  · have h := h.1 cc_
    refine lv_iload hx hb d_P_paint_70 (lv_at hl 3 rfl) ?_
    subst hQf
    exact W.iret (v := x7_l32) hx hb hr (fun t ht hW => ⟨⟨x7_l32, f_colours_l32, rfl, h, by rw [ht]; exact hP, va_K.moved hW.alike hK, hD⟩, hS.F ht⟩) hS.2.2 d_P_paint_72
  · have h := h.2 cc_
    refine lv_aload_n hx hb d_P_paint_39 rfl (lv_at hl 0 rfl) ?_
    refine va_get (D := (dC, dI)) (ci := 1) (v := .ref a_colours) (C := R_P) (T := F_P) (N := 3) hx hb hts i_P_in hown hK hP 0 rfl rfl 2 (by decide) (hts _ q_42) (fun _ h9 => h9) rfl d_P_paint_40 ?_
    refine lv_iload hx hb d_P_paint_43 (lv_at hl 4 rfl) ?_
    obtain ⟨hin, h⟩ := h
    refine va_bald hx hb hK hP 1 1 rfl rfl hin d_P_paint_45 ?_
    refine lv_iload hx hb d_P_paint_46 (lv_at hl 1 rfl) ?_
    refine lv_icmp_eq (tgt := 64) hx hb d_P_paint_48 (by decide) (fun cc_ => ?_) (fun cc_ => ?_)
    · have h := h.1 cc_
      exact J64 x7_l32 x8_l32 f_colours_l32 _ _ _ h hP hD hS (lv_sub hl [0, 1, 2, 3, 4] rfl)
    · have h := h.2 cc_
      refine lv_aload_n hx hb d_P_paint_51 rfl (lv_at hl 0 rfl) ?_
      refine va_get (D := (dC, dI)) (ci := 1) (v := .ref a_colours) (C := R_P) (T := F_P) (N := 3) hx hb hts i_P_in hown hK hP 0 rfl rfl 2 (by decide) (hts _ q_42) (fun _ h9 => h9) rfl d_P_paint_52 ?_
      refine lv_iload hx hb d_P_paint_55 (lv_at hl 4 rfl) ?_
      refine lv_iload hx hb d_P_paint_57 (lv_at hl 1 rfl) ?_
      refine lv_i2b hx hb d_P_paint_59 rfl ?_
      obtain ⟨hin, h⟩ := h
      refine va_bast hx hb hK hP hD hS 1 1 rfl rfl hin d_P_paint_60 (fun H locs hP hD hS => ?_)
      obtain ⟨f60, e_f60⟩ : ∃ y : Nat → Int32, y = upd f_colours_l32 x8_l32.toNatClampNeg (vp_nar .byte (x4.toInt8.toInt32)) := ⟨_, rfl⟩
      have h := h f60 e_f60
      have hP : va_P (dC, dI) vwCl (cw_P_paint cB a_this a_colours n_colours c_width c_height f60) H := by rw [e_f60]; exact hP
      have hD : va_D A (cw_P_paint cB a_this a_colours n_colours c_width c_height f60) := by rw [e_f60]; exact hD
      obtain ⟨x7_61, e_x7_61⟩ : ∃ y : Int32, y = x7_l32 + (1 : Int32) := ⟨_, rfl⟩
      have h := h x7_61 e_x7_61
      refine lv_iinc (v := x7_61) (lv' := [(7, .int x7_61), (0, .ref a_this), (4, .int x4), (6, .int x6_23), (8, .int x8_l32)]) hx hb d_P_paint_61 hl (k := 3) rfl (by rw [e_x7_61]; rfl) (by decide) rfl (fun ls hl => ?_)
      exact J64 x7_61 x8_l32 f60 _ _ _ h hP hD hS (lv_sub hl [1, 2, 3, 0, 4] rfl)
def wp_P_isInside_J30 (n_colours : Nat) (c_width : Int32) (c_height : Int32) (f_colours : Nat → Int32) (post : Int32 → Unit → Prop) : Prop :=
  post (0 : Int32) ()
def wp_P_isInside (n_colours : Nat) (c_width : Int32) (c_height : Int32) (f_colours : Nat → Int32) (x1 : Int32) (x2 : Int32) (x3 : Int32) (post : Int32 → Unit → Prop) : Prop :=
  ∃ Q3 : Int32 → Unit → Prop, wp_P_has c_width c_height x1 x2 Q3 ∧ ∀ (r3 : Int32), Q3 r3 () → (r3 = 0 → wp_P_isInside_J30 n_colours c_width c_height f_colours post) ∧ (¬ r3 = 0 → vp_in ((x2 * c_width) + x1) n_colours ∧ ((f_colours ((x2 * c_width) + x1).toNatClampNeg) < x3 → wp_P_isInside_J30 n_colours c_width c_height f_colours post) ∧ (¬ (f_colours ((x2 * c_width) + x1).toNatClampNeg) < x3 → post (1 : Int32) ()))
abbrev cw_P_isInside (cB : ClassId) (a_this a_colours : Nat) (n_colours : Nat) (c_width : Int32) (c_height : Int32) (f_colours : Nat → Int32) : va_W := [(a_this, .inr (1, [.int c_width, .int c_height, .ref a_colours])), (a_colours, .inl (cB, n_colours, .inl f_colours))]
abbrev qq_P_isInside (dC : Nat → ClassId) (dI : Nat → Nat → Nat) (cI cB cJ cZ : ClassId) (a_this a_colours : Nat) (n_colours : Nat) (c_width : Int32) (c_height : Int32) (f_colours : Nat → Int32) (A : Nat → Prop) (post : Int32 → Unit → Prop) : Array Value → State → Outcome → State → Prop := va_Qi post (fun _ t => va_P (dC, dI) vwCl (cw_P_isInside cB a_this a_colours n_colours c_width c_height f_colours) t.heap ∧ va_K (dC, dI) vwCl [(cI, .int), (cB, .byte), (cJ, .long), (cZ, .boolean)] t ∧ va_D A (cw_P_isInside cB a_this a_colours n_colours c_width c_height f_colours)) A
set_option maxHeartbeats 4000000 in
set_option maxRecDepth 100000 in
theorem c_P_isInside (l : Launch) (dC : Nat → ClassId) (dI : Nat → Nat → Nat) (cI cB cJ cZ : ClassId) (a_this a_colours : Nat) (sz : Nat) (n_colours : Nat) (c_width : Int32) (c_height : Int32) (f_colours : Nat → Int32) (x1 : Int32) (x2 : Int32) (x3 : Int32) (post : Int32 → Unit → Prop) (h : wp_P_isInside n_colours c_width c_height f_colours x1 x2 x3 post) : Met l y_P_isInside w_P_isInside ({ frames := 1, cells := 0, slots := 0, locals := 22 }) (va_Pc [.ref a_this, .int x1, .int x2, .int x3] (fun U => U.heap.size = sz ∧ va_P (dC, dI) vwCl (cw_P_isInside cB a_this a_colours n_colours c_width c_height f_colours) U.heap ∧ va_K (dC, dI) vwCl [(cI, .int), (cB, .byte), (cJ, .long), (cZ, .boolean)] U ∧ va_D (fun _ => True) (cw_P_isInside cB a_this a_colours n_colours c_width c_height f_colours))) (qq_P_isInside dC dI cI cB cJ cZ a_this a_colours n_colours c_width c_height f_colours (va_A (cw_P_isInside cB a_this a_colours n_colours c_width c_height f_colours) sz) post) 0 0 (va_A (cw_P_isInside cB a_this a_colours n_colours c_width c_height f_colours) sz) := by
  refine Met.ofW (cc := b_P_isInside) (maxL := 4) (ret := (some .boolean)) (by decide +kernel) rfl ?_
  intro p e s m args below meth c s₁ B hml hv
  obtain ⟨rfl, hsz, hP, hK, hD0⟩ := hv
  have hx := B.exec
  have hb := B.bytes
  have hr := B.returns
  have hts : ∀ w ∈ allW, w.before _ s = true := fun w hw => atoms_spec (ws := w_P_isInside) B.pre w (List.mem_cons_of_mem _ hw)
  have hown : s.vm.findClass R_P = some m.cls := findClass_of_methodNamed B.named
  have hlocks := B.notSynchronized
  subst hsz
  have hD := hD0.self (sz := s.heap.size)
  generalize hAe : va_A (cw_P_isInside cB a_this a_colours n_colours c_width c_height f_colours) s.heap.size = A at hD ⊢
  have hA : ∀ q : Nat, s.heap.size ≤ q → A q := fun q h => by rw [← hAe]; exact Or.inr h
  have hS : va_S A s.heap s.heap [] := va_S.rf
  clear hD0
  generalize hQf : MQ below (qq_P_isInside dC dI cI cB cJ cZ a_this a_colours n_colours c_width c_height f_colours A post) ([.ref a_this, .int x1, .int x2, .int x3] : List Value).toArray s 0 0 A = Qf
  have hl := lv_entry ([.ref a_this, .int x1, .int x2, .int x3]) (n := 4) (Nat.le_of_ble_eq_true rfl)
  rw [lg_entry_eq]
  generalize (lg_sl ([.ref a_this, .int x1, .int x2, .int x3]) ++ List.replicate (4 - (lg_sl ([.ref a_this, .int x1, .int x2, .int x3])).length) Slot.unset).toArray = ls at hl ⊢
  have hl : lv_has ls 4 [(0, .ref a_this), (1, .int x1), (2, .int x2), (3, .int x3)] := hl
  unfold wp_P_isInside at h
  have J30 : ∀ (H : Heap) (locs : List Loc) (ls : Array Slot), wp_P_isInside_J30 n_colours c_width c_height f_colours post → va_P (dC, dI) vwCl (cw_P_isInside cB a_this a_colours n_colours c_width c_height f_colours) H → va_D A (cw_P_isInside cB a_this a_colours n_colours c_width c_height f_colours) → va_S A s.heap H locs → lv_has ls 4 [] → W p l e (headSpec w_P_isInside ({ frames := 1, cells := 0, slots := 0, locals := 22 })).room s m ([.ref a_this, .int x1, .int x2, .int x3] : List Value).toArray below meth c H locs 0 0 Qf (F0 m 30 ls []) := by
    intro H locs ls h hP hD hS hl
    unfold wp_P_isInside_J30 at h
    refine lv_iconst (v := 0) hx hb d_P_isInside_30 (by decide) ?_
    subst hQf
    exact W.zret (v := (0 : Int32)) hx hb hr (by rfl) (fun t ht hW => ⟨⟨(0 : Int32), (), rfl, h, by rw [ht]; exact hP, va_K.moved hW.alike hK, hD⟩, hS.F ht⟩) hS.2.2 d_P_isInside_31
  refine lv_aload_n hx hb d_P_isInside_0 rfl (lv_at hl 0 rfl) ?_
  refine lv_iload_n hx hb d_P_isInside_1 rfl (lv_at hl 1 rfl) ?_
  refine lv_iload_n hx hb d_P_isInside_2 rfl (lv_at hl 2 rfl) ?_
  obtain ⟨Q3, hq3, h⟩ := h
  have hPc := hP.sub (ws' := (cw_P_has a_this a_colours c_width c_height)) [0] rfl
  have hDc := hD.sub (ws' := (cw_P_has a_this a_colours c_width c_height)) [0] (by decide) rfl
  have hFc := va_free (wc := (cw_P_has a_this a_colours c_width c_height)) hD hS hA [0] rfl
  refine va_calli (va_runV (As := [.int x1, .int x2]) (rest := []) ⟨hx, hb, hml, hown, hts⟩ (c_P_has l dC dI cI cB cJ cZ a_this a_colours s.heap.size c_width c_height x1 x2 Q3 hq3) (cwV 2 hts (goodV q_373 q_259 q_260 q_2 q_261) rfl rfl rfl (by decide +kernel) ⟨Nat.le_of_ble_eq_true rfl, Nat.le_of_ble_eq_true rfl⟩) ⟨fun a U g mk q => by obtain ⟨q0, q1, qP, qK, qD⟩ := q; exact ⟨q0, q1, qP, va_K.moved (u := U) (U := U.calling g mk a) (Vm.Alike.refl U.vm) qK, qD⟩, va_recv hK hPc (ci := 1) (q0 := 0) rfl rfl, fun U hU hW => ⟨rfl, by rw [hU], by rw [hU]; exact hPc, va_K.moved hW.alike hK, hDc.weaken (fun _ _ _ _ => trivial)⟩⟩ rfl rfl hl.1 rfl (lv_room (Nat.le_of_ble_eq_true rfl)) d_P_isInside_3 ⟨Nat.le_of_ble_eq_true rfl, Nat.le_of_ble_eq_true rfl⟩) hS (fun q _ h => hFc q h) hFc (fun r3 u3 t H1 locs ht hvm hw hB hz1 hk1 hS => ?_)
  cases u3
  obtain ⟨hP1, -, hD1⟩ := hB
  rw [ht] at hP1
  have h := h r3 hw
  obtain ⟨hP, hD⟩ := va_join (wr := [(a_colours, .inl (cB, n_colours, .inl f_colours))]) (w1 := (cw_P_has a_this a_colours c_width c_height)) hP hD [0] [1] rfl rfl (by decide) (by decide) hk1 hFc hP1 hD1
  clear hP1 hD1 hk1 hPc hDc hFc
  generalize H1 = H at hP hS ⊢
  have hP : va_P (dC, dI) vwCl (cw_P_isInside cB a_this a_colours n_colours c_width c_height f_colours) H := hP.sub [1, 0] rfl
  have hD : va_D A (cw_P_isInside cB a_this a_colours n_colours c_width c_height f_colours) := hD.sub [1, 0] (by decide) rfl
  refine lv_if_eq (tgt := 30) hx hb d_P_isInside_6 (by decide) (fun cc_ => ?_) (fun cc_ => ?_)
  · have h := h.1 cc_
    exact J30 _ _ _ h hP hD hS (lv_sub hl [] rfl)
  · have h := h.2 cc_
    refine lv_aload_n hx hb d_P_isInside_9 rfl (lv_at hl 0 rfl) ?_
    refine va_get (D := (dC, dI)) (ci := 1) (v := .ref a_colours) (C := R_P) (T := F_P) (N := 3) hx hb hts i_P_in hown hK hP 0 rfl rfl 2 (by decide) (hts _ q_42) (fun _ h9 => h9) rfl d_P_isInside_10 ?_
    refine lv_iload_n hx hb d_P_isInside_13 rfl (lv_at hl 2 rfl) ?_
    refine lv_aload_n hx hb d_P_isInside_14 rfl (lv_at hl 0 rfl) ?_
    refine va_get (D := (dC, dI)) (ci := 1) (v := .int c_width) (C := R_P) (T := F_P) (N := 3) hx hb hts i_P_in hown hK hP 0 rfl rfl 0 (by decide) (hts _ q_36) (fun _ h9 => h9) rfl d_P_isInside_15 ?_
    refine lv_imul hx hb d_P_isInside_18 ?_
    refine lv_iload_n hx hb d_P_isInside_19 rfl (lv_at hl 1 rfl) ?_
    refine lv_iadd hx hb d_P_isInside_20 ?_
    obtain ⟨hin, h⟩ := h
    refine va_bald hx hb hK hP 1 1 rfl rfl hin d_P_isInside_21 ?_
    refine lv_iload_n hx hb d_P_isInside_22 rfl (lv_at hl 3 rfl) ?_
    refine lv_icmp_lt (tgt := 30) hx hb d_P_isInside_23 (by decide) (fun cc_ => ?_) (fun cc_ => ?_)
    · have h := h.1 cc_
      exact J30 _ _ _ h hP hD hS (lv_sub hl [] rfl)
    · have h := h.2 cc_
      refine lv_iconst (v := 1) hx hb d_P_isInside_26 (by decide) ?_
      refine lv_goto (tgt := 31) hx hb d_P_isInside_27 (by decide) ?_
      subst hQf
      exact W.zret (v := (1 : Int32)) hx hb hr (by rfl) (fun t ht hW => ⟨⟨(1 : Int32), (), rfl, h, by rw [ht]; exact hP, va_K.moved hW.alike hK, hD⟩, hS.F ht⟩) hS.2.2 d_P_isInside_31
def wp_P_coloured_J25 (n_colours : Nat) (f_colours : Nat → Int32) (x1 : Int32) (x2 : Int32) (back4 : (Int32 × Int32) → Prop) (post : Int32 → Unit → Prop) : Prop :=
  ∀ x2_25 : Int32, x2_25 = x2 + (1 : Int32) → back4 (x1, x2_25)
def wp_P_coloured_L4 (n_colours : Nat) (f_colours : Nat → Int32) (post : Int32 → Unit → Prop) (back4 : (Int32 × Int32) → Prop) (x1 : Int32) (x2 : Int32) : Prop :=
  ((Int32.ofNat n_colours) ≤ x2 → post x1 ()) ∧ (¬ (Int32.ofNat n_colours) ≤ x2 → vp_in x2 n_colours ∧ ((f_colours x2.toNatClampNeg) ≤ 0 → wp_P_coloured_J25 n_colours f_colours x1 x2 back4 post) ∧ (¬ (f_colours x2.toNatClampNeg) ≤ 0 → ∀ x1_22 : Int32, x1_22 = x1 + (1 : Int32) → wp_P_coloured_J25 n_colours f_colours x1_22 x2 back4 post))
def wp_P_coloured (n_colours : Nat) (f_colours : Nat → Int32) (post : Int32 → Unit → Prop) : Prop :=
  lpW (fun b z => wp_P_coloured_L4 n_colours f_colours post b z.1 z.2) ((0 : Int32), (0 : Int32))
abbrev cw_P_coloured (cB : ClassId) (a_this a_colours : Nat) (n_colours : Nat) (c_width : Int32) (c_height : Int32) (f_colours : Nat → Int32) : va_W := [(a_this, .inr (1, [.int c_width, .int c_height, .ref a_colours])), (a_colours, .inl (cB, n_colours, .inl f_colours))]
abbrev qq_P_coloured (dC : Nat → ClassId) (dI : Nat → Nat → Nat) (cI cB cJ cZ : ClassId) (a_this a_colours : Nat) (n_colours : Nat) (c_width : Int32) (c_height : Int32) (f_colours : Nat → Int32) (A : Nat → Prop) (post : Int32 → Unit → Prop) : Array Value → State → Outcome → State → Prop := va_Qi post (fun _ t => va_P (dC, dI) vwCl (cw_P_coloured cB a_this a_colours n_colours c_width c_height f_colours) t.heap ∧ va_K (dC, dI) vwCl [(cI, .int), (cB, .byte), (cJ, .long), (cZ, .boolean)] t ∧ va_D A (cw_P_coloured cB a_this a_colours n_colours c_width c_height f_colours)) A
set_option maxHeartbeats 4000000 in
set_option maxRecDepth 100000 in
theorem c_P_coloured (l : Launch) (dC : Nat → ClassId) (dI : Nat → Nat → Nat) (cI cB cJ cZ : ClassId) (a_this a_colours : Nat) (sz : Nat) (n_colours : Nat) (c_width : Int32) (c_height : Int32) (f_colours : Nat → Int32) (post : Int32 → Unit → Prop) (h : wp_P_coloured n_colours f_colours post) : Met l y_P_coloured w_P_coloured ({ frames := 0, cells := 0, slots := 0, locals := 0 }) (va_Pc [.ref a_this] (fun U => U.heap.size = sz ∧ va_P (dC, dI) vwCl (cw_P_coloured cB a_this a_colours n_colours c_width c_height f_colours) U.heap ∧ va_K (dC, dI) vwCl [(cI, .int), (cB, .byte), (cJ, .long), (cZ, .boolean)] U ∧ va_D (fun _ => True) (cw_P_coloured cB a_this a_colours n_colours c_width c_height f_colours))) (qq_P_coloured dC dI cI cB cJ cZ a_this a_colours n_colours c_width c_height f_colours (va_A (cw_P_coloured cB a_this a_colours n_colours c_width c_height f_colours) sz) post) 0 0 (va_A (cw_P_coloured cB a_this a_colours n_colours c_width c_height f_colours) sz) := by
  refine Met.ofW (cc := b_P_coloured) (maxL := 3) (ret := (some .int)) (by decide +kernel) rfl ?_
  intro p e s m args below meth c s₁ B hml hv
  obtain ⟨rfl, hsz, hP, hK, hD0⟩ := hv
  have hx := B.exec
  have hb := B.bytes
  have hr := B.returns
  have hts : ∀ w ∈ allW, w.before _ s = true := fun w hw => atoms_spec (ws := w_P_coloured) B.pre w (List.mem_cons_of_mem _ hw)
  have hown : s.vm.findClass R_P = some m.cls := findClass_of_methodNamed B.named
  have hlocks := B.notSynchronized
  subst hsz
  have hD := hD0.self (sz := s.heap.size)
  generalize hAe : va_A (cw_P_coloured cB a_this a_colours n_colours c_width c_height f_colours) s.heap.size = A at hD ⊢
  have hA : ∀ q : Nat, s.heap.size ≤ q → A q := fun q h => by rw [← hAe]; exact Or.inr h
  have hS : va_S A s.heap s.heap [] := va_S.rf
  clear hD0
  generalize hQf : MQ below (qq_P_coloured dC dI cI cB cJ cZ a_this a_colours n_colours c_width c_height f_colours A post) ([.ref a_this] : List Value).toArray s 0 0 A = Qf
  have hl := lv_entry ([.ref a_this]) (n := 3) (Nat.le_of_ble_eq_true rfl)
  rw [lg_entry_eq]
  generalize (lg_sl ([.ref a_this]) ++ List.replicate (3 - (lg_sl ([.ref a_this])).length) Slot.unset).toArray = ls at hl ⊢
  have hl : lv_has ls 3 [(0, .ref a_this)] := hl
  unfold wp_P_coloured at h
  refine lv_iconst (v := 0) hx hb d_P_coloured_0 (by decide) ?_
  refine lv_istore_n (lv' := [(1, .int (0 : Int32)), (0, .ref a_this)]) hx hb d_P_coloured_1 rfl hl (by decide) rfl (fun ls hl => ?_)
  refine lv_iconst (v := 0) hx hb d_P_coloured_2 (by decide) ?_
  refine lv_istore_n (lv' := [(2, .int (0 : Int32)), (1, .int (0 : Int32)), (0, .ref a_this)]) hx hb d_P_coloured_3 rfl hl (by decide) rfl (fun ls hl => ?_)
  refine lpW_ind (Wp := fun z => ∀ (H : Heap) (locs : List Loc) (ls : Array Slot), va_P (dC, dI) vwCl (cw_P_coloured cB a_this a_colours n_colours c_width c_height f_colours) H → va_D A (cw_P_coloured cB a_this a_colours n_colours c_width c_height f_colours) → va_S A s.heap H locs → lv_has ls 3 [(0, .ref a_this), (1, .int z.1), (2, .int z.2)] → W p l e (headSpec w_P_coloured ({ frames := 0, cells := 0, slots := 0, locals := 0 })).room s m ([.ref a_this] : List Value).toArray below meth c H locs 0 0 Qf (F0 m 4 ls [])) h ?_ _ _ _ hP hD hS (lv_sub hl [2, 1, 0] rfl)
  rintro ⟨x1_l4, x2_l4⟩ back4 h hb4 H locs ls hP hD hS hl
  have h : wp_P_coloured_L4 n_colours f_colours post back4 x1_l4 x2_l4 := h
  have hP : va_P (dC, dI) vwCl (cw_P_coloured cB a_this a_colours n_colours c_width c_height f_colours) H := hP
  have hD : va_D A (cw_P_coloured cB a_this a_colours n_colours c_width c_height f_colours) := hD
  have hl : lv_has ls 3 [(0, .ref a_this), (1, .int x1_l4), (2, .int x2_l4)] := hl
  unfold wp_P_coloured_L4 at h
  have J25 : ∀ (x1_j25 : Int32) (x2_j25 : Int32) (H : Heap) (locs : List Loc) (ls : Array Slot), wp_P_coloured_J25 n_colours f_colours x1_j25 x2_j25 back4 post → va_P (dC, dI) vwCl (cw_P_coloured cB a_this a_colours n_colours c_width c_height f_colours) H → va_D A (cw_P_coloured cB a_this a_colours n_colours c_width c_height f_colours) → va_S A s.heap H locs → lv_has ls 3 [(0, .ref a_this), (1, .int x1_j25), (2, .int x2_j25)] → W p l e (headSpec w_P_coloured ({ frames := 0, cells := 0, slots := 0, locals := 0 })).room s m ([.ref a_this] : List Value).toArray below meth c H locs 0 0 Qf (F0 m 25 ls []) := by
    intro x1_j25 x2_j25 H locs ls h hP hD hS hl
    unfold wp_P_coloured_J25 at h
    obtain ⟨x2_25, e_x2_25⟩ : ∃ y : Int32, y = x2_j25 + (1 : Int32) := ⟨_, rfl⟩
    have h := h x2_25 e_x2_25
    refine lv_iinc (v := x2_25) (lv' := [(2, .int x2_25), (0, .ref a_this), (1, .int x1_j25)]) hx hb d_P_coloured_25 hl (k := 2) rfl (by rw [e_x2_25]; rfl) (by decide) rfl (fun ls hl => ?_)
    refine lv_goto (tgt := 4) hx hb d_P_coloured_28 (by decide) ?_
    exact hb4 _ h _ _ _ hP hD hS (lv_sub hl [1, 2, 0] rfl)
  refine lv_iload_n hx hb d_P_coloured_4 rfl (lv_at hl 2 rfl) ?_
  refine lv_aload_n hx hb d_P_coloured_5 rfl (lv_at hl 0 rfl) ?_
  refine va_get (D := (dC, dI)) (ci := 1) (v := .ref a_colours) (C := R_P) (T := F_P) (N := 3) hx hb hts i_P_in hown hK hP 0 rfl rfl 2 (by decide) (hts _ q_42) (fun _ h9 => h9) rfl d_P_coloured_6 ?_
  refine va_alen hx hb hK hP 1 1 rfl rfl (v := (Int32.ofNat n_colours)) rfl d_P_coloured_9 ?_
  refine lv_icmp_ge (tgt := 31) hx hb d_P_coloured_10 (by decide) (fun cc_ => ?_) (fun cc_ => ?_)
  · have h := h.1 cc_
    refine lv_iload_n hx hb d_P_coloured_31 rfl (lv_at hl 1 rfl) ?_
    subst hQf
    exact W.iret (v := x1_l4) hx hb hr (fun t ht hW => ⟨⟨x1_l4, (), rfl, h, by rw [ht]; exact hP, va_K.moved hW.alike hK, hD⟩, hS.F ht⟩) hS.2.2 d_P_coloured_32
  · have h := h.2 cc_
    refine lv_aload_n hx hb d_P_coloured_13 rfl (lv_at hl 0 rfl) ?_
    refine va_get (D := (dC, dI)) (ci := 1) (v := .ref a_colours) (C := R_P) (T := F_P) (N := 3) hx hb hts i_P_in hown hK hP 0 rfl rfl 2 (by decide) (hts _ q_42) (fun _ h9 => h9) rfl d_P_coloured_14 ?_
    refine lv_iload_n hx hb d_P_coloured_17 rfl (lv_at hl 2 rfl) ?_
    obtain ⟨hin, h⟩ := h
    refine va_bald hx hb hK hP 1 1 rfl rfl hin d_P_coloured_18 ?_
    refine lv_if_le (tgt := 25) hx hb d_P_coloured_19 (by decide) (fun cc_ => ?_) (fun cc_ => ?_)
    · have h := h.1 cc_
      exact J25 x1_l4 x2_l4 _ _ _ h hP hD hS (lv_sub hl [0, 1, 2] rfl)
    · have h := h.2 cc_
      obtain ⟨x1_22, e_x1_22⟩ : ∃ y : Int32, y = x1_l4 + (1 : Int32) := ⟨_, rfl⟩
      have h := h x1_22 e_x1_22
      refine lv_iinc (v := x1_22) (lv' := [(1, .int x1_22), (0, .ref a_this), (2, .int x2_l4)]) hx hb d_P_coloured_22 hl (k := 1) rfl (by rw [e_x1_22]; rfl) (by decide) rfl (fun ls hl => ?_)
      exact J25 x1_22 x2_l4 _ _ _ h hP hD hS (lv_sub hl [1, 0, 2] rfl)
def wp_P_wipe (n_colours : Nat) (f_colours : Nat → Int32) (post : (Nat → Int32) → Prop) : Prop :=
  ∃ Q5 : (Nat → Int32) → Prop, wp_Ja_fill n_colours f_colours (0 : Int32) Q5 ∧ ∀ (u5_0 : Nat → Int32), Q5 u5_0 → post u5_0
abbrev cw_P_wipe (cB : ClassId) (a_this a_colours : Nat) (n_colours : Nat) (c_width : Int32) (c_height : Int32) (f_colours : Nat → Int32) : va_W := [(a_this, .inr (1, [.int c_width, .int c_height, .ref a_colours])), (a_colours, .inl (cB, n_colours, .inl f_colours))]
abbrev qq_P_wipe (dC : Nat → ClassId) (dI : Nat → Nat → Nat) (cI cB cJ cZ : ClassId) (a_this a_colours : Nat) (n_colours : Nat) (c_width : Int32) (c_height : Int32) (A : Nat → Prop) (post : (Nat → Int32) → Prop) : Array Value → State → Outcome → State → Prop := va_Qv post (fun u t => va_P (dC, dI) vwCl (cw_P_wipe cB a_this a_colours n_colours c_width c_height u) t.heap ∧ va_K (dC, dI) vwCl [(cI, .int), (cB, .byte), (cJ, .long), (cZ, .boolean)] t ∧ va_D A (cw_P_wipe cB a_this a_colours n_colours c_width c_height u)) A
set_option maxHeartbeats 4000000 in
set_option maxRecDepth 100000 in
theorem c_P_wipe (l : Launch) (dC : Nat → ClassId) (dI : Nat → Nat → Nat) (cI cB cJ cZ : ClassId) (a_this a_colours : Nat) (sz : Nat) (n_colours : Nat) (c_width : Int32) (c_height : Int32) (f_colours : Nat → Int32) (post : (Nat → Int32) → Prop) (h : wp_P_wipe n_colours f_colours post) : Met l y_P_wipe w_P_wipe ({ frames := 1, cells := 0, slots := 0, locals := 23 }) (va_Pc [.ref a_this] (fun U => U.heap.size = sz ∧ va_P (dC, dI) vwCl (cw_P_wipe cB a_this a_colours n_colours c_width c_height f_colours) U.heap ∧ va_K (dC, dI) vwCl [(cI, .int), (cB, .byte), (cJ, .long), (cZ, .boolean)] U ∧ va_D (fun _ => True) (cw_P_wipe cB a_this a_colours n_colours c_width c_height f_colours))) (qq_P_wipe dC dI cI cB cJ cZ a_this a_colours n_colours c_width c_height (va_A (cw_P_wipe cB a_this a_colours n_colours c_width c_height f_colours) sz) post) 0 0 (va_A (cw_P_wipe cB a_this a_colours n_colours c_width c_height f_colours) sz) := by
  refine Met.ofW (cc := b_P_wipe) (maxL := 1) (ret := none) (by decide +kernel) rfl ?_
  intro p e s m args below meth c s₁ B hml hv
  obtain ⟨rfl, hsz, hP, hK, hD0⟩ := hv
  have hx := B.exec
  have hb := B.bytes
  have hr := B.returns
  have hts : ∀ w ∈ allW, w.before _ s = true := fun w hw => atoms_spec (ws := w_P_wipe) B.pre w (List.mem_cons_of_mem _ hw)
  have hown : s.vm.findClass R_P = some m.cls := findClass_of_methodNamed B.named
  have hlocks := B.notSynchronized
  subst hsz
  have hD := hD0.self (sz := s.heap.size)
  generalize hAe : va_A (cw_P_wipe cB a_this a_colours n_colours c_width c_height f_colours) s.heap.size = A at hD ⊢
  have hA : ∀ q : Nat, s.heap.size ≤ q → A q := fun q h => by rw [← hAe]; exact Or.inr h
  have hS : va_S A s.heap s.heap [] := va_S.rf
  clear hD0
  generalize hQf : MQ below (qq_P_wipe dC dI cI cB cJ cZ a_this a_colours n_colours c_width c_height A post) ([.ref a_this] : List Value).toArray s 0 0 A = Qf
  have hl := lv_entry ([.ref a_this]) (n := 1) (Nat.le_of_ble_eq_true rfl)
  rw [lg_entry_eq]
  generalize (lg_sl ([.ref a_this]) ++ List.replicate (1 - (lg_sl ([.ref a_this])).length) Slot.unset).toArray = ls at hl ⊢
  have hl : lv_has ls 1 [(0, .ref a_this)] := hl
  unfold wp_P_wipe at h
  refine lv_aload_n hx hb d_P_wipe_0 rfl (lv_at hl 0 rfl) ?_
  refine va_get (D := (dC, dI)) (ci := 1) (v := .ref a_colours) (C := R_P) (T := F_P) (N := 3) hx hb hts i_P_in hown hK hP 0 rfl rfl 2 (by decide) (hts _ q_42) (fun _ h9 => h9) rfl d_P_wipe_1 ?_
  refine lv_iconst (v := 0) hx hb d_P_wipe_4 (by decide) ?_
  obtain ⟨Q5, hq5, h⟩ := h
  have hPc := hP.sub (ws' := (cw_Ja_fill cB a_colours n_colours f_colours)) [1] rfl
  have hDc := hD.sub (ws' := (cw_Ja_fill cB a_colours n_colours f_colours)) [1] (by decide) rfl
  have hFc := va_free (wc := (cw_Ja_fill cB a_colours n_colours f_colours)) hD hS hA [1] rfl
  refine va_callv (va_runS (As := [.ref a_colours, .int (0 : Int32)]) (rest := []) ⟨hx, hb, hml, hown, hts⟩ (c_Ja_fill l dC dI cI cB cJ cZ a_colours s.heap.size n_colours f_colours (0 : Int32) Q5 hq5) (va_cwS 2 hts (goodS q_223 q_224 q_13 q_225) rfl rfl rfl (by decide +kernel) ⟨Nat.le_of_ble_eq_true rfl, Nat.le_of_ble_eq_true rfl⟩) ⟨fun a U g mk q => by obtain ⟨q0, q1, qP, qK, qD⟩ := q; exact ⟨q0, q1, qP, va_K.moved (u := U) (U := U.calling g mk a) (Vm.Alike.refl U.vm) qK, qD⟩, fun U hU hW => ⟨rfl, by rw [hU], by rw [hU]; exact hPc, va_K.moved hW.alike hK, hDc.weaken (fun _ _ _ _ => trivial)⟩⟩ rfl rfl hl.1 rfl (lv_room (Nat.le_of_ble_eq_true rfl)) d_P_wipe_5 ⟨Nat.le_of_ble_eq_true rfl, Nat.le_of_ble_eq_true rfl⟩) hS (fun q _ h => hFc q h) hFc (fun u5 t H1 locs ht hvm hw hB hz1 hk1 hS => ?_)
  obtain ⟨u5_0, rfl⟩ : ∃ z, z = u5 := ⟨_, rfl⟩
  obtain ⟨hP1, -, hD1⟩ := hB
  rw [ht] at hP1
  have h := h u5_0 hw
  obtain ⟨hP, hD⟩ := va_join (wr := [(a_this, .inr (1, [.int c_width, .int c_height, .ref a_colours]))]) (w1 := (cw_Ja_fill cB a_colours n_colours u5_0)) hP hD [1] [0] rfl rfl (by decide) (by decide) hk1 hFc hP1 hD1
  clear hP1 hD1 hk1 hPc hDc hFc
  generalize H1 = H at hP hS ⊢
  have hP : va_P (dC, dI) vwCl (cw_P_wipe cB a_this a_colours n_colours c_width c_height u5_0) H := hP.sub [0, 1] rfl
  have hD : va_D A (cw_P_wipe cB a_this a_colours n_colours c_width c_height u5_0) := hD.sub [0, 1] (by decide) rfl
  subst hQf
  exact W.vret hx hb hr (fun t ht hW => ⟨⟨u5_0, rfl, h, by rw [ht]; exact hP, va_K.moved hW.alike hK, hD⟩, hS.F ht⟩) hS.2.2 d_P_wipe_8
def wp_P_sides (c_width : Int32) (c_height : Int32) (post : Int32 → Unit → Prop) : Prop :=
  post ((c_width * (c_height + (1 : Int32))) + (c_height * (c_width + (1 : Int32)))) ()
abbrev cw_P_sides (a_this a_colours : Nat) (c_width : Int32) (c_height : Int32) : va_W := [(a_this, .inr (1, [.int c_width, .int c_height, .ref a_colours]))]
abbrev qq_P_sides (dC : Nat → ClassId) (dI : Nat → Nat → Nat) (cI cB cJ cZ : ClassId) (a_this a_colours : Nat) (c_width : Int32) (c_height : Int32) (A : Nat → Prop) (post : Int32 → Unit → Prop) : Array Value → State → Outcome → State → Prop := va_Qi post (fun _ t => va_P (dC, dI) vwCl (cw_P_sides a_this a_colours c_width c_height) t.heap ∧ va_K (dC, dI) vwCl [(cI, .int), (cB, .byte), (cJ, .long), (cZ, .boolean)] t ∧ va_D A (cw_P_sides a_this a_colours c_width c_height)) A
set_option maxHeartbeats 4000000 in
set_option maxRecDepth 100000 in
theorem c_P_sides (l : Launch) (dC : Nat → ClassId) (dI : Nat → Nat → Nat) (cI cB cJ cZ : ClassId) (a_this a_colours : Nat) (sz : Nat) (c_width : Int32) (c_height : Int32) (post : Int32 → Unit → Prop) (h : wp_P_sides c_width c_height post) : Met l y_P_sides w_P_sides ({ frames := 0, cells := 0, slots := 0, locals := 0 }) (va_Pc [.ref a_this] (fun U => U.heap.size = sz ∧ va_P (dC, dI) vwCl (cw_P_sides a_this a_colours c_width c_height) U.heap ∧ va_K (dC, dI) vwCl [(cI, .int), (cB, .byte), (cJ, .long), (cZ, .boolean)] U ∧ va_D (fun _ => True) (cw_P_sides a_this a_colours c_width c_height))) (qq_P_sides dC dI cI cB cJ cZ a_this a_colours c_width c_height (va_A (cw_P_sides a_this a_colours c_width c_height) sz) post) 0 0 (va_A (cw_P_sides a_this a_colours c_width c_height) sz) := by
  refine Met.ofW (cc := b_P_sides) (maxL := 1) (ret := (some .int)) (by decide +kernel) rfl ?_
  intro p e s m args below meth c s₁ B hml hv
  obtain ⟨rfl, hsz, hP, hK, hD0⟩ := hv
  have hx := B.exec
  have hb := B.bytes
  have hr := B.returns
  have hts : ∀ w ∈ allW, w.before _ s = true := fun w hw => atoms_spec (ws := w_P_sides) B.pre w (List.mem_cons_of_mem _ hw)
  have hown : s.vm.findClass R_P = some m.cls := findClass_of_methodNamed B.named
  have hlocks := B.notSynchronized
  subst hsz
  have hD := hD0.self (sz := s.heap.size)
  generalize hAe : va_A (cw_P_sides a_this a_colours c_width c_height) s.heap.size = A at hD ⊢
  have hA : ∀ q : Nat, s.heap.size ≤ q → A q := fun q h => by rw [← hAe]; exact Or.inr h
  have hS : va_S A s.heap s.heap [] := va_S.rf
  clear hD0
  generalize hQf : MQ below (qq_P_sides dC dI cI cB cJ cZ a_this a_colours c_width c_height A post) ([.ref a_this] : List Value).toArray s 0 0 A = Qf
  have hl := lv_entry ([.ref a_this]) (n := 1) (Nat.le_of_ble_eq_true rfl)
  rw [lg_entry_eq]
  generalize (lg_sl ([.ref a_this]) ++ List.replicate (1 - (lg_sl ([.ref a_this])).length) Slot.unset).toArray = ls at hl ⊢
  have hl : lv_has ls 1 [(0, .ref a_this)] := hl
  unfold wp_P_sides at h
  refine lv_aload_n hx hb d_P_sides_0 rfl (lv_at hl 0 rfl) ?_
  refine va_get (D := (dC, dI)) (ci := 1) (v := .int c_width) (C := R_P) (T := F_P) (N := 3) hx hb hts i_P_in hown hK hP 0 rfl rfl 0 (by decide) (hts _ q_36) (fun _ h9 => h9) rfl d_P_sides_1 ?_
  refine lv_aload_n hx hb d_P_sides_4 rfl (lv_at hl 0 rfl) ?_
  refine va_get (D := (dC, dI)) (ci := 1) (v := .int c_height) (C := R_P) (T := F_P) (N := 3) hx hb hts i_P_in hown hK hP 0 rfl rfl 1 (by decide) (hts _ q_39) (fun _ h9 => h9) rfl d_P_sides_5 ?_
  refine lv_iconst (v := 1) hx hb d_P_sides_8 (by decide) ?_
  refine lv_iadd hx hb d_P_sides_9 ?_
  refine lv_imul hx hb d_P_sides_10 ?_
  refine lv_aload_n hx hb d_P_sides_11 rfl (lv_at hl 0 rfl) ?_
  refine va_get (D := (dC, dI)) (ci := 1) (v := .int c_height) (C := R_P) (T := F_P) (N := 3) hx hb hts i_P_in hown hK hP 0 rfl rfl 1 (by decide) (hts _ q_39) (fun _ h9 => h9) rfl d_P_sides_12 ?_
  refine lv_aload_n hx hb d_P_sides_15 rfl (lv_at hl 0 rfl) ?_
  refine va_get (D := (dC, dI)) (ci := 1) (v := .int c_width) (C := R_P) (T := F_P) (N := 3) hx hb hts i_P_in hown hK hP 0 rfl rfl 0 (by decide) (hts _ q_36) (fun _ h9 => h9) rfl d_P_sides_16 ?_
  refine lv_iconst (v := 1) hx hb d_P_sides_19 (by decide) ?_
  refine lv_iadd hx hb d_P_sides_20 ?_
  refine lv_imul hx hb d_P_sides_21 ?_
  refine lv_iadd hx hb d_P_sides_22 ?_
  subst hQf
  exact W.iret (v := ((c_width * (c_height + (1 : Int32))) + (c_height * (c_width + (1 : Int32))))) hx hb hr (fun t ht hW => ⟨⟨((c_width * (c_height + (1 : Int32))) + (c_height * (c_width + (1 : Int32)))), (), rfl, h, by rw [ht]; exact hP, va_K.moved hW.alike hK, hD⟩, hS.F ht⟩) hS.2.2 d_P_sides_23
