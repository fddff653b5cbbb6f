def wp_Ja_fill_L5 (n_p0 : Nat) (x1 : Int32) (x3 : Int32) (post : (Nat → Int32) → Prop) (back5 : (Int32 × (Nat → Int32)) → Prop) (x2 : Int32) (f_p0 : Nat → Int32) : Prop :=
  (x3 ≤ x2 → post f_p0) ∧ (¬ x3 ≤ x2 → vp_in x2 n_p0 ∧ ∀ f13 : Nat → Int32, f13 = upd f_p0 x2.toNatClampNeg (vp_nar .byte x1) → ∀ x2_14 : Int32, x2_14 = x2 + (1 : Int32) → back5 (x2_14, f13))
def wp_Ja_fill (n_p0 : Nat) (f_p0 : Nat → Int32) (x1 : Int32) (post : (Nat → Int32) → Prop) : Prop :=
  ∀ x3_4 : Int32, x3_4 = (Int32.ofNat n_p0) → lpW (fun b z => wp_Ja_fill_L5 n_p0 x1 x3_4 post b z.1 z.2) ((0 : Int32), f_p0)
abbrev cw_Ja_fill (cB : ClassId) (a_p0 : Nat) (n_p0 : Nat) (f_p0 : Nat → Int32) : va_W := [(a_p0, .inl (cB, n_p0, .inl f_p0))]
abbrev qq_Ja_fill (dC : Nat → ClassId) (dI : Nat → Nat → Nat) (cI cB cJ cZ : ClassId) (a_p0 : Nat) (n_p0 : Nat) (A : Nat → Prop) (post : (Nat → Int32) → Prop) : Array Value → State → Outcome → State → Prop := va_Qv post (fun u t => va_P (dC, dI) vwCl (cw_Ja_fill cB a_p0 n_p0 u) t.heap ∧ va_K (dC, dI) vwCl [(cI, .int), (cB, .byte), (cJ, .long), (cZ, .boolean)] t ∧ va_D A (cw_Ja_fill cB a_p0 n_p0 u)) A
set_option maxHeartbeats 4000000 in
set_option maxRecDepth 100000 in
theorem c_Ja_fill (l : Launch) (dC : Nat → ClassId) (dI : Nat → Nat → Nat) (cI cB cJ cZ : ClassId) (a_p0 : Nat) (sz : Nat) (n_p0 : Nat) (f_p0 : Nat → Int32) (x1 : Int32) (post : (Nat → Int32) → Prop) (h : wp_Ja_fill n_p0 f_p0 x1 post) : Met l y_Ja_fill w_Ja_fill ({ frames := 0, cells := 0, slots := 0, locals := 0 }) (va_Pc [.ref a_p0, .int x1] (fun U => U.heap.size = sz ∧ va_P (dC, dI) vwCl (cw_Ja_fill cB a_p0 n_p0 f_p0) U.heap ∧ va_K (dC, dI) vwCl [(cI, .int), (cB, .byte), (cJ, .long), (cZ, .boolean)] U ∧ va_D (fun _ => True) (cw_Ja_fill cB a_p0 n_p0 f_p0))) (qq_Ja_fill dC dI cI cB cJ cZ a_p0 n_p0 (va_A (cw_Ja_fill cB a_p0 n_p0 f_p0) sz) post) 0 0 (va_A (cw_Ja_fill cB a_p0 n_p0 f_p0) sz) := by
  refine va_MetF (cc := b_Ja_fill) (maxL := 4) (ret := none) (by decide +kernel) rfl ?_
  intro p e s m args below meth c s₁ B hml hv
  obtain ⟨rfl, hsz, hP, hK, hD0⟩ := hv
  have hx := B.exec
  have hb := B.bytes
  have hr := B.returns
  have hts : ∀ w ∈ allW, w.before _ s = true := fun w hw => atoms_spec (ws := w_Ja_fill) B.pre w (List.mem_cons_of_mem _ hw)
  have hown : s.vm.findClass R_Ja = some m.cls := findClass_of_methodNamed B.named
  have hlocks := B.notSynchronized
  subst hsz
  have hD := hD0.self (sz := s.heap.size)
  generalize hAe : va_A (cw_Ja_fill cB a_p0 n_p0 f_p0) s.heap.size = A at hD ⊢
  have hA : ∀ q : Nat, s.heap.size ≤ q → A q := fun q h => by rw [← hAe]; exact Or.inr h
  have hS : va_S A s.heap s.heap [] := va_S.rf
  clear hD0
  generalize hQf : MQ below (qq_Ja_fill dC dI cI cB cJ cZ a_p0 n_p0 A post) ([.ref a_p0, .int x1] : List Value).toArray s 0 0 A = Qf
  have hl := lv_entry ([.ref a_p0, .int x1]) (n := 4) (Nat.le_of_ble_eq_true rfl)
  rw [lg_entry_eq]
  generalize (lg_sl ([.ref a_p0, .int x1]) ++ List.replicate (4 - (lg_sl ([.ref a_p0, .int x1])).length) Slot.unset).toArray = ls at hl ⊢
  have hl : lv_has ls 4 [(0, .ref a_p0), (1, .int x1)] := hl
  unfold wp_Ja_fill at h
  refine lv_iconst (v := 0) hx hb d_Ja_fill_0 (by decide) ?_
  refine lv_istore_n (lv' := [(2, .int (0 : Int32)), (0, .ref a_p0), (1, .int x1)]) hx hb d_Ja_fill_1 rfl hl (by decide) rfl (fun ls hl => ?_)
  refine lv_aload_n hx hb d_Ja_fill_2 rfl (lv_at hl 1 rfl) ?_
  refine va_alen hx hb hK hP 0 1 rfl rfl (v := (Int32.ofNat n_p0)) rfl d_Ja_fill_3 ?_
  refine lv_topi (fun x3_4 e_x3_4 => ?_)
  have h := h x3_4 e_x3_4
  refine lv_istore_n (lv' := [(3, .int x3_4), (2, .int (0 : Int32)), (0, .ref a_p0), (1, .int x1)]) hx hb d_Ja_fill_4 rfl hl (by decide) rfl (fun ls hl => ?_)
  refine lpW_ind (Wp := fun z => ∀ (H : Heap) (locs : List Loc) (ls : Array Slot), va_P (dC, dI) vwCl (cw_Ja_fill cB a_p0 n_p0 z.2) H → va_D A (cw_Ja_fill cB a_p0 n_p0 z.2) → va_S A s.heap H locs → lv_has ls 4 [(0, .ref a_p0), (1, .int x1), (2, .int z.1), (3, .int x3_4)] → W p l e (headSpec w_Ja_fill ({ frames := 0, cells := 0, slots := 0, locals := 0 })).room s m ([.ref a_p0, .int x1] : List Value).toArray below meth c H locs 0 0 Qf (F0 m 5 ls [])) h ?_ _ _ _ hP hD hS (lv_sub hl [2, 3, 1, 0] rfl)
  rintro ⟨x2_l5, f_p0_l5⟩ back5 h hb5 H locs ls hP hD hS hl
  have h : wp_Ja_fill_L5 n_p0 x1 x3_4 post back5 x2_l5 f_p0_l5 := h
  have hP : va_P (dC, dI) vwCl (cw_Ja_fill cB a_p0 n_p0 f_p0_l5) H := hP
  have hD : va_D A (cw_Ja_fill cB a_p0 n_p0 f_p0_l5) := hD
  have hl : lv_has ls 4 [(0, .ref a_p0), (1, .int x1), (2, .int x2_l5), (3, .int x3_4)] := hl
  unfold wp_Ja_fill_L5 at h
  refine lv_iload_n hx hb d_Ja_fill_5 rfl (lv_at hl 2 rfl) ?_
  refine lv_iload_n hx hb d_Ja_fill_6 rfl (lv_at hl 3 rfl) ?_
  refine lv_icmp_ge (tgt := 20) hx hb d_Ja_fill_7 (by decide) (fun cc_ => ?_) (fun cc_ => ?_)
  · have h := h.1 cc_
    subst hQf
    exact W.vret hx hb hr (fun t ht hW => ⟨⟨f_p0_l5, rfl, h, by rw [ht]; exact hP, va_K.moved hW.alike hK, hD⟩, hS.F ht⟩) hS.2.2 d_Ja_fill_20
  · have h := h.2 cc_
    refine lv_aload_n hx hb d_Ja_fill_10 rfl (lv_at hl 0 rfl) ?_
    refine lv_iload_n hx hb d_Ja_fill_11 rfl (lv_at hl 2 rfl) ?_
    refine lv_iload_n hx hb d_Ja_fill_12 rfl (lv_at hl 1 rfl) ?_
    obtain ⟨hin, h⟩ := h
    refine va_bast hx hb hK hP hD hS 0 1 rfl rfl hin d_Ja_fill_13 (fun H locs hP hD hS => ?_)
    obtain ⟨f13, e_f13⟩ : ∃ y : Nat → Int32, y = upd f_p0_l5 x2_l5.toNatClampNeg (vp_nar .byte x1) := ⟨_, rfl⟩
    have h := h f13 e_f13
    have hP : va_P (dC, dI) vwCl (cw_Ja_fill cB a_p0 n_p0 f13) H := by rw [e_f13]; exact hP
    have hD : va_D A (cw_Ja_fill cB a_p0 n_p0 f13) := by rw [e_f13]; exact hD
    obtain ⟨x2_14, e_x2_14⟩ : ∃ y : Int32, y = x2_l5 + (1 : Int32) := ⟨_, rfl⟩
    have h := h x2_14 e_x2_14
    refine lv_iinc (v := x2_14) (lv' := [(2, .int x2_14), (0, .ref a_p0), (1, .int x1), (3, .int x3_4)]) hx hb d_Ja_fill_14 hl (k := 2) rfl (by rw [e_x2_14]; rfl) (by decide) rfl (fun ls hl => ?_)
    refine lv_goto (tgt := 5) hx hb d_Ja_fill_17 (by decide) ?_
    exact hb5 _ h _ _ _ hP hD hS (lv_sub hl [1, 2, 0, 3] rfl)
def wp_Jm_floorMod (x0 : Int32) (x1 : Int32) (post : Int32 → Unit → Prop) : Prop :=
  ¬ x1 = 0 ∧ ∀ x2_3 : Int32, x2_3 = (x0 - x0 / x1 * x1) → (0 ≤ (x0 ^^^ x1) → post x2_3 ()) ∧ (¬ 0 ≤ (x0 ^^^ x1) → (x2_3 = 0 → post x2_3 ()) ∧ (¬ x2_3 = 0 → post (x2_3 + x1) ()))
abbrev cw_Jm_floorMod  : va_W := []
abbrev qq_Jm_floorMod (dC : Nat → ClassId) (dI : Nat → Nat → Nat) (cI cB cJ cZ : ClassId) (A : Nat → Prop) (post : Int32 → Unit → Prop) : Array Value → State → Outcome → State → Prop := va_Qi post (fun _ t => va_P (dC, dI) vwCl (cw_Jm_floorMod) t.heap ∧ va_K (dC, dI) vwCl [(cI, .int), (cB, .byte), (cJ, .long), (cZ, .boolean)] t ∧ va_D A (cw_Jm_floorMod)) A
set_option maxHeartbeats 4000000 in
set_option maxRecDepth 100000 in
theorem c_Jm_floorMod (l : Launch) (dC : Nat → ClassId) (dI : Nat → Nat → Nat) (cI cB cJ cZ : ClassId) (sz : Nat) (x0 : Int32) (x1 : Int32) (post : Int32 → Unit → Prop) (h : wp_Jm_floorMod x0 x1 post) : Met l y_Jm_floorMod w_Jm_floorMod ({ frames := 0, cells := 0, slots := 0, locals := 0 }) (va_Pc [.int x0, .int x1] (fun U => U.heap.size = sz ∧ va_P (dC, dI) vwCl (cw_Jm_floorMod) U.heap ∧ va_K (dC, dI) vwCl [(cI, .int), (cB, .byte), (cJ, .long), (cZ, .boolean)] U ∧ va_D (fun _ => True) (cw_Jm_floorMod))) (qq_Jm_floorMod dC dI cI cB cJ cZ (va_A (cw_Jm_floorMod) sz) post) 0 0 (va_A (cw_Jm_floorMod) sz) := by
  refine va_MetF (cc := b_Jm_floorMod) (maxL := 3) (ret := (some .int)) (by decide +kernel) rfl ?_
  intro p e s m args below meth c s₁ B hml hv
  obtain ⟨rfl, hsz, hP, hK, hD0⟩ := hv
  have hx := B.exec
  have hb := B.bytes
  have hr := B.returns
  have hts : ∀ w ∈ allW, w.before _ s = true := fun w hw => atoms_spec (ws := w_Jm_floorMod) B.pre w (List.mem_cons_of_mem _ hw)
  have hown : s.vm.findClass R_Jm = some m.cls := findClass_of_methodNamed B.named
  have hlocks := B.notSynchronized
  subst hsz
  have hD := hD0.self (sz := s.heap.size)
  generalize hAe : va_A (cw_Jm_floorMod) s.heap.size = A at hD ⊢
  have hA : ∀ q : Nat, s.heap.size ≤ q → A q := fun q h => by rw [← hAe]; exact Or.inr h
  have hS : va_S A s.heap s.heap [] := va_S.rf
  clear hD0
  generalize hQf : MQ below (qq_Jm_floorMod dC dI cI cB cJ cZ A post) ([.int x0, .int x1] : List Value).toArray s 0 0 A = Qf
  have hl := lv_entry ([.int x0, .int x1]) (n := 3) (Nat.le_of_ble_eq_true rfl)
  rw [lg_entry_eq]
  generalize (lg_sl ([.int x0, .int x1]) ++ List.replicate (3 - (lg_sl ([.int x0, .int x1])).length) Slot.unset).toArray = ls at hl ⊢
  have hl : lv_has ls 3 [(0, .int x0), (1, .int x1)] := hl
  unfold wp_Jm_floorMod at h
  refine lv_iload_n hx hb d_Jm_floorMod_0 rfl (lv_at hl 0 rfl) ?_
  refine lv_iload_n hx hb d_Jm_floorMod_1 rfl (lv_at hl 1 rfl) ?_
  obtain ⟨hne, h⟩ := h
  refine lv_irem hx hb d_Jm_floorMod_2 hne ?_
  refine lv_topi (fun x2_3 e_x2_3 => ?_)
  have h := h x2_3 e_x2_3
  refine lv_istore_n (lv' := [(2, .int x2_3), (0, .int x0), (1, .int x1)]) hx hb d_Jm_floorMod_3 rfl hl (by decide) rfl (fun ls hl => ?_)
  refine lv_iload_n hx hb d_Jm_floorMod_4 rfl (lv_at hl 1 rfl) ?_
  refine lv_iload_n hx hb d_Jm_floorMod_5 rfl (lv_at hl 2 rfl) ?_
  refine lv_ixor hx hb d_Jm_floorMod_6 ?_
  refine lv_if_ge (tgt := 18) hx hb d_Jm_floorMod_7 (by decide) (fun cc_ => ?_) (fun cc_ => ?_)
  · have h := h.1 cc_
    refine lv_iload_n hx hb d_Jm_floorMod_18 rfl (lv_at hl 0 rfl) ?_
    subst hQf
    exact W.iret (v := x2_3) hx hb hr (fun t ht hW => ⟨⟨x2_3, (), rfl, h, by rw [ht]; exact hP, va_K.moved hW.alike hK, hD⟩, hS.F ht⟩) hS.2.2 d_Jm_floorMod_19
  · have h := h.2 cc_
    refine lv_iload_n hx hb d_Jm_floorMod_10 rfl (lv_at hl 0 rfl) ?_
    refine lv_if_eq (tgt := 18) hx hb d_Jm_floorMod_11 (by decide) (fun cc_ => ?_) (fun cc_ => ?_)
    · have h := h.1 cc_
      refine lv_iload_n hx hb d_Jm_floorMod_18 rfl (lv_at hl 0 rfl) ?_
      subst hQf
      exact W.iret (v := x2_3) hx hb hr (fun t ht hW => ⟨⟨x2_3, (), rfl, h, by rw [ht]; exact hP, va_K.moved hW.alike hK, hD⟩, hS.F ht⟩) hS.2.2 d_Jm_floorMod_19
    · have h := h.2 cc_
      refine lv_iload_n hx hb d_Jm_floorMod_14 rfl (lv_at hl 0 rfl) ?_
      refine lv_iload_n hx hb d_Jm_floorMod_15 rfl (lv_at hl 2 rfl) ?_
      refine lv_iadd hx hb d_Jm_floorMod_16 ?_
      subst hQf
      exact W.iret (v := (x2_3 + x1)) hx hb hr (fun t ht hW => ⟨⟨(x2_3 + x1), (), rfl, h, by rw [ht]; exact hP, va_K.moved hW.alike hK, hD⟩, hS.F ht⟩) hS.2.2 d_Jm_floorMod_17
def wp_Ji_compare (x0 : Int32) (x1 : Int32) (post : Int32 → Unit → Prop) : Prop :=
  (x1 ≤ x0 → (¬ x0 = x1 → post (1 : Int32) ()) ∧ (x0 = x1 → post (0 : Int32) ())) ∧ (¬ x1 ≤ x0 → post (-1 : Int32) ())
abbrev cw_Ji_compare  : va_W := []
abbrev qq_Ji_compare (dC : Nat → ClassId) (dI : Nat → Nat → Nat) (cI cB cJ cZ : ClassId) (A : Nat → Prop) (post : Int32 → Unit → Prop) : Array Value → State → Outcome → State → Prop := va_Qi post (fun _ t => va_P (dC, dI) vwCl (cw_Ji_compare) t.heap ∧ va_K (dC, dI) vwCl [(cI, .int), (cB, .byte), (cJ, .long), (cZ, .boolean)] t ∧ va_D A (cw_Ji_compare)) A
set_option maxHeartbeats 4000000 in
set_option maxRecDepth 100000 in
theorem c_Ji_compare (l : Launch) (dC : Nat → ClassId) (dI : Nat → Nat → Nat) (cI cB cJ cZ : ClassId) (sz : Nat) (x0 : Int32) (x1 : Int32) (post : Int32 → Unit → Prop) (h : wp_Ji_compare x0 x1 post) : Met l y_Ji_compare w_Ji_compare ({ frames := 0, cells := 0, slots := 0, locals := 0 }) (va_Pc [.int x0, .int x1] (fun U => U.heap.size = sz ∧ va_P (dC, dI) vwCl (cw_Ji_compare) U.heap ∧ va_K (dC, dI) vwCl [(cI, .int), (cB, .byte), (cJ, .long), (cZ, .boolean)] U ∧ va_D (fun _ => True) (cw_Ji_compare))) (qq_Ji_compare dC dI cI cB cJ cZ (va_A (cw_Ji_compare) sz) post) 0 0 (va_A (cw_Ji_compare) sz) := by
  refine va_MetF (cc := b_Ji_compare) (maxL := 2) (ret := (some .int)) (by decide +kernel) rfl ?_
  intro p e s m args below meth c s₁ B hml hv
  obtain ⟨rfl, hsz, hP, hK, hD0⟩ := hv
  have hx := B.exec
  have hb := B.bytes
  have hr := B.returns
  have hts : ∀ w ∈ allW, w.before _ s = true := fun w hw => atoms_spec (ws := w_Ji_compare) B.pre w (List.mem_cons_of_mem _ hw)
  have hown : s.vm.findClass R_Ji = some m.cls := findClass_of_methodNamed B.named
  have hlocks := B.notSynchronized
  subst hsz
  have hD := hD0.self (sz := s.heap.size)
  generalize hAe : va_A (cw_Ji_compare) s.heap.size = A at hD ⊢
  have hA : ∀ q : Nat, s.heap.size ≤ q → A q := fun q h => by rw [← hAe]; exact Or.inr h
  have hS : va_S A s.heap s.heap [] := va_S.rf
  clear hD0
  generalize hQf : MQ below (qq_Ji_compare dC dI cI cB cJ cZ A post) ([.int x0, .int x1] : List Value).toArray s 0 0 A = Qf
  have hl := lv_entry ([.int x0, .int x1]) (n := 2) (Nat.le_of_ble_eq_true rfl)
  rw [lg_entry_eq]
  generalize (lg_sl ([.int x0, .int x1]) ++ List.replicate (2 - (lg_sl ([.int x0, .int x1])).length) Slot.unset).toArray = ls at hl ⊢
  have hl : lv_has ls 2 [(0, .int x0), (1, .int x1)] := hl
  unfold wp_Ji_compare at h
  refine lv_iload_n hx hb d_Ji_compare_0 rfl (lv_at hl 0 rfl) ?_
  refine lv_iload_n hx hb d_Ji_compare_1 rfl (lv_at hl 1 rfl) ?_
  refine lv_icmp_ge (tgt := 9) hx hb d_Ji_compare_2 (by decide) (fun cc_ => ?_) (fun cc_ => ?_)
  · have h := h.1 cc_
    refine lv_iload_n hx hb d_Ji_compare_9 rfl (lv_at hl 0 rfl) ?_
    refine lv_iload_n hx hb d_Ji_compare_10 rfl (lv_at hl 1 rfl) ?_
    refine lv_icmp_ne (tgt := 18) hx hb d_Ji_compare_11 (by decide) (fun cc_ => ?_) (fun cc_ => ?_)
    · have h := h.1 cc_
      refine lv_iconst (v := 1) hx hb d_Ji_compare_18 (by decide) ?_
      subst hQf
      exact W.iret (v := (1 : Int32)) hx hb hr (fun t ht hW => ⟨⟨(1 : Int32), (), rfl, h, by rw [ht]; exact hP, va_K.moved hW.alike hK, hD⟩, hS.F ht⟩) hS.2.2 d_Ji_compare_19
    · have h := h.2 cc_
      refine lv_iconst (v := 0) hx hb d_Ji_compare_14 (by decide) ?_
      refine lv_goto (tgt := 19) hx hb d_Ji_compare_15 (by decide) ?_
      subst hQf
      exact W.iret (v := (0 : Int32)) hx hb hr (fun t ht hW => ⟨⟨(0 : Int32), (), rfl, h, by rw [ht]; exact hP, va_K.moved hW.alike hK, hD⟩, hS.F ht⟩) hS.2.2 d_Ji_compare_19
  · have h := h.2 cc_
    refine lv_iconst (v := -1) hx hb d_Ji_compare_5 (by decide) ?_
    refine lv_goto (tgt := 19) hx hb d_Ji_compare_6 (by decide) ?_
    subst hQf
    exact W.iret (v := (-1 : Int32)) hx hb hr (fun t ht hW => ⟨⟨(-1 : Int32), (), rfl, h, by rw [ht]; exact hP, va_K.moved hW.alike hK, hD⟩, hS.F ht⟩) hS.2.2 d_Ji_compare_19
