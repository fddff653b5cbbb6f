def wp_C_forget (c_count : Int32) (post : Int32 → Prop) : Prop :=
  post (0 : Int32)
abbrev cw_C_forget (a_this a_polygon a_fewest a_takenLengths a_takenPulls a_firsts a_lengths a_pulls a_handX a_handY : Nat) (c_count : Int32) : va_W := [(a_this, .inr (4, [.ref a_polygon, .ref a_fewest, .ref a_takenLengths, .ref a_takenPulls, .ref a_firsts, .ref a_lengths, .ref a_pulls, .ref a_handX, .ref a_handY, .int c_count]))]
abbrev qq_C_forget (dC : Nat → ClassId) (dI : Nat → Nat → Nat) (cI cB cJ cZ : ClassId) (a_this a_polygon a_fewest a_takenLengths a_takenPulls a_firsts a_lengths a_pulls a_handX a_handY : Nat) (A : Nat → Prop) (post : Int32 → Prop) : Array Value → State → Outcome → State → Prop := va_Qv post (fun u t => va_P (dC, dI) vwCl (cw_C_forget a_this a_polygon a_fewest a_takenLengths a_takenPulls a_firsts a_lengths a_pulls a_handX a_handY u) t.heap ∧ va_K (dC, dI) vwCl [(cI, .int), (cB, .byte), (cJ, .long), (cZ, .boolean)] t ∧ va_D A (cw_C_forget a_this a_polygon a_fewest a_takenLengths a_takenPulls a_firsts a_lengths a_pulls a_handX a_handY u)) A
set_option maxHeartbeats 4000000 in
set_option maxRecDepth 100000 in
theorem c_C_forget (l : Launch) (dC : Nat → ClassId) (dI : Nat → Nat → Nat) (cI cB cJ cZ : ClassId) (a_this a_polygon a_fewest a_takenLengths a_takenPulls a_firsts a_lengths a_pulls a_handX a_handY : Nat) (sz : Nat) (c_count : Int32) (post : Int32 → Prop) (h : wp_C_forget c_count post) : Met l y_C_forget w_C_forget ({ frames := 0, cells := 0, slots := 0, locals := 0 }) (va_Pc [.ref a_this] (fun U => U.heap.size = sz ∧ va_P (dC, dI) vwCl (cw_C_forget a_this a_polygon a_fewest a_takenLengths a_takenPulls a_firsts a_lengths a_pulls a_handX a_handY c_count) U.heap ∧ va_K (dC, dI) vwCl [(cI, .int), (cB, .byte), (cJ, .long), (cZ, .boolean)] U ∧ va_D (fun _ => True) (cw_C_forget a_this a_polygon a_fewest a_takenLengths a_takenPulls a_firsts a_lengths a_pulls a_handX a_handY c_count))) (qq_C_forget dC dI cI cB cJ cZ a_this a_polygon a_fewest a_takenLengths a_takenPulls a_firsts a_lengths a_pulls a_handX a_handY (va_A (cw_C_forget a_this a_polygon a_fewest a_takenLengths a_takenPulls a_firsts a_lengths a_pulls a_handX a_handY c_count) sz) post) 0 0 (va_A (cw_C_forget a_this a_polygon a_fewest a_takenLengths a_takenPulls a_firsts a_lengths a_pulls a_handX a_handY c_count) sz) := by
  refine Met.ofW (cc := b_C_forget) (maxL := 1) (ret := none) (by decide +kernel) rfl ?_
  intro p e s m args below meth c s₁ B hml hv
  obtain ⟨rfl, hsz, hP, hK, hD0⟩ := hv
  have hx := B.exec
  have hb := B.bytes
  have hr := B.returns
  have hts : ∀ w ∈ allW, w.before _ s = true := fun w hw => atoms_spec (ws := w_C_forget) B.pre w (List.mem_cons_of_mem _ hw)
  have hown : s.vm.findClass R_C = some m.cls := findClass_of_methodNamed B.named
  have hlocks := B.notSynchronized
  subst hsz
  have hD := hD0.self (sz := s.heap.size)
  generalize hAe : va_A (cw_C_forget a_this a_polygon a_fewest a_takenLengths a_takenPulls a_firsts a_lengths a_pulls a_handX a_handY c_count) s.heap.size = A at hD ⊢
  have hA : ∀ q : Nat, s.heap.size ≤ q → A q := fun q h => by rw [← hAe]; exact Or.inr h
  have hS : va_S A s.heap s.heap [] := va_S.rf
  clear hD0
  generalize hQf : MQ below (qq_C_forget dC dI cI cB cJ cZ a_this a_polygon a_fewest a_takenLengths a_takenPulls a_firsts a_lengths a_pulls a_handX a_handY A post) ([.ref a_this] : List Value).toArray s 0 0 A = Qf
  have hl := lv_entry ([.ref a_this]) (n := 1) (Nat.le_of_ble_eq_true rfl)
  rw [lg_entry_eq]
  generalize (lg_sl ([.ref a_this]) ++ List.replicate (1 - (lg_sl ([.ref a_this])).length) Slot.unset).toArray = ls at hl ⊢
  have hl : lv_has ls 1 [(0, .ref a_this)] := hl
  unfold wp_C_forget at h
  refine lv_aload_n hx hb d_C_forget_0 rfl (lv_at hl 0 rfl) ?_
  refine lv_iconst (v := 0) hx hb d_C_forget_1 (by decide) ?_
  refine va_put (D := (dC, dI)) (ci := 4) (v := .int (0 : Int32)) (ty := .int) (C := R_C) (T := F_C) (N := 10) hx hb hts i_C_in t_C t_C_ok n_C_ne hown hK hP hD hS 0 rfl rfl 9 (by decide) (hts _ q_171) (fun _ h9 => h9) rfl (by decide +kernel) (by rfl) (by rfl) (Nat.le_of_ble_eq_true rfl) d_C_forget_2 (fun H locs hP hD hS => ?_)
  have hP : va_P (dC, dI) vwCl (cw_C_forget a_this a_polygon a_fewest a_takenLengths a_takenPulls a_firsts a_lengths a_pulls a_handX a_handY (0 : Int32)) H := hP
  have hD : va_D A (cw_C_forget a_this a_polygon a_fewest a_takenLengths a_takenPulls a_firsts a_lengths a_pulls a_handX a_handY (0 : Int32)) := hD
  subst hQf
  exact W.vret hx hb hr (fun t ht hW => ⟨⟨(0 : Int32), rfl, h, by rw [ht]; exact hP, va_K.moved hW.alike hK, hD⟩, hS.F ht⟩) hS.2.2 d_C_forget_5
def wp_C_firstSharp_L2 (n_polygon_angles : Nat) (c_polygon_count : Int32) (f_polygon_angles : Nat → Int32) (x1 : Int32) (post : Int32 → Unit → Prop) (back2 : Int32 → Prop) (x2 : Int32) : Prop :=
  (c_polygon_count ≤ x2 → post (0 : Int32) ()) ∧ (¬ c_polygon_count ≤ x2 → vp_in x2 n_polygon_angles ∧ ((f_polygon_angles x2.toNatClampNeg) < x1 → ∀ x2_28 : Int32, x2_28 = x2 + (1 : Int32) → back2 x2_28) ∧ (¬ (f_polygon_angles x2.toNatClampNeg) < x1 → post x2 ()))
def wp_C_firstSharp (n_polygon_angles : Nat) (c_polygon_count : Int32) (f_polygon_angles : Nat → Int32) (x1 : Int32) (post : Int32 → Unit → Prop) : Prop :=
  lpW (fun b z => wp_C_firstSharp_L2 n_polygon_angles c_polygon_count f_polygon_angles x1 post b z) (0 : Int32)
abbrev cw_C_firstSharp (cI : ClassId) (a_this a_polygon a_polygon_angles a_fewest a_takenLengths a_takenPulls a_firsts a_lengths a_pulls a_handX a_handY a_polygon_outlines a_polygon_costs a_polygon_rest a_polygon_restByTwo a_polygon_points a_polygon_xs a_polygon_ys a_polygon_turns : Nat) (n_polygon_angles : Nat) (c_count : Int32) (c_polygon_count : Int32) (c_polygon_cost : Int32) (f_polygon_angles : Nat → Int32) : va_W := [(a_this, .inr (4, [.ref a_polygon, .ref a_fewest, .ref a_takenLengths, .ref a_takenPulls, .ref a_firsts, .ref a_lengths, .ref a_pulls, .ref a_handX, .ref a_handY, .int c_count])), (a_polygon, .inr (3, [.ref a_polygon_outlines, .ref a_polygon_costs, .ref a_polygon_rest, .ref a_polygon_restByTwo, .ref a_polygon_points, .ref a_polygon_xs, .ref a_polygon_ys, .ref a_polygon_angles, .ref a_polygon_turns, .int c_polygon_count, .int c_polygon_cost])), (a_polygon_angles, .inl (cI, n_polygon_angles, .inl f_polygon_angles))]
abbrev qq_C_firstSharp (dC : Nat → ClassId) (dI : Nat → Nat → Nat) (cI cB cJ cZ : ClassId) (a_this a_polygon a_polygon_angles a_fewest a_takenLengths a_takenPulls a_firsts a_lengths a_pulls a_handX a_handY a_polygon_outlines a_polygon_costs a_polygon_rest a_polygon_restByTwo a_polygon_points a_polygon_xs a_polygon_ys a_polygon_turns : Nat) (n_polygon_angles : Nat) (c_count : Int32) (c_polygon_count : Int32) (c_polygon_cost : Int32) (f_polygon_angles : Nat → Int32) (A : Nat → Prop) (post : Int32 → Unit → Prop) : Array Value → State → Outcome → State → Prop := va_Qi post (fun _ t => va_P (dC, dI) vwCl (cw_C_firstSharp cI a_this a_polygon a_polygon_angles a_fewest a_takenLengths a_takenPulls a_firsts a_lengths a_pulls a_handX a_handY a_polygon_outlines a_polygon_costs a_polygon_rest a_polygon_restByTwo a_polygon_points a_polygon_xs a_polygon_ys a_polygon_turns n_polygon_angles c_count c_polygon_count c_polygon_cost f_polygon_angles) t.heap ∧ va_K (dC, dI) vwCl [(cI, .int), (cB, .byte), (cJ, .long), (cZ, .boolean)] t ∧ va_D A (cw_C_firstSharp cI a_this a_polygon a_polygon_angles a_fewest a_takenLengths a_takenPulls a_firsts a_lengths a_pulls a_handX a_handY a_polygon_outlines a_polygon_costs a_polygon_rest a_polygon_restByTwo a_polygon_points a_polygon_xs a_polygon_ys a_polygon_turns n_polygon_angles c_count c_polygon_count c_polygon_cost f_polygon_angles)) A
set_option maxHeartbeats 4000000 in
set_option maxRecDepth 100000 in
theorem c_C_firstSharp (l : Launch) (dC : Nat → ClassId) (dI : Nat → Nat → Nat) (cI cB cJ cZ : ClassId) (a_this a_polygon a_polygon_angles a_fewest a_takenLengths a_takenPulls a_firsts a_lengths a_pulls a_handX a_handY a_polygon_outlines a_polygon_costs a_polygon_rest a_polygon_restByTwo a_polygon_points a_polygon_xs a_polygon_ys a_polygon_turns : Nat) (sz : Nat) (n_polygon_angles : Nat) (c_count : Int32) (c_polygon_count : Int32) (c_polygon_cost : Int32) (f_polygon_angles : Nat → Int32) (x1 : Int32) (post : Int32 → Unit → Prop) (h : wp_C_firstSharp n_polygon_angles c_polygon_count f_polygon_angles x1 post) : Met l y_C_firstSharp w_C_firstSharp ({ frames := 0, cells := 0, slots := 0, locals := 0 }) (va_Pc [.ref a_this, .int x1] (fun U => U.heap.size = sz ∧ va_P (dC, dI) vwCl (cw_C_firstSharp cI a_this a_polygon a_polygon_angles a_fewest a_takenLengths a_takenPulls a_firsts a_lengths a_pulls a_handX a_handY a_polygon_outlines a_polygon_costs a_polygon_rest a_polygon_restByTwo a_polygon_points a_polygon_xs a_polygon_ys a_polygon_turns n_polygon_angles c_count c_polygon_count c_polygon_cost f_polygon_angles) U.heap ∧ va_K (dC, dI) vwCl [(cI, .int), (cB, .byte), (cJ, .long), (cZ, .boolean)] U ∧ va_D (fun _ => True) (cw_C_firstSharp cI a_this a_polygon a_polygon_angles a_fewest a_takenLengths a_takenPulls a_firsts a_lengths a_pulls a_handX a_handY a_polygon_outlines a_polygon_costs a_polygon_rest a_polygon_restByTwo a_polygon_points a_polygon_xs a_polygon_ys a_polygon_turns n_polygon_angles c_count c_polygon_count c_polygon_cost f_polygon_angles))) (qq_C_firstSharp dC dI cI cB cJ cZ a_this a_polygon a_polygon_angles a_fewest a_takenLengths a_takenPulls a_firsts a_lengths a_pulls a_handX a_handY a_polygon_outlines a_polygon_costs a_polygon_rest a_polygon_restByTwo a_polygon_points a_polygon_xs a_polygon_ys a_polygon_turns n_polygon_angles c_count c_polygon_count c_polygon_cost f_polygon_angles (va_A (cw_C_firstSharp cI a_this a_polygon a_polygon_angles a_fewest a_takenLengths a_takenPulls a_firsts a_lengths a_pulls a_handX a_handY a_polygon_outlines a_polygon_costs a_polygon_rest a_polygon_restByTwo a_polygon_points a_polygon_xs a_polygon_ys a_polygon_turns n_polygon_angles c_count c_polygon_count c_polygon_cost f_polygon_angles) sz) post) 0 0 (va_A (cw_C_firstSharp cI a_this a_polygon a_polygon_angles a_fewest a_takenLengths a_takenPulls a_firsts a_lengths a_pulls a_handX a_handY a_polygon_outlines a_polygon_costs a_polygon_rest a_polygon_restByTwo a_polygon_points a_polygon_xs a_polygon_ys a_polygon_turns n_polygon_angles c_count c_polygon_count c_polygon_cost f_polygon_angles) sz) := by
  refine Met.ofW (cc := b_C_firstSharp) (maxL := 3) (ret := (some .int)) (by decide +kernel) rfl ?_
  intro p e s m args below meth c s₁ B hml hv
  obtain ⟨rfl, hsz, hP, hK, hD0⟩ := hv
  have hx := B.exec
  have hb := B.bytes
  have hr := B.returns
  have hts : ∀ w ∈ allW, w.before _ s = true := fun w hw => atoms_spec (ws := w_C_firstSharp) B.pre w (List.mem_cons_of_mem _ hw)
  have hown : s.vm.findClass R_C = some m.cls := findClass_of_methodNamed B.named
  have hlocks := B.notSynchronized
  subst hsz
  have hD := hD0.self (sz := s.heap.size)
  generalize hAe : va_A (cw_C_firstSharp cI a_this a_polygon a_polygon_angles a_fewest a_takenLengths a_takenPulls a_firsts a_lengths a_pulls a_handX a_handY a_polygon_outlines a_polygon_costs a_polygon_rest a_polygon_restByTwo a_polygon_points a_polygon_xs a_polygon_ys a_polygon_turns n_polygon_angles c_count c_polygon_count c_polygon_cost f_polygon_angles) s.heap.size = A at hD ⊢
  have hA : ∀ q : Nat, s.heap.size ≤ q → A q := fun q h => by rw [← hAe]; exact Or.inr h
  have hS : va_S A s.heap s.heap [] := va_S.rf
  clear hD0
  generalize hQf : MQ below (qq_C_firstSharp dC dI cI cB cJ cZ a_this a_polygon a_polygon_angles a_fewest a_takenLengths a_takenPulls a_firsts a_lengths a_pulls a_handX a_handY a_polygon_outlines a_polygon_costs a_polygon_rest a_polygon_restByTwo a_polygon_points a_polygon_xs a_polygon_ys a_polygon_turns n_polygon_angles c_count c_polygon_count c_polygon_cost f_polygon_angles A post) ([.ref a_this, .int x1] : List Value).toArray s 0 0 A = Qf
  have hl := lv_entry ([.ref a_this, .int x1]) (n := 3) (Nat.le_of_ble_eq_true rfl)
  rw [lg_entry_eq]
  generalize (lg_sl ([.ref a_this, .int x1]) ++ List.replicate (3 - (lg_sl ([.ref a_this, .int x1])).length) Slot.unset).toArray = ls at hl ⊢
  have hl : lv_has ls 3 [(0, .ref a_this), (1, .int x1)] := hl
  unfold wp_C_firstSharp at h
  refine lv_iconst (v := 0) hx hb d_C_firstSharp_0 (by decide) ?_
  refine lv_istore_n (lv' := [(2, .int (0 : Int32)), (0, .ref a_this), (1, .int x1)]) hx hb d_C_firstSharp_1 rfl hl (by decide) rfl (fun ls hl => ?_)
  refine lpW_ind (Wp := fun z => ∀ (H : Heap) (locs : List Loc) (ls : Array Slot), va_P (dC, dI) vwCl (cw_C_firstSharp cI a_this a_polygon a_polygon_angles a_fewest a_takenLengths a_takenPulls a_firsts a_lengths a_pulls a_handX a_handY a_polygon_outlines a_polygon_costs a_polygon_rest a_polygon_restByTwo a_polygon_points a_polygon_xs a_polygon_ys a_polygon_turns n_polygon_angles c_count c_polygon_count c_polygon_cost f_polygon_angles) H → va_D A (cw_C_firstSharp cI a_this a_polygon a_polygon_angles a_fewest a_takenLengths a_takenPulls a_firsts a_lengths a_pulls a_handX a_handY a_polygon_outlines a_polygon_costs a_polygon_rest a_polygon_restByTwo a_polygon_points a_polygon_xs a_polygon_ys a_polygon_turns n_polygon_angles c_count c_polygon_count c_polygon_cost f_polygon_angles) → va_S A s.heap H locs → lv_has ls 3 [(0, .ref a_this), (1, .int x1), (2, .int z)] → W p l e (headSpec w_C_firstSharp ({ frames := 0, cells := 0, slots := 0, locals := 0 })).room s m ([.ref a_this, .int x1] : List Value).toArray below meth c H locs 0 0 Qf (F0 m 2 ls [])) h ?_ _ _ _ hP hD hS (lv_sub hl [1, 2, 0] rfl)
  intro x2_l2 back2 h hb2 H locs ls hP hD hS hl
  have h : wp_C_firstSharp_L2 n_polygon_angles c_polygon_count f_polygon_angles x1 post back2 x2_l2 := h
  have hP : va_P (dC, dI) vwCl (cw_C_firstSharp cI a_this a_polygon a_polygon_angles a_fewest a_takenLengths a_takenPulls a_firsts a_lengths a_pulls a_handX a_handY a_polygon_outlines a_polygon_costs a_polygon_rest a_polygon_restByTwo a_polygon_points a_polygon_xs a_polygon_ys a_polygon_turns n_polygon_angles c_count c_polygon_count c_polygon_cost f_polygon_angles) H := hP
  have hD : va_D A (cw_C_firstSharp cI a_this a_polygon a_polygon_angles a_fewest a_takenLengths a_takenPulls a_firsts a_lengths a_pulls a_handX a_handY a_polygon_outlines a_polygon_costs a_polygon_rest a_polygon_restByTwo a_polygon_points a_polygon_xs a_polygon_ys a_polygon_turns n_polygon_angles c_count c_polygon_count c_polygon_cost f_polygon_angles) := hD
  have hl : lv_has ls 3 [(0, .ref a_this), (1, .int x1), (2, .int x2_l2)] := hl
  unfold wp_C_firstSharp_L2 at h
  refine lv_iload_n hx hb d_C_firstSharp_2 rfl (lv_at hl 2 rfl) ?_
  refine lv_aload_n hx hb d_C_firstSharp_3 rfl (lv_at hl 0 rfl) ?_
  refine va_get (D := (dC, dI)) (ci := 4) (v := .ref a_polygon) (C := R_C) (T := F_C) (N := 10) hx hb hts i_C_in hown hK hP 0 rfl rfl 0 (by decide) (hts _ q_159) (fun _ h9 => h9) rfl d_C_firstSharp_4 ?_
  refine va_get (D := (dC, dI)) (ci := 3) (v := .int c_polygon_count) (C := R_G) (T := F_G) (N := 11) hx hb hts i_G_in hown hK hP 1 rfl rfl 9 (by decide) (hts _ q_126) (fun _ h9 => h9) rfl d_C_firstSharp_7 ?_
  refine lv_icmp_ge (tgt := 34) hx hb d_C_firstSharp_10 (by decide) (fun cc_ => ?_) (fun cc_ => ?_)
  · have h := h.1 cc_
    refine lv_iconst (v := 0) hx hb d_C_firstSharp_34 (by decide) ?_
    subst hQf
    exact W.iret (v := (0 : Int32)) hx hb hr (fun t ht hW => ⟨⟨(0 : Int32), (), rfl, h, by rw [ht]; exact hP, va_K.moved hW.alike hK, hD⟩, hS.F ht⟩) hS.2.2 d_C_firstSharp_35
  · have h := h.2 cc_
    refine lv_aload_n hx hb d_C_firstSharp_13 rfl (lv_at hl 0 rfl) ?_
    refine va_get (D := (dC, dI)) (ci := 4) (v := .ref a_polygon) (C := R_C) (T := F_C) (N := 10) hx hb hts i_C_in hown hK hP 0 rfl rfl 0 (by decide) (hts _ q_159) (fun _ h9 => h9) rfl d_C_firstSharp_14 ?_
    refine va_get (D := (dC, dI)) (ci := 3) (v := .ref a_polygon_angles) (C := R_G) (T := F_G) (N := 11) hx hb hts i_G_in hown hK hP 1 rfl rfl 7 (by decide) (hts _ q_120) (fun _ h9 => h9) rfl d_C_firstSharp_17 ?_
    refine lv_iload_n hx hb d_C_firstSharp_20 rfl (lv_at hl 2 rfl) ?_
    obtain ⟨hin, h⟩ := h
    refine va_iald hx hb hK hP 2 0 rfl rfl hin d_C_firstSharp_21 ?_
    refine lv_iload_n hx hb d_C_firstSharp_22 rfl (lv_at hl 1 rfl) ?_
    refine lv_icmp_lt (tgt := 28) hx hb d_C_firstSharp_23 (by decide) (fun cc_ => ?_) (fun cc_ => ?_)
    · have h := h.1 cc_
      obtain ⟨x2_28, e_x2_28⟩ : ∃ y : Int32, y = x2_l2 + (1 : Int32) := ⟨_, rfl⟩
      have h := h x2_28 e_x2_28
      refine lv_iinc (v := x2_28) (lv' := [(2, .int x2_28), (0, .ref a_this), (1, .int x1)]) hx hb d_C_firstSharp_28 hl (k := 2) rfl (by rw [e_x2_28]; rfl) (by decide) rfl (fun ls hl => ?_)
      refine lv_goto (tgt := 2) hx hb d_C_firstSharp_31 (by decide) ?_
      exact hb2 _ h _ _ _ hP hD hS (lv_sub hl [1, 2, 0] rfl)
    · have h := h.2 cc_
      refine lv_iload_n hx hb d_C_firstSharp_26 rfl (lv_at hl 2 rfl) ?_
      subst hQf
      exact W.iret (v := x2_l2) hx hb hr (fun t ht hW => ⟨⟨x2_l2, (), rfl, h, by rw [ht]; exact hP, va_K.moved hW.alike hK, hD⟩, hS.F ht⟩) hS.2.2 d_C_firstSharp_27
def wp_C_joinable_L50 (n_polygon_turns n_polygon_angles : Nat) (c_polygon_count : Int32) (f_polygon_turns : Nat → Int32) (f_polygon_angles : Nat → Int32) (x2 : Int32) (x3 : Int32) (x4 : Int32) (x5 : Int32) (post : Int32 → Unit → Prop) (back50 : Int32 → Prop) (x6 : Int32) : Prop :=
  (x5 ≤ x6 → post x5 ()) ∧ (¬ x5 ≤ x6 → ∃ Q64 : Int32 → Unit → Prop, wp_G_cornerBeside c_polygon_count x2 x6 Q64 ∧ ∀ (r64 : Int32), Q64 r64 () → vp_in r64 n_polygon_turns ∧ (¬ (f_polygon_turns r64.toNatClampNeg) = x4 → post x6 ()) ∧ ((f_polygon_turns r64.toNatClampNeg) = x4 → vp_in r64 n_polygon_angles ∧ ((f_polygon_angles r64.toNatClampNeg) < x3 → ∀ x6_101 : Int32, x6_101 = x6 + (1 : Int32) → back50 x6_101) ∧ (¬ (f_polygon_angles r64.toNatClampNeg) < x3 → post x6 ())))
def wp_C_joinable (n_polygon_turns n_polygon_angles : Nat) (c_polygon_count : Int32) (f_polygon_turns : Nat → Int32) (f_polygon_angles : Nat → Int32) (x1 : Int32) (x2 : Int32) (x3 : Int32) (post : Int32 → Unit → Prop) : Prop :=
  vp_in x2 n_polygon_turns ∧ ∀ x4_9 : Int32, x4_9 = (f_polygon_turns x2.toNatClampNeg) → (x4_9 = 0 → post (1 : Int32) ()) ∧ (¬ x4_9 = 0 → vp_in x2 n_polygon_angles ∧ ((f_polygon_angles x2.toNatClampNeg) < x3 → ∀ x5_45 : Int32, x5_45 = (jmin (6 : Int32) (c_polygon_count - x1)) → lpW (fun b z => wp_C_joinable_L50 n_polygon_turns n_polygon_angles c_polygon_count f_polygon_turns f_polygon_angles x2 x3 x4_9 x5_45 post b z) (1 : Int32)) ∧ (¬ (f_polygon_angles x2.toNatClampNeg) < x3 → post (1 : Int32) ()))
abbrev cw_C_joinable (cI : ClassId) (a_this a_polygon a_polygon_turns a_polygon_angles a_fewest a_takenLengths a_takenPulls a_firsts a_lengths a_pulls a_handX a_handY a_polygon_outlines a_polygon_costs a_polygon_rest a_polygon_restByTwo a_polygon_points a_polygon_xs a_polygon_ys : Nat) (n_polygon_turns n_polygon_angles : Nat) (c_count : Int32) (c_polygon_count : Int32) (c_polygon_cost : Int32) (f_polygon_turns : Nat → Int32) (f_polygon_angles : Nat → Int32) : va_W := [(a_this, .inr (4, [.ref a_polygon, .ref a_fewest, .ref a_takenLengths, .ref a_takenPulls, .ref a_firsts, .ref a_lengths, .ref a_pulls, .ref a_handX, .ref a_handY, .int c_count])), (a_polygon, .inr (3, [.ref a_polygon_outlines, .ref a_polygon_costs, .ref a_polygon_rest, .ref a_polygon_restByTwo, .ref a_polygon_points, .ref a_polygon_xs, .ref a_polygon_ys, .ref a_polygon_angles, .ref a_polygon_turns, .int c_polygon_count, .int c_polygon_cost])), (a_polygon_turns, .inl (cI, n_polygon_turns, .inl f_polygon_turns)), (a_polygon_angles, .inl (cI, n_polygon_angles, .inl f_polygon_angles))]
abbrev qq_C_joinable (dC : Nat → ClassId) (dI : Nat → Nat → Nat) (cI cB cJ cZ : ClassId) (a_this a_polygon a_polygon_turns a_polygon_angles a_fewest a_takenLengths a_takenPulls a_firsts a_lengths a_pulls a_handX a_handY a_polygon_outlines a_polygon_costs a_polygon_rest a_polygon_restByTwo a_polygon_points a_polygon_xs a_polygon_ys : Nat) (n_polygon_turns n_polygon_angles : Nat) (c_count : Int32) (c_polygon_count : Int32) (c_polygon_cost : Int32) (f_polygon_turns : Nat → Int32) (f_polygon_angles : Nat → Int32) (A : Nat → Prop) (post : Int32 → Unit → Prop) : Array Value → State → Outcome → State → Prop := va_Qi post (fun _ t => va_P (dC, dI) vwCl (cw_C_joinable cI a_this a_polygon a_polygon_turns a_polygon_angles a_fewest a_takenLengths a_takenPulls a_firsts a_lengths a_pulls a_handX a_handY a_polygon_outlines a_polygon_costs a_polygon_rest a_polygon_restByTwo a_polygon_points a_polygon_xs a_polygon_ys n_polygon_turns n_polygon_angles c_count c_polygon_count c_polygon_cost f_polygon_turns f_polygon_angles) t.heap ∧ va_K (dC, dI) vwCl [(cI, .int), (cB, .byte), (cJ, .long), (cZ, .boolean)] t ∧ va_D A (cw_C_joinable cI a_this a_polygon a_polygon_turns a_polygon_angles a_fewest a_takenLengths a_takenPulls a_firsts a_lengths a_pulls a_handX a_handY a_polygon_outlines a_polygon_costs a_polygon_rest a_polygon_restByTwo a_polygon_points a_polygon_xs a_polygon_ys n_polygon_turns n_polygon_angles c_count c_polygon_count c_polygon_cost f_polygon_turns f_polygon_angles)) A
set_option maxHeartbeats 4000000 in
set_option maxRecDepth 100000 in
theorem c_C_joinable (l : Launch) (dC : Nat → ClassId) (dI : Nat → Nat → Nat) (cI cB cJ cZ : ClassId) (a_this a_polygon a_polygon_turns a_polygon_angles a_fewest a_takenLengths a_takenPulls a_firsts a_lengths a_pulls a_handX a_handY a_polygon_outlines a_polygon_costs a_polygon_rest a_polygon_restByTwo a_polygon_points a_polygon_xs a_polygon_ys : Nat) (sz : Nat) (n_polygon_turns n_polygon_angles : Nat) (c_count : Int32) (c_polygon_count : Int32) (c_polygon_cost : Int32) (f_polygon_turns : Nat → Int32) (f_polygon_angles : Nat → Int32) (x1 : Int32) (x2 : Int32) (x3 : Int32) (post : Int32 → Unit → Prop) (h : wp_C_joinable n_polygon_turns n_polygon_angles c_polygon_count f_polygon_turns f_polygon_angles x1 x2 x3 post) : Met l y_C_joinable w_C_joinable ({ frames := 2, cells := 0, slots := 0, locals := 44 }) (va_Pc [.ref a_this, .int x1, .int x2, .int x3] (fun U => U.heap.size = sz ∧ va_P (dC, dI) vwCl (cw_C_joinable cI a_this a_polygon a_polygon_turns a_polygon_angles a_fewest a_takenLengths a_takenPulls a_firsts a_lengths a_pulls a_handX a_handY a_polygon_outlines a_polygon_costs a_polygon_rest a_polygon_restByTwo a_polygon_points a_polygon_xs a_polygon_ys n_polygon_turns n_polygon_angles c_count c_polygon_count c_polygon_cost f_polygon_turns f_polygon_angles) U.heap ∧ va_K (dC, dI) vwCl [(cI, .int), (cB, .byte), (cJ, .long), (cZ, .boolean)] U ∧ va_D (fun _ => True) (cw_C_joinable cI a_this a_polygon a_polygon_turns a_polygon_angles a_fewest a_takenLengths a_takenPulls a_firsts a_lengths a_pulls a_handX a_handY a_polygon_outlines a_polygon_costs a_polygon_rest a_polygon_restByTwo a_polygon_points a_polygon_xs a_polygon_ys n_polygon_turns n_polygon_angles c_count c_polygon_count c_polygon_cost f_polygon_turns f_polygon_angles))) (qq_C_joinable dC dI cI cB cJ cZ a_this a_polygon a_polygon_turns a_polygon_angles a_fewest a_takenLengths a_takenPulls a_firsts a_lengths a_pulls a_handX a_handY a_polygon_outlines a_polygon_costs a_polygon_rest a_polygon_restByTwo a_polygon_points a_polygon_xs a_polygon_ys n_polygon_turns n_polygon_angles c_count c_polygon_count c_polygon_cost f_polygon_turns f_polygon_angles (va_A (cw_C_joinable cI a_this a_polygon a_polygon_turns a_polygon_angles a_fewest a_takenLengths a_takenPulls a_firsts a_lengths a_pulls a_handX a_handY a_polygon_outlines a_polygon_costs a_polygon_rest a_polygon_restByTwo a_polygon_points a_polygon_xs a_polygon_ys n_polygon_turns n_polygon_angles c_count c_polygon_count c_polygon_cost f_polygon_turns f_polygon_angles) sz) post) 0 0 (va_A (cw_C_joinable cI a_this a_polygon a_polygon_turns a_polygon_angles a_fewest a_takenLengths a_takenPulls a_firsts a_lengths a_pulls a_handX a_handY a_polygon_outlines a_polygon_costs a_polygon_rest a_polygon_restByTwo a_polygon_points a_polygon_xs a_polygon_ys n_polygon_turns n_polygon_angles c_count c_polygon_count c_polygon_cost f_polygon_turns f_polygon_angles) sz) := by
  refine Met.ofW (cc := b_C_joinable) (maxL := 8) (ret := (some .int)) (by decide +kernel) rfl ?_
  intro p e s m args below meth c s₁ B hml hv
  obtain ⟨rfl, hsz, hP, hK, hD0⟩ := hv
  have hx := B.exec
  have hb := B.bytes
  have hr := B.returns
  have hts : ∀ w ∈ allW, w.before _ s = true := fun w hw => atoms_spec (ws := w_C_joinable) B.pre w (List.mem_cons_of_mem _ hw)
  have hown : s.vm.findClass R_C = some m.cls := findClass_of_methodNamed B.named
  have hlocks := B.notSynchronized
  subst hsz
  have hD := hD0.self (sz := s.heap.size)
  generalize hAe : va_A (cw_C_joinable cI a_this a_polygon a_polygon_turns a_polygon_angles a_fewest a_takenLengths a_takenPulls a_firsts a_lengths a_pulls a_handX a_handY a_polygon_outlines a_polygon_costs a_polygon_rest a_polygon_restByTwo a_polygon_points a_polygon_xs a_polygon_ys n_polygon_turns n_polygon_angles c_count c_polygon_count c_polygon_cost f_polygon_turns f_polygon_angles) s.heap.size = A at hD ⊢
  have hA : ∀ q : Nat, s.heap.size ≤ q → A q := fun q h => by rw [← hAe]; exact Or.inr h
  have hS : va_S A s.heap s.heap [] := va_S.rf
  clear hD0
  generalize hQf : MQ below (qq_C_joinable dC dI cI cB cJ cZ a_this a_polygon a_polygon_turns a_polygon_angles a_fewest a_takenLengths a_takenPulls a_firsts a_lengths a_pulls a_handX a_handY a_polygon_outlines a_polygon_costs a_polygon_rest a_polygon_restByTwo a_polygon_points a_polygon_xs a_polygon_ys n_polygon_turns n_polygon_angles c_count c_polygon_count c_polygon_cost f_polygon_turns f_polygon_angles A post) ([.ref a_this, .int x1, .int x2, .int x3] : List Value).toArray s 0 0 A = Qf
  have hl := lv_entry ([.ref a_this, .int x1, .int x2, .int x3]) (n := 8) (Nat.le_of_ble_eq_true rfl)
  rw [lg_entry_eq]
  generalize (lg_sl ([.ref a_this, .int x1, .int x2, .int x3]) ++ List.replicate (8 - (lg_sl ([.ref a_this, .int x1, .int x2, .int x3])).length) Slot.unset).toArray = ls at hl ⊢
  have hl : lv_has ls 8 [(0, .ref a_this), (1, .int x1), (2, .int x2), (3, .int x3)] := hl
  unfold wp_C_joinable at h
  refine lv_aload_n hx hb d_C_joinable_0 rfl (lv_at hl 0 rfl) ?_
  refine va_get (D := (dC, dI)) (ci := 4) (v := .ref a_polygon) (C := R_C) (T := F_C) (N := 10) hx hb hts i_C_in hown hK hP 0 rfl rfl 0 (by decide) (hts _ q_159) (fun _ h9 => h9) rfl d_C_joinable_1 ?_
  refine va_get (D := (dC, dI)) (ci := 3) (v := .ref a_polygon_turns) (C := R_G) (T := F_G) (N := 11) hx hb hts i_G_in hown hK hP 1 rfl rfl 8 (by decide) (hts _ q_123) (fun _ h9 => h9) rfl d_C_joinable_4 ?_
  refine lv_iload_n hx hb d_C_joinable_7 rfl (lv_at hl 2 rfl) ?_
  obtain ⟨hin, h⟩ := h
  refine va_iald hx hb hK hP 2 0 rfl rfl hin d_C_joinable_8 ?_
  refine lv_topi (fun x4_9 e_x4_9 => ?_)
  have h := h x4_9 e_x4_9
  refine lv_istore (lv' := [(4, .int x4_9), (0, .ref a_this), (1, .int x1), (2, .int x2), (3, .int x3)]) hx hb d_C_joinable_9 hl (by decide) rfl (fun ls hl => ?_)
  refine lv_iload hx hb d_C_joinable_11 (lv_at hl 0 rfl) ?_
  refine lv_if_eq (tgt := 29) hx hb d_C_joinable_13 (by decide) (fun cc_ => ?_) (fun cc_ => ?_)
  · have h := h.1 cc_
    refine lv_iconst (v := 1) hx hb d_C_joinable_29 (by decide) ?_
    subst hQf
    exact W.iret (v := (1 : Int32)) hx hb hr (fun t ht hW => ⟨⟨(1 : Int32), (), rfl, h, by rw [ht]; exact hP, va_K.moved hW.alike hK, hD⟩, hS.F ht⟩) hS.2.2 d_C_joinable_30
  · have h := h.2 cc_
    refine lv_aload_n hx hb d_C_joinable_16 rfl (lv_at hl 1 rfl) ?_
    refine va_get (D := (dC, dI)) (ci := 4) (v := .ref a_polygon) (C := R_C) (T := F_C) (N := 10) hx hb hts i_C_in hown hK hP 0 rfl rfl 0 (by decide) (hts _ q_159) (fun _ h9 => h9) rfl d_C_joinable_17 ?_
    refine va_get (D := (dC, dI)) (ci := 3) (v := .ref a_polygon_angles) (C := R_G) (T := F_G) (N := 11) hx hb hts i_G_in hown hK hP 1 rfl rfl 7 (by decide) (hts _ q_120) (fun _ h9 => h9) rfl d_C_joinable_20 ?_
    refine lv_iload_n hx hb d_C_joinable_23 rfl (lv_at hl 3 rfl) ?_
    obtain ⟨hin, h⟩ := h
    refine va_iald hx hb hK hP 3 0 rfl rfl hin d_C_joinable_24 ?_
    refine lv_iload_n hx hb d_C_joinable_25 rfl (lv_at hl 4 rfl) ?_
    refine lv_icmp_lt (tgt := 31) hx hb d_C_joinable_26 (by decide) (fun cc_ => ?_) (fun cc_ => ?_)
    · have h := h.1 cc_
      refine lv_bipush (v := 6) hx hb d_C_joinable_31 (by decide) ?_
      refine lv_aload_n hx hb d_C_joinable_33 rfl (lv_at hl 1 rfl) ?_
      refine va_get (D := (dC, dI)) (ci := 4) (v := .ref a_polygon) (C := R_C) (T := F_C) (N := 10) hx hb hts i_C_in hown hK hP 0 rfl rfl 0 (by decide) (hts _ q_159) (fun _ h9 => h9) rfl d_C_joinable_34 ?_
      refine va_get (D := (dC, dI)) (ci := 3) (v := .int c_polygon_count) (C := R_G) (T := F_G) (N := 11) hx hb hts i_G_in hown hK hP 1 rfl rfl 9 (by decide) (hts _ q_126) (fun _ h9 => h9) rfl d_C_joinable_37 ?_
      refine lv_iload_n hx hb d_C_joinable_40 rfl (lv_at hl 2 rfl) ?_
      refine lv_isub hx hb d_C_joinable_41 ?_
      refine va_mmin hx hb (hml.trans hl.1.symm) hown (hts _ q_583) (hts _ q_31) (hts _ q_3) (hts _ q_32) (Nat.le_of_ble_eq_true rfl) (Nat.le_of_ble_eq_true rfl) (Nat.zero_le _) (Nat.zero_le _) d_C_joinable_42 ?_
      refine W.eq (g2 := F0 m 45 ls [.int (jmin (6 : Int32) (c_polygon_count - x1))]) rfl ?_
      refine lv_topi (fun x5_45 e_x5_45 => ?_)
      have h := h x5_45 e_x5_45
      refine lv_istore (lv' := [(5, .int x5_45), (4, .int x4_9), (0, .ref a_this), (1, .int x1), (2, .int x2), (3, .int x3)]) hx hb d_C_joinable_45 hl (by decide) rfl (fun ls hl => ?_)
      refine lv_iconst (v := 1) hx hb d_C_joinable_47 (by decide) ?_
      refine lv_istore (lv' := [(6, .int (1 : Int32)), (5, .int x5_45), (4, .int x4_9), (0, .ref a_this), (1, .int x1), (2, .int x2), (3, .int x3)]) hx hb d_C_joinable_48 hl (by decide) rfl (fun ls hl => ?_)
      refine lpW_ind (Wp := fun z => ∀ (H : Heap) (locs : List Loc) (ls : Array Slot), va_P (dC, dI) vwCl (cw_C_joinable cI a_this a_polygon a_polygon_turns a_polygon_angles a_fewest a_takenLengths a_takenPulls a_firsts a_lengths a_pulls a_handX a_handY a_polygon_outlines a_polygon_costs a_polygon_rest a_polygon_restByTwo a_polygon_points a_polygon_xs a_polygon_ys n_polygon_turns n_polygon_angles c_count c_polygon_count c_polygon_cost f_polygon_turns f_polygon_angles) H → va_D A (cw_C_joinable cI a_this a_polygon a_polygon_turns a_polygon_angles a_fewest a_takenLengths a_takenPulls a_firsts a_lengths a_pulls a_handX a_handY a_polygon_outlines a_polygon_costs a_polygon_rest a_polygon_restByTwo a_polygon_points a_polygon_xs a_polygon_ys n_polygon_turns n_polygon_angles c_count c_polygon_count c_polygon_cost f_polygon_turns f_polygon_angles) → va_S A s.heap H locs → lv_has ls 8 [(0, .ref a_this), (2, .int x2), (3, .int x3), (4, .int x4_9), (5, .int x5_45), (6, .int z)] → W p l e (headSpec w_C_joinable ({ frames := 2, cells := 0, slots := 0, locals := 44 })).room s m ([.ref a_this, .int x1, .int x2, .int x3] : List Value).toArray below meth c H locs 0 0 Qf (F0 m 50 ls [])) h ?_ _ _ _ hP hD hS (lv_sub hl [3, 5, 6, 2, 1, 0] rfl)
      intro x6_l50 back50 h hb50 H locs ls hP hD hS hl
      have h : wp_C_joinable_L50 n_polygon_turns n_polygon_angles c_polygon_count f_polygon_turns f_polygon_angles x2 x3 x4_9 x5_45 post back50 x6_l50 := h
      have hP : va_P (dC, dI) vwCl (cw_C_joinable cI a_this a_polygon a_polygon_turns a_polygon_angles a_fewest a_takenLengths a_takenPulls a_firsts a_lengths a_pulls a_handX a_handY a_polygon_outlines a_polygon_costs a_polygon_rest a_polygon_restByTwo a_polygon_points a_polygon_xs a_polygon_ys n_polygon_turns n_polygon_angles c_count c_polygon_count c_polygon_cost f_polygon_turns f_polygon_angles) H := hP
      have hD : va_D A (cw_C_joinable cI a_this a_polygon a_polygon_turns a_polygon_angles a_fewest a_takenLengths a_takenPulls a_firsts a_lengths a_pulls a_handX a_handY a_polygon_outlines a_polygon_costs a_polygon_rest a_polygon_restByTwo a_polygon_points a_polygon_xs a_polygon_ys n_polygon_turns n_polygon_angles c_count c_polygon_count c_polygon_cost f_polygon_turns f_polygon_angles) := hD
      have hl : lv_has ls 8 [(0, .ref a_this), (2, .int x2), (3, .int x3), (4, .int x4_9), (5, .int x5_45), (6, .int x6_l50)] := hl
      unfold wp_C_joinable_L50 at h
      refine lv_iload hx hb d_C_joinable_50 (lv_at hl 5 rfl) ?_
      refine lv_iload hx hb d_C_joinable_52 (lv_at hl 4 rfl) ?_
      refine lv_icmp_ge (tgt := 107) hx hb d_C_joinable_54 (by decide) (fun cc_ => ?_) (fun cc_ => ?_)
      · have h := h.1 cc_
        refine lv_iload hx hb d_C_joinable_107 (lv_at hl 4 rfl) ?_
        subst hQf
        exact W.iret (v := x5_45) hx hb hr (fun t ht hW => ⟨⟨x5_45, (), rfl, h, by rw [ht]; exact hP, va_K.moved hW.alike hK, hD⟩, hS.F ht⟩) hS.2.2 d_C_joinable_109
      · have h := h.2 cc_
        refine lv_aload_n hx hb d_C_joinable_57 rfl (lv_at hl 0 rfl) ?_
        refine va_get (D := (dC, dI)) (ci := 4) (v := .ref a_polygon) (C := R_C) (T := F_C) (N := 10) hx hb hts i_C_in hown hK hP 0 rfl rfl 0 (by decide) (hts _ q_159) (fun _ h9 => h9) rfl d_C_joinable_58 ?_
        refine lv_iload_n hx hb d_C_joinable_61 rfl (lv_at hl 1 rfl) ?_
        refine lv_iload hx hb d_C_joinable_62 (lv_at hl 5 rfl) ?_
        obtain ⟨Q64, hq64, h⟩ := h
        have hPc := hP.sub (ws' := (cw_G_cornerBeside a_polygon a_polygon_outlines a_polygon_costs a_polygon_rest a_polygon_restByTwo a_polygon_points a_polygon_xs a_polygon_ys a_polygon_angles a_polygon_turns c_polygon_count c_polygon_cost)) [1] rfl
        have hDc := hD.sub (ws' := (cw_G_cornerBeside a_polygon a_polygon_outlines a_polygon_costs a_polygon_rest a_polygon_restByTwo a_polygon_points a_polygon_xs a_polygon_ys a_polygon_angles a_polygon_turns c_polygon_count c_polygon_cost)) [1] (by decide) rfl
        have hFc := va_free (wc := (cw_G_cornerBeside a_polygon a_polygon_outlines a_polygon_costs a_polygon_rest a_polygon_restByTwo a_polygon_points a_polygon_xs a_polygon_ys a_polygon_angles a_polygon_turns c_polygon_count c_polygon_cost)) hD hS hA [1] rfl
        refine va_calli (va_runV (As := [.int x2, .int x6_l50]) (rest := []) ⟨hx, hb, hml, hown, hts⟩ (c_G_cornerBeside l dC dI cI cB cJ cZ a_polygon a_polygon_outlines a_polygon_costs a_polygon_rest a_polygon_restByTwo a_polygon_points a_polygon_xs a_polygon_ys a_polygon_angles a_polygon_turns H.size c_polygon_count c_polygon_cost x2 x6_l50 Q64 hq64) (cwV 2 hts (goodV q_573 q_535 q_536 q_5 q_537) rfl rfl rfl (by decide +kernel) ⟨Nat.le_of_ble_eq_true rfl, Nat.le_of_ble_eq_true rfl⟩) ⟨fun a U g mk q => by obtain ⟨q0, q1, qP, qK, qD⟩ := q; exact ⟨q0, q1, qP, va_K.moved (u := U) (U := U.calling g mk a) (Vm.Alike.refl U.vm) qK, qD⟩, va_recv hK hPc (ci := 3) (q0 := 0) rfl rfl, fun U hU hW => ⟨rfl, by rw [hU], by rw [hU]; exact hPc, va_K.moved hW.alike hK, hDc.weaken (fun _ _ _ _ => trivial)⟩⟩ rfl rfl hl.1 rfl (lv_room (Nat.le_of_ble_eq_true rfl)) d_C_joinable_64 ⟨Nat.le_of_ble_eq_true rfl, Nat.le_of_ble_eq_true rfl⟩) hS (fun q _ h => hFc q h) hFc (fun r64 u64 t H1 locs ht hvm hw hB hz1 hk1 hS => ?_)
        cases u64
        obtain ⟨hP1, -, hD1⟩ := hB
        rw [ht] at hP1
        have h := h r64 hw
        obtain ⟨hP, hD⟩ := va_join (wr := [(a_this, .inr (4, [.ref a_polygon, .ref a_fewest, .ref a_takenLengths, .ref a_takenPulls, .ref a_firsts, .ref a_lengths, .ref a_pulls, .ref a_handX, .ref a_handY, .int c_count])), (a_polygon_turns, .inl (cI, n_polygon_turns, .inl f_polygon_turns)), (a_polygon_angles, .inl (cI, n_polygon_angles, .inl f_polygon_angles))]) (w1 := (cw_G_cornerBeside a_polygon a_polygon_outlines a_polygon_costs a_polygon_rest a_polygon_restByTwo a_polygon_points a_polygon_xs a_polygon_ys a_polygon_angles a_polygon_turns c_polygon_count c_polygon_cost)) hP hD [1] [0, 2, 3] rfl rfl (by decide) (by decide) hk1 hFc hP1 hD1
        clear hP1 hD1 hk1 hPc hDc hFc
        generalize H1 = H at hP hS ⊢
        have hP : va_P (dC, dI) vwCl (cw_C_joinable cI a_this a_polygon a_polygon_turns a_polygon_angles a_fewest a_takenLengths a_takenPulls a_firsts a_lengths a_pulls a_handX a_handY a_polygon_outlines a_polygon_costs a_polygon_rest a_polygon_restByTwo a_polygon_points a_polygon_xs a_polygon_ys n_polygon_turns n_polygon_angles c_count c_polygon_count c_polygon_cost f_polygon_turns f_polygon_angles) H := hP.sub [0, 3, 1, 2] rfl
        have hD : va_D A (cw_C_joinable cI a_this a_polygon a_polygon_turns a_polygon_angles a_fewest a_takenLengths a_takenPulls a_firsts a_lengths a_pulls a_handX a_handY a_polygon_outlines a_polygon_costs a_polygon_rest a_polygon_restByTwo a_polygon_points a_polygon_xs a_polygon_ys n_polygon_turns n_polygon_angles c_count c_polygon_count c_polygon_cost f_polygon_turns f_polygon_angles) := hD.sub [0, 3, 1, 2] (by decide) rfl
        refine lv_istore (lv' := [(7, .int r64), (0, .ref a_this), (2, .int x2), (3, .int x3), (4, .int x4_9), (5, .int x5_45), (6, .int x6_l50)]) hx hb d_C_joinable_67 hl (by decide) rfl (fun ls hl => ?_)
        refine lv_aload_n hx hb d_C_joinable_69 rfl (lv_at hl 1 rfl) ?_
        refine va_get (D := (dC, dI)) (ci := 4) (v := .ref a_polygon) (C := R_C) (T := F_C) (N := 10) hx hb hts i_C_in hown hK hP 0 rfl rfl 0 (by decide) (hts _ q_159) (fun _ h9 => h9) rfl d_C_joinable_70 ?_
        refine va_get (D := (dC, dI)) (ci := 3) (v := .ref a_polygon_turns) (C := R_G) (T := F_G) (N := 11) hx hb hts i_G_in hown hK hP 1 rfl rfl 8 (by decide) (hts _ q_123) (fun _ h9 => h9) rfl d_C_joinable_73 ?_
        refine lv_iload hx hb d_C_joinable_76 (lv_at hl 0 rfl) ?_
        obtain ⟨hin, h⟩ := h
        refine va_iald hx hb hK hP 2 0 rfl rfl hin d_C_joinable_78 ?_
        refine lv_iload hx hb d_C_joinable_79 (lv_at hl 4 rfl) ?_
        refine lv_icmp_ne (tgt := 98) hx hb d_C_joinable_81 (by decide) (fun cc_ => ?_) (fun cc_ => ?_)
        · have h := h.1 cc_
          refine lv_iload hx hb d_C_joinable_98 (lv_at hl 6 rfl) ?_
          subst hQf
          exact W.iret (v := x6_l50) hx hb hr (fun t ht hW => ⟨⟨x6_l50, (), rfl, h, by rw [ht]; exact hP, va_K.moved hW.alike hK, hD⟩, hS.F ht⟩) hS.2.2 d_C_joinable_100
        · have h := h.2 cc_
          refine lv_aload_n hx hb d_C_joinable_84 rfl (lv_at hl 1 rfl) ?_
          refine va_get (D := (dC, dI)) (ci := 4) (v := .ref a_polygon) (C := R_C) (T := F_C) (N := 10) hx hb hts i_C_in hown hK hP 0 rfl rfl 0 (by decide) (hts _ q_159) (fun _ h9 => h9) rfl d_C_joinable_85 ?_
          refine va_get (D := (dC, dI)) (ci := 3) (v := .ref a_polygon_angles) (C := R_G) (T := F_G) (N := 11) hx hb hts i_G_in hown hK hP 1 rfl rfl 7 (by decide) (hts _ q_120) (fun _ h9 => h9) rfl d_C_joinable_88 ?_
          refine lv_iload hx hb d_C_joinable_91 (lv_at hl 0 rfl) ?_
          obtain ⟨hin, h⟩ := h
          refine va_iald hx hb hK hP 3 0 rfl rfl hin d_C_joinable_93 ?_
          refine lv_iload_n hx hb d_C_joinable_94 rfl (lv_at hl 3 rfl) ?_
          refine lv_icmp_lt (tgt := 101) hx hb d_C_joinable_95 (by decide) (fun cc_ => ?_) (fun cc_ => ?_)
          · have h := h.1 cc_
            obtain ⟨x6_101, e_x6_101⟩ : ∃ y : Int32, y = x6_l50 + (1 : Int32) := ⟨_, rfl⟩
            have h := h x6_101 e_x6_101
            refine lv_iinc (v := x6_101) (lv' := [(6, .int x6_101), (7, .int r64), (0, .ref a_this), (2, .int x2), (3, .int x3), (4, .int x4_9), (5, .int x5_45)]) hx hb d_C_joinable_101 hl (k := 6) rfl (by rw [e_x6_101]; rfl) (by decide) rfl (fun ls hl => ?_)
            refine lv_goto (tgt := 50) hx hb d_C_joinable_104 (by decide) ?_
            exact hb50 _ h _ _ _ hP hD hS (lv_sub hl [2, 3, 4, 5, 6, 0] rfl)
          · have h := h.2 cc_
            refine lv_iload hx hb d_C_joinable_98 (lv_at hl 6 rfl) ?_
            subst hQf
            exact W.iret (v := x6_l50) hx hb hr (fun t ht hW => ⟨⟨x6_l50, (), rfl, h, by rw [ht]; exact hP, va_K.moved hW.alike hK, hD⟩, hS.F ht⟩) hS.2.2 d_C_joinable_100
    · have h := h.2 cc_
      refine lv_iconst (v := 1) hx hb d_C_joinable_29 (by decide) ?_
      subst hQf
      exact W.iret (v := (1 : Int32)) hx hb hr (fun t ht hW => ⟨⟨(1 : Int32), (), rfl, h, by rw [ht]; exact hP, va_K.moved hW.alike hK, hD⟩, hS.F ht⟩) hS.2.2 d_C_joinable_30
def wp_C_layOn (n_p1 n_p0 : Nat) (f_p1 : Nat → Int32) (f_p0 : Nat → Int32) (x2 : Int32) (x3 : Int32) (x4 : Int32) (x5 : Int32) (x6 : Int32) (post : (Nat → Int32) → Prop) : Prop :=
  vp_in x3 n_p1 ∧ vp_in x4 n_p1 ∧ vp_in (0 : Int32) n_p0 ∧ ∀ f13 : Nat → Int32, f13 = upd f_p0 (0 : Int32).toNatClampNeg ((16 : Int32) * ((f_p1 x3.toNatClampNeg) + (f_p1 x4.toNatClampNeg))) → vp_in x5 n_p1 ∧ vp_in x6 n_p1 ∧ vp_in (3 : Int32) n_p0 ∧ ∀ f28 : Nat → Int32, f28 = upd f13 (3 : Int32).toNatClampNeg ((16 : Int32) * ((f_p1 x5.toNatClampNeg) + (f_p1 x6.toNatClampNeg))) → (¬ x2 = 0 → vp_in (0 : Int32) n_p0 ∧ vp_in x4 n_p1 ∧ vp_in x3 n_p1 ∧ vp_in (1 : Int32) n_p0 ∧ ∀ f72 : Nat → Int32, f72 = upd f28 (1 : Int32).toNatClampNeg ((f28 (0 : Int32).toNatClampNeg) + (x2 * ((f_p1 x4.toNatClampNeg) - (f_p1 x3.toNatClampNeg)))) → vp_in (3 : Int32) n_p0 ∧ vp_in x6 n_p1 ∧ vp_in x5 n_p1 ∧ vp_in (2 : Int32) n_p0 ∧ ∀ f90 : Nat → Int32, f90 = upd f72 (2 : Int32).toNatClampNeg ((f72 (3 : Int32).toNatClampNeg) - (x2 * ((f_p1 x6.toNatClampNeg) - (f_p1 x5.toNatClampNeg)))) → post f90) ∧ (x2 = 0 → vp_in x4 n_p1 ∧ vp_in (1 : Int32) n_p0 ∧ ∀ f42 : Nat → Int32, f42 = upd f28 (1 : Int32).toNatClampNeg ((32 : Int32) * (f_p1 x4.toNatClampNeg)) → vp_in x4 n_p1 ∧ vp_in (2 : Int32) n_p0 ∧ ∀ f52 : Nat → Int32, f52 = upd f42 (2 : Int32).toNatClampNeg ((32 : Int32) * (f_p1 x4.toNatClampNeg)) → post f52)
abbrev cw_C_layOn (cI : ClassId) (a_p1 a_p0 : Nat) (n_p1 n_p0 : Nat) (f_p1 : Nat → Int32) (f_p0 : Nat → Int32) : va_W := [(a_p1, .inl (cI, n_p1, .inl f_p1)), (a_p0, .inl (cI, n_p0, .inl f_p0))]
abbrev qq_C_layOn (dC : Nat → ClassId) (dI : Nat → Nat → Nat) (cI cB cJ cZ : ClassId) (a_p1 a_p0 : Nat) (n_p1 n_p0 : Nat) (f_p1 : Nat → Int32) (A : Nat → Prop) (post : (Nat → Int32) → Prop) : Array Value → State → Outcome → State → Prop := va_Qv post (fun u t => va_P (dC, dI) vwCl (cw_C_layOn cI a_p1 a_p0 n_p1 n_p0 f_p1 u) t.heap ∧ va_K (dC, dI) vwCl [(cI, .int), (cB, .byte), (cJ, .long), (cZ, .boolean)] t ∧ va_D A (cw_C_layOn cI a_p1 a_p0 n_p1 n_p0 f_p1 u)) A
set_option maxHeartbeats 4000000 in
set_option maxRecDepth 100000 in
theorem c_C_layOn (l : Launch) (dC : Nat → ClassId) (dI : Nat → Nat → Nat) (cI cB cJ cZ : ClassId) (a_p1 a_p0 : Nat) (sz : Nat) (n_p1 n_p0 : Nat) (f_p1 : Nat → Int32) (f_p0 : Nat → Int32) (x2 : Int32) (x3 : Int32) (x4 : Int32) (x5 : Int32) (x6 : Int32) (post : (Nat → Int32) → Prop) (h : wp_C_layOn n_p1 n_p0 f_p1 f_p0 x2 x3 x4 x5 x6 post) : Met l y_C_layOn w_C_layOn ({ frames := 0, cells := 0, slots := 0, locals := 0 }) (va_Pc [.ref a_p0, .ref a_p1, .int x2, .int x3, .int x4, .int x5, .int x6] (fun U => U.heap.size = sz ∧ va_P (dC, dI) vwCl (cw_C_layOn cI a_p1 a_p0 n_p1 n_p0 f_p1 f_p0) U.heap ∧ va_K (dC, dI) vwCl [(cI, .int), (cB, .byte), (cJ, .long), (cZ, .boolean)] U ∧ va_D (fun _ => True) (cw_C_layOn cI a_p1 a_p0 n_p1 n_p0 f_p1 f_p0))) (qq_C_layOn dC dI cI cB cJ cZ a_p1 a_p0 n_p1 n_p0 f_p1 (va_A (cw_C_layOn cI a_p1 a_p0 n_p1 n_p0 f_p1 f_p0) sz) post) 0 0 (va_A (cw_C_layOn cI a_p1 a_p0 n_p1 n_p0 f_p1 f_p0) sz) := by
  refine Met.ofW (cc := b_C_layOn) (maxL := 7) (ret := none) (by decide +kernel) rfl ?_
  intro p e s m args below meth c s₁ B hml hv
  obtain ⟨rfl, hsz, hP, hK, hD0⟩ := hv
  have hx := B.exec
  have hb := B.bytes
  have hr := B.returns
  have hts : ∀ w ∈ allW, w.before _ s = true := fun w hw => atoms_spec (ws := w_C_layOn) B.pre w (List.mem_cons_of_mem _ hw)
  have hown : s.vm.findClass R_C = some m.cls := findClass_of_methodNamed B.named
  have hlocks := B.notSynchronized
  subst hsz
  have hD := hD0.self (sz := s.heap.size)
  generalize hAe : va_A (cw_C_layOn cI a_p1 a_p0 n_p1 n_p0 f_p1 f_p0) s.heap.size = A at hD ⊢
  have hA : ∀ q : Nat, s.heap.size ≤ q → A q := fun q h => by rw [← hAe]; exact Or.inr h
  have hS : va_S A s.heap s.heap [] := va_S.rf
  clear hD0
  generalize hQf : MQ below (qq_C_layOn dC dI cI cB cJ cZ a_p1 a_p0 n_p1 n_p0 f_p1 A post) ([.ref a_p0, .ref a_p1, .int x2, .int x3, .int x4, .int x5, .int x6] : List Value).toArray s 0 0 A = Qf
  have hl := lv_entry ([.ref a_p0, .ref a_p1, .int x2, .int x3, .int x4, .int x5, .int x6]) (n := 7) (Nat.le_of_ble_eq_true rfl)
  rw [lg_entry_eq]
  generalize (lg_sl ([.ref a_p0, .ref a_p1, .int x2, .int x3, .int x4, .int x5, .int x6]) ++ List.replicate (7 - (lg_sl ([.ref a_p0, .ref a_p1, .int x2, .int x3, .int x4, .int x5, .int x6])).length) Slot.unset).toArray = ls at hl ⊢
  have hl : lv_has ls 7 [(0, .ref a_p0), (1, .ref a_p1), (2, .int x2), (3, .int x3), (4, .int x4), (5, .int x5), (6, .int x6)] := hl
  unfold wp_C_layOn at h
  refine lv_aload_n hx hb d_C_layOn_0 rfl (lv_at hl 0 rfl) ?_
  refine lv_iconst (v := 0) hx hb d_C_layOn_1 (by decide) ?_
  refine lv_bipush (v := 16) hx hb d_C_layOn_2 (by decide) ?_
  refine lv_aload_n hx hb d_C_layOn_4 rfl (lv_at hl 1 rfl) ?_
  refine lv_iload_n hx hb d_C_layOn_5 rfl (lv_at hl 3 rfl) ?_
  obtain ⟨hin, h⟩ := h
  refine va_iald hx hb hK hP 0 0 rfl rfl hin d_C_layOn_6 ?_
  refine lv_aload_n hx hb d_C_layOn_7 rfl (lv_at hl 1 rfl) ?_
  refine lv_iload hx hb d_C_layOn_8 (lv_at hl 4 rfl) ?_
  obtain ⟨hin, h⟩ := h
  refine va_iald hx hb hK hP 0 0 rfl rfl hin d_C_layOn_10 ?_
  refine lv_iadd hx hb d_C_layOn_11 ?_
  refine lv_imul hx hb d_C_layOn_12 ?_
  obtain ⟨hin, h⟩ := h
  refine va_iast hx hb hK hP hD hS 1 0 rfl rfl hin d_C_layOn_13 (fun H locs hP hD hS => ?_)
  obtain ⟨f13, e_f13⟩ : ∃ y : Nat → Int32, y = upd f_p0 (0 : Int32).toNatClampNeg ((16 : Int32) * ((f_p1 x3.toNatClampNeg) + (f_p1 x4.toNatClampNeg))) := ⟨_, rfl⟩
  have h := h f13 e_f13
  have hP : va_P (dC, dI) vwCl (cw_C_layOn cI a_p1 a_p0 n_p1 n_p0 f_p1 f13) H := by rw [e_f13]; exact hP
  have hD : va_D A (cw_C_layOn cI a_p1 a_p0 n_p1 n_p0 f_p1 f13) := by rw [e_f13]; exact hD
  refine lv_aload_n hx hb d_C_layOn_14 rfl (lv_at hl 0 rfl) ?_
  refine lv_iconst (v := 3) hx hb d_C_layOn_15 (by decide) ?_
  refine lv_bipush (v := 16) hx hb d_C_layOn_16 (by decide) ?_
  refine lv_aload_n hx hb d_C_layOn_18 rfl (lv_at hl 1 rfl) ?_
  refine lv_iload hx hb d_C_layOn_19 (lv_at hl 5 rfl) ?_
  obtain ⟨hin, h⟩ := h
  refine va_iald hx hb hK hP 0 0 rfl rfl hin d_C_layOn_21 ?_
  refine lv_aload_n hx hb d_C_layOn_22 rfl (lv_at hl 1 rfl) ?_
  refine lv_iload hx hb d_C_layOn_23 (lv_at hl 6 rfl) ?_
  obtain ⟨hin, h⟩ := h
  refine va_iald hx hb hK hP 0 0 rfl rfl hin d_C_layOn_25 ?_
  refine lv_iadd hx hb d_C_layOn_26 ?_
  refine lv_imul hx hb d_C_layOn_27 ?_
  obtain ⟨hin, h⟩ := h
  refine va_iast hx hb hK hP hD hS 1 0 rfl rfl hin d_C_layOn_28 (fun H locs hP hD hS => ?_)
  obtain ⟨f28, e_f28⟩ : ∃ y : Nat → Int32, y = upd f13 (3 : Int32).toNatClampNeg ((16 : Int32) * ((f_p1 x5.toNatClampNeg) + (f_p1 x6.toNatClampNeg))) := ⟨_, rfl⟩
  have h := h f28 e_f28
  have hP : va_P (dC, dI) vwCl (cw_C_layOn cI a_p1 a_p0 n_p1 n_p0 f_p1 f28) H := by rw [e_f28]; exact hP
  have hD : va_D A (cw_C_layOn cI a_p1 a_p0 n_p1 n_p0 f_p1 f28) := by rw [e_f28]; exact hD
  refine lv_iload_n hx hb d_C_layOn_29 rfl (lv_at hl 2 rfl) ?_
  refine lv_if_ne (tgt := 56) hx hb d_C_layOn_30 (by decide) (fun cc_ => ?_) (fun cc_ => ?_)
  · have h := h.1 cc_
    refine lv_aload_n hx hb d_C_layOn_56 rfl (lv_at hl 0 rfl) ?_
    refine lv_iconst (v := 1) hx hb d_C_layOn_57 (by decide) ?_
    refine lv_aload_n hx hb d_C_layOn_58 rfl (lv_at hl 0 rfl) ?_
    refine lv_iconst (v := 0) hx hb d_C_layOn_59 (by decide) ?_
    obtain ⟨hin, h⟩ := h
    refine va_iald hx hb hK hP 1 0 rfl rfl hin d_C_layOn_60 ?_
    refine lv_iload_n hx hb d_C_layOn_61 rfl (lv_at hl 2 rfl) ?_
    refine lv_aload_n hx hb d_C_layOn_62 rfl (lv_at hl 1 rfl) ?_
    refine lv_iload hx hb d_C_layOn_63 (lv_at hl 4 rfl) ?_
    obtain ⟨hin, h⟩ := h
    refine va_iald hx hb hK hP 0 0 rfl rfl hin d_C_layOn_65 ?_
    refine lv_aload_n hx hb d_C_layOn_66 rfl (lv_at hl 1 rfl) ?_
    refine lv_iload_n hx hb d_C_layOn_67 rfl (lv_at hl 3 rfl) ?_
    obtain ⟨hin, h⟩ := h
    refine va_iald hx hb hK hP 0 0 rfl rfl hin d_C_layOn_68 ?_
    refine lv_isub hx hb d_C_layOn_69 ?_
    refine lv_imul hx hb d_C_layOn_70 ?_
    refine lv_iadd hx hb d_C_layOn_71 ?_
    obtain ⟨hin, h⟩ := h
    refine va_iast hx hb hK hP hD hS 1 0 rfl rfl hin d_C_layOn_72 (fun H locs hP hD hS => ?_)
    obtain ⟨f72, e_f72⟩ : ∃ y : Nat → Int32, y = upd f28 (1 : Int32).toNatClampNeg ((f28 (0 : Int32).toNatClampNeg) + (x2 * ((f_p1 x4.toNatClampNeg) - (f_p1 x3.toNatClampNeg)))) := ⟨_, rfl⟩
    have h := h f72 e_f72
    have hP : va_P (dC, dI) vwCl (cw_C_layOn cI a_p1 a_p0 n_p1 n_p0 f_p1 f72) H := by rw [e_f72]; exact hP
    have hD : va_D A (cw_C_layOn cI a_p1 a_p0 n_p1 n_p0 f_p1 f72) := by rw [e_f72]; exact hD
    refine lv_aload_n hx hb d_C_layOn_73 rfl (lv_at hl 0 rfl) ?_
    refine lv_iconst (v := 2) hx hb d_C_layOn_74 (by decide) ?_
    refine lv_aload_n hx hb d_C_layOn_75 rfl (lv_at hl 0 rfl) ?_
    refine lv_iconst (v := 3) hx hb d_C_layOn_76 (by decide) ?_
    obtain ⟨hin, h⟩ := h
    refine va_iald hx hb hK hP 1 0 rfl rfl hin d_C_layOn_77 ?_
    refine lv_iload_n hx hb d_C_layOn_78 rfl (lv_at hl 2 rfl) ?_
    refine lv_aload_n hx hb d_C_layOn_79 rfl (lv_at hl 1 rfl) ?_
    refine lv_iload hx hb d_C_layOn_80 (lv_at hl 6 rfl) ?_
    obtain ⟨hin, h⟩ := h
    refine va_iald hx hb hK hP 0 0 rfl rfl hin d_C_layOn_82 ?_
    refine lv_aload_n hx hb d_C_layOn_83 rfl (lv_at hl 1 rfl) ?_
    refine lv_iload hx hb d_C_layOn_84 (lv_at hl 5 rfl) ?_
    obtain ⟨hin, h⟩ := h
    refine va_iald hx hb hK hP 0 0 rfl rfl hin d_C_layOn_86 ?_
    refine lv_isub hx hb d_C_layOn_87 ?_
    refine lv_imul hx hb d_C_layOn_88 ?_
    refine lv_isub hx hb d_C_layOn_89 ?_
    obtain ⟨hin, h⟩ := h
    refine va_iast hx hb hK hP hD hS 1 0 rfl rfl hin d_C_layOn_90 (fun H locs hP hD hS => ?_)
    obtain ⟨f90, e_f90⟩ : ∃ y : Nat → Int32, y = upd f72 (2 : Int32).toNatClampNeg ((f72 (3 : Int32).toNatClampNeg) - (x2 * ((f_p1 x6.toNatClampNeg) - (f_p1 x5.toNatClampNeg)))) := ⟨_, rfl⟩
    have h := h f90 e_f90
    have hP : va_P (dC, dI) vwCl (cw_C_layOn cI a_p1 a_p0 n_p1 n_p0 f_p1 f90) H := by rw [e_f90]; exact hP
    have hD : va_D A (cw_C_layOn cI a_p1 a_p0 n_p1 n_p0 f_p1 f90) := by rw [e_f90]; exact hD
    subst hQf
    exact W.vret hx hb hr (fun t ht hW => ⟨⟨f90, rfl, h, by rw [ht]; exact hP, va_K.moved hW.alike hK, hD⟩, hS.F ht⟩) hS.2.2 d_C_layOn_91
  · have h := h.2 cc_
    refine lv_aload_n hx hb d_C_layOn_33 rfl (lv_at hl 0 rfl) ?_
    refine lv_iconst (v := 1) hx hb d_C_layOn_34 (by decide) ?_
    refine lv_bipush (v := 32) hx hb d_C_layOn_35 (by decide) ?_
    refine lv_aload_n hx hb d_C_layOn_37 rfl (lv_at hl 1 rfl) ?_
    refine lv_iload hx hb d_C_layOn_38 (lv_at hl 4 rfl) ?_
    obtain ⟨hin, h⟩ := h
    refine va_iald hx hb hK hP 0 0 rfl rfl hin d_C_layOn_40 ?_
    refine lv_imul hx hb d_C_layOn_41 ?_
    obtain ⟨hin, h⟩ := h
    refine va_iast hx hb hK hP hD hS 1 0 rfl rfl hin d_C_layOn_42 (fun H locs hP hD hS => ?_)
    obtain ⟨f42, e_f42⟩ : ∃ y : Nat → Int32, y = upd f28 (1 : Int32).toNatClampNeg ((32 : Int32) * (f_p1 x4.toNatClampNeg)) := ⟨_, rfl⟩
    have h := h f42 e_f42
    have hP : va_P (dC, dI) vwCl (cw_C_layOn cI a_p1 a_p0 n_p1 n_p0 f_p1 f42) H := by rw [e_f42]; exact hP
    have hD : va_D A (cw_C_layOn cI a_p1 a_p0 n_p1 n_p0 f_p1 f42) := by rw [e_f42]; exact hD
    refine lv_aload_n hx hb d_C_layOn_43 rfl (lv_at hl 0 rfl) ?_
    refine lv_iconst (v := 2) hx hb d_C_layOn_44 (by decide) ?_
    refine lv_bipush (v := 32) hx hb d_C_layOn_45 (by decide) ?_
    refine lv_aload_n hx hb d_C_layOn_47 rfl (lv_at hl 1 rfl) ?_
    refine lv_iload hx hb d_C_layOn_48 (lv_at hl 4 rfl) ?_
    obtain ⟨hin, h⟩ := h
    refine va_iald hx hb hK hP 0 0 rfl rfl hin d_C_layOn_50 ?_
    refine lv_imul hx hb d_C_layOn_51 ?_
    obtain ⟨hin, h⟩ := h
    refine va_iast hx hb hK hP hD hS 1 0 rfl rfl hin d_C_layOn_52 (fun H locs hP hD hS => ?_)
    obtain ⟨f52, e_f52⟩ : ∃ y : Nat → Int32, y = upd f42 (2 : Int32).toNatClampNeg ((32 : Int32) * (f_p1 x4.toNatClampNeg)) := ⟨_, rfl⟩
    have h := h f52 e_f52
    have hP : va_P (dC, dI) vwCl (cw_C_layOn cI a_p1 a_p0 n_p1 n_p0 f_p1 f52) H := by rw [e_f52]; exact hP
    have hD : va_D A (cw_C_layOn cI a_p1 a_p0 n_p1 n_p0 f_p1 f52) := by rw [e_f52]; exact hD
    refine lv_goto (tgt := 91) hx hb d_C_layOn_53 (by decide) ?_
    subst hQf
    exact W.vret hx hb hr (fun t ht hW => ⟨⟨f52, rfl, h, by rw [ht]; exact hP, va_K.moved hW.alike hK, hD⟩, hS.F ht⟩) hS.2.2 d_C_layOn_91
def wp_C_layHand (n_polygon_xs n_handX n_polygon_ys n_handY : Nat) (c_polygon_count : Int32) (f_polygon_xs : Nat → Int32) (f_handX : Nat → Int32) (f_polygon_ys : Nat → Int32) (f_handY : Nat → Int32) (x1 : Int32) (x2 : Int32) (x3 : Int32) (post : ((Nat → Int32) × (Nat → Int32)) → Prop) : Prop :=
  ∃ Q6 : Int32 → Unit → Prop, wp_G_cornerBeside c_polygon_count x1 (-1 : Int32) Q6 ∧ ∀ (r6 : Int32), Q6 r6 () → ∃ Q19 : Int32 → Unit → Prop, wp_G_cornerBeside c_polygon_count x1 (x2 - (1 : Int32)) Q19 ∧ ∀ (r19 : Int32), Q19 r19 () → ∃ Q30 : Int32 → Unit → Prop, wp_G_cornerBeside c_polygon_count x1 x2 Q30 ∧ ∀ (r30 : Int32), Q30 r30 () → ∃ Q54 : (Nat → Int32) → Prop, wp_C_layOn n_polygon_xs n_handX f_polygon_xs f_handX x3 r6 x1 r19 r30 Q54 ∧ ∀ (u54_0 : Nat → Int32), Q54 u54_0 → ∃ Q76 : (Nat → Int32) → Prop, wp_C_layOn n_polygon_ys n_handY f_polygon_ys f_handY x3 r6 x1 r19 r30 Q76 ∧ ∀ (u76_0 : Nat → Int32), Q76 u76_0 → post (u54_0, u76_0)
abbrev cw_C_layHand (cI : ClassId) (a_this a_polygon a_polygon_xs a_handX a_polygon_ys a_handY a_fewest a_takenLengths a_takenPulls a_firsts a_lengths a_pulls a_polygon_outlines a_polygon_costs a_polygon_rest a_polygon_restByTwo a_polygon_points a_polygon_angles a_polygon_turns : Nat) (n_polygon_xs n_handX n_polygon_ys n_handY : Nat) (c_count : Int32) (c_polygon_count : Int32) (c_polygon_cost : Int32) (f_polygon_xs : Nat → Int32) (f_handX : Nat → Int32) (f_polygon_ys : Nat → Int32) (f_handY : Nat → Int32) : va_W := [(a_this, .inr (4, [.ref a_polygon, .ref a_fewest, .ref a_takenLengths, .ref a_takenPulls, .ref a_firsts, .ref a_lengths, .ref a_pulls, .ref a_handX, .ref a_handY, .int c_count])), (a_polygon, .inr (3, [.ref a_polygon_outlines, .ref a_polygon_costs, .ref a_polygon_rest, .ref a_polygon_restByTwo, .ref a_polygon_points, .ref a_polygon_xs, .ref a_polygon_ys, .ref a_polygon_angles, .ref a_polygon_turns, .int c_polygon_count, .int c_polygon_cost])), (a_polygon_xs, .inl (cI, n_polygon_xs, .inl f_polygon_xs)), (a_handX, .inl (cI, n_handX, .inl f_handX)), (a_polygon_ys, .inl (cI, n_polygon_ys, .inl f_polygon_ys)), (a_handY, .inl (cI, n_handY, .inl f_handY))]
abbrev qq_C_layHand (dC : Nat → ClassId) (dI : Nat → Nat → Nat) (cI cB cJ cZ : ClassId) (a_this a_polygon a_polygon_xs a_handX a_polygon_ys a_handY a_fewest a_takenLengths a_takenPulls a_firsts a_lengths a_pulls a_polygon_outlines a_polygon_costs a_polygon_rest a_polygon_restByTwo a_polygon_points a_polygon_angles a_polygon_turns : Nat) (n_polygon_xs n_handX n_polygon_ys n_handY : Nat) (c_count : Int32) (c_polygon_count : Int32) (c_polygon_cost : Int32) (f_polygon_xs : Nat → Int32) (f_polygon_ys : Nat → Int32) (A : Nat → Prop) (post : ((Nat → Int32) × (Nat → Int32)) → Prop) : Array Value → State → Outcome → State → Prop := va_Qv post (fun u t => va_P (dC, dI) vwCl (cw_C_layHand cI a_this a_polygon a_polygon_xs a_handX a_polygon_ys a_handY a_fewest a_takenLengths a_takenPulls a_firsts a_lengths a_pulls a_polygon_outlines a_polygon_costs a_polygon_rest a_polygon_restByTwo a_polygon_points a_polygon_angles a_polygon_turns n_polygon_xs n_handX n_polygon_ys n_handY c_count c_polygon_count c_polygon_cost f_polygon_xs u.1 f_polygon_ys u.2) t.heap ∧ va_K (dC, dI) vwCl [(cI, .int), (cB, .byte), (cJ, .long), (cZ, .boolean)] t ∧ va_D A (cw_C_layHand cI a_this a_polygon a_polygon_xs a_handX a_polygon_ys a_handY a_fewest a_takenLengths a_takenPulls a_firsts a_lengths a_pulls a_polygon_outlines a_polygon_costs a_polygon_rest a_polygon_restByTwo a_polygon_points a_polygon_angles a_polygon_turns n_polygon_xs n_handX n_polygon_ys n_handY c_count c_polygon_count c_polygon_cost f_polygon_xs u.1 f_polygon_ys u.2)) A
set_option maxHeartbeats 4000000 in
set_option maxRecDepth 100000 in
theorem c_C_layHand (l : Launch) (dC : Nat → ClassId) (dI : Nat → Nat → Nat) (cI cB cJ cZ : ClassId) (a_this a_polygon a_polygon_xs a_handX a_polygon_ys a_handY a_fewest a_takenLengths a_takenPulls a_firsts a_lengths a_pulls a_polygon_outlines a_polygon_costs a_polygon_rest a_polygon_restByTwo a_polygon_points a_polygon_angles a_polygon_turns : Nat) (sz : Nat) (n_polygon_xs n_handX n_polygon_ys n_handY : Nat) (c_count : Int32) (c_polygon_count : Int32) (c_polygon_cost : Int32) (f_polygon_xs : Nat → Int32) (f_handX : Nat → Int32) (f_polygon_ys : Nat → Int32) (f_handY : Nat → Int32) (x1 : Int32) (x2 : Int32) (x3 : Int32) (post : ((Nat → Int32) × (Nat → Int32)) → Prop) (h : wp_C_layHand n_polygon_xs n_handX n_polygon_ys n_handY c_polygon_count f_polygon_xs f_handX f_polygon_ys f_handY x1 x2 x3 post) : Met l y_C_layHand w_C_layHand ({ frames := 2, cells := 0, slots := 0, locals := 44 }) (va_Pc [.ref a_this, .int x1, .int x2, .int x3] (fun U => U.heap.size = sz ∧ va_P (dC, dI) vwCl (cw_C_layHand cI a_this a_polygon a_polygon_xs a_handX a_polygon_ys a_handY a_fewest a_takenLengths a_takenPulls a_firsts a_lengths a_pulls a_polygon_outlines a_polygon_costs a_polygon_rest a_polygon_restByTwo a_polygon_points a_polygon_angles a_polygon_turns n_polygon_xs n_handX n_polygon_ys n_handY c_count c_polygon_count c_polygon_cost f_polygon_xs f_handX f_polygon_ys f_handY) U.heap ∧ va_K (dC, dI) vwCl [(cI, .int), (cB, .byte), (cJ, .long), (cZ, .boolean)] U ∧ va_D (fun _ => True) (cw_C_layHand cI a_this a_polygon a_polygon_xs a_handX a_polygon_ys a_handY a_fewest a_takenLengths a_takenPulls a_firsts a_lengths a_pulls a_polygon_outlines a_polygon_costs a_polygon_rest a_polygon_restByTwo a_polygon_points a_polygon_angles a_polygon_turns n_polygon_xs n_handX n_polygon_ys n_handY c_count c_polygon_count c_polygon_cost f_polygon_xs f_handX f_polygon_ys f_handY))) (qq_C_layHand dC dI cI cB cJ cZ a_this a_polygon a_polygon_xs a_handX a_polygon_ys a_handY a_fewest a_takenLengths a_takenPulls a_firsts a_lengths a_pulls a_polygon_outlines a_polygon_costs a_polygon_rest a_polygon_restByTwo a_polygon_points a_polygon_angles a_polygon_turns n_polygon_xs n_handX n_polygon_ys n_handY c_count c_polygon_count c_polygon_cost f_polygon_xs f_polygon_ys (va_A (cw_C_layHand cI a_this a_polygon a_polygon_xs a_handX a_polygon_ys a_handY a_fewest a_takenLengths a_takenPulls a_firsts a_lengths a_pulls a_polygon_outlines a_polygon_costs a_polygon_rest a_polygon_restByTwo a_polygon_points a_polygon_angles a_polygon_turns n_polygon_xs n_handX n_polygon_ys n_handY c_count c_polygon_count c_polygon_cost f_polygon_xs f_handX f_polygon_ys f_handY) sz) post) 0 0 (va_A (cw_C_layHand cI a_this a_polygon a_polygon_xs a_handX a_polygon_ys a_handY a_fewest a_takenLengths a_takenPulls a_firsts a_lengths a_pulls a_polygon_outlines a_polygon_costs a_polygon_rest a_polygon_restByTwo a_polygon_points a_polygon_angles a_polygon_turns n_polygon_xs n_handX n_polygon_ys n_handY c_count c_polygon_count c_polygon_cost f_polygon_xs f_handX f_polygon_ys f_handY) sz) := by
  refine Met.ofW (cc := b_C_layHand) (maxL := 7) (ret := none) (by decide +kernel) rfl ?_
  intro p e s m args below meth c s₁ B hml hv
  obtain ⟨rfl, hsz, hP, hK, hD0⟩ := hv
  have hx := B.exec
  have hb := B.bytes
  have hr := B.returns
  have hts : ∀ w ∈ allW, w.before _ s = true := fun w hw => atoms_spec (ws := w_C_layHand) B.pre w (List.mem_cons_of_mem _ hw)
  have hown : s.vm.findClass R_C = some m.cls := findClass_of_methodNamed B.named
  have hlocks := B.notSynchronized
  subst hsz
  have hD := hD0.self (sz := s.heap.size)
  generalize hAe : va_A (cw_C_layHand cI a_this a_polygon a_polygon_xs a_handX a_polygon_ys a_handY a_fewest a_takenLengths a_takenPulls a_firsts a_lengths a_pulls a_polygon_outlines a_polygon_costs a_polygon_rest a_polygon_restByTwo a_polygon_points a_polygon_angles a_polygon_turns n_polygon_xs n_handX n_polygon_ys n_handY c_count c_polygon_count c_polygon_cost f_polygon_xs f_handX f_polygon_ys f_handY) s.heap.size = A at hD ⊢
  have hA : ∀ q : Nat, s.heap.size ≤ q → A q := fun q h => by rw [← hAe]; exact Or.inr h
  have hS : va_S A s.heap s.heap [] := va_S.rf
  clear hD0
  generalize hQf : MQ below (qq_C_layHand dC dI cI cB cJ cZ a_this a_polygon a_polygon_xs a_handX a_polygon_ys a_handY a_fewest a_takenLengths a_takenPulls a_firsts a_lengths a_pulls a_polygon_outlines a_polygon_costs a_polygon_rest a_polygon_restByTwo a_polygon_points a_polygon_angles a_polygon_turns n_polygon_xs n_handX n_polygon_ys n_handY c_count c_polygon_count c_polygon_cost f_polygon_xs f_polygon_ys A post) ([.ref a_this, .int x1, .int x2, .int x3] : List Value).toArray s 0 0 A = Qf
  have hl := lv_entry ([.ref a_this, .int x1, .int x2, .int x3]) (n := 7) (Nat.le_of_ble_eq_true rfl)
  rw [lg_entry_eq]
  generalize (lg_sl ([.ref a_this, .int x1, .int x2, .int x3]) ++ List.replicate (7 - (lg_sl ([.ref a_this, .int x1, .int x2, .int x3])).length) Slot.unset).toArray = ls at hl ⊢
  have hl : lv_has ls 7 [(0, .ref a_this), (1, .int x1), (2, .int x2), (3, .int x3)] := hl
  unfold wp_C_layHand at h
  refine lv_aload_n hx hb d_C_layHand_0 rfl (lv_at hl 0 rfl) ?_
  refine va_get (D := (dC, dI)) (ci := 4) (v := .ref a_polygon) (C := R_C) (T := F_C) (N := 10) hx hb hts i_C_in hown hK hP 0 rfl rfl 0 (by decide) (hts _ q_159) (fun _ h9 => h9) rfl d_C_layHand_1 ?_
  refine lv_iload_n hx hb d_C_layHand_4 rfl (lv_at hl 1 rfl) ?_
  refine lv_iconst (v := -1) hx hb d_C_layHand_5 (by decide) ?_
  obtain ⟨Q6, hq6, h⟩ := h
  have hPc := hP.sub (ws' := (cw_G_cornerBeside a_polygon a_polygon_outlines a_polygon_costs a_polygon_rest a_polygon_restByTwo a_polygon_points a_polygon_xs a_polygon_ys a_polygon_angles a_polygon_turns c_polygon_count c_polygon_cost)) [1] rfl
  have hDc := hD.sub (ws' := (cw_G_cornerBeside a_polygon a_polygon_outlines a_polygon_costs a_polygon_rest a_polygon_restByTwo a_polygon_points a_polygon_xs a_polygon_ys a_polygon_angles a_polygon_turns c_polygon_count c_polygon_cost)) [1] (by decide) rfl
  have hFc := va_free (wc := (cw_G_cornerBeside a_polygon a_polygon_outlines a_polygon_costs a_polygon_rest a_polygon_restByTwo a_polygon_points a_polygon_xs a_polygon_ys a_polygon_angles a_polygon_turns c_polygon_count c_polygon_cost)) hD hS hA [1] rfl
  refine va_calli (va_runV (As := [.int x1, .int (-1 : Int32)]) (rest := []) ⟨hx, hb, hml, hown, hts⟩ (c_G_cornerBeside l dC dI cI cB cJ cZ a_polygon a_polygon_outlines a_polygon_costs a_polygon_rest a_polygon_restByTwo a_polygon_points a_polygon_xs a_polygon_ys a_polygon_angles a_polygon_turns s.heap.size c_polygon_count c_polygon_cost x1 (-1 : Int32) Q6 hq6) (cwV 2 hts (goodV q_573 q_535 q_536 q_5 q_537) rfl rfl rfl (by decide +kernel) ⟨Nat.le_of_ble_eq_true rfl, Nat.le_of_ble_eq_true rfl⟩) ⟨fun a U g mk q => by obtain ⟨q0, q1, qP, qK, qD⟩ := q; exact ⟨q0, q1, qP, va_K.moved (u := U) (U := U.calling g mk a) (Vm.Alike.refl U.vm) qK, qD⟩, va_recv hK hPc (ci := 3) (q0 := 0) rfl rfl, fun U hU hW => ⟨rfl, by rw [hU], by rw [hU]; exact hPc, va_K.moved hW.alike hK, hDc.weaken (fun _ _ _ _ => trivial)⟩⟩ rfl rfl hl.1 rfl (lv_room (Nat.le_of_ble_eq_true rfl)) d_C_layHand_6 ⟨Nat.le_of_ble_eq_true rfl, Nat.le_of_ble_eq_true rfl⟩) hS (fun q _ h => hFc q h) hFc (fun r6 u6 t H1 locs ht hvm hw hB hz1 hk1 hS => ?_)
  cases u6
  obtain ⟨hP1, -, hD1⟩ := hB
  rw [ht] at hP1
  have h := h r6 hw
  obtain ⟨hP, hD⟩ := va_join (wr := [(a_this, .inr (4, [.ref a_polygon, .ref a_fewest, .ref a_takenLengths, .ref a_takenPulls, .ref a_firsts, .ref a_lengths, .ref a_pulls, .ref a_handX, .ref a_handY, .int c_count])), (a_polygon_xs, .inl (cI, n_polygon_xs, .inl f_polygon_xs)), (a_handX, .inl (cI, n_handX, .inl f_handX)), (a_polygon_ys, .inl (cI, n_polygon_ys, .inl f_polygon_ys)), (a_handY, .inl (cI, n_handY, .inl f_handY))]) (w1 := (cw_G_cornerBeside a_polygon a_polygon_outlines a_polygon_costs a_polygon_rest a_polygon_restByTwo a_polygon_points a_polygon_xs a_polygon_ys a_polygon_angles a_polygon_turns c_polygon_count c_polygon_cost)) hP hD [1] [0, 2, 3, 4, 5] rfl rfl (by decide) (by decide) hk1 hFc hP1 hD1
  clear hP1 hD1 hk1 hPc hDc hFc
  generalize H1 = H at hP hS ⊢
  have hP : va_P (dC, dI) vwCl (cw_C_layHand cI a_this a_polygon a_polygon_xs a_handX a_polygon_ys a_handY a_fewest a_takenLengths a_takenPulls a_firsts a_lengths a_pulls a_polygon_outlines a_polygon_costs a_polygon_rest a_polygon_restByTwo a_polygon_points a_polygon_angles a_polygon_turns n_polygon_xs n_handX n_polygon_ys n_handY c_count c_polygon_count c_polygon_cost f_polygon_xs f_handX f_polygon_ys f_handY) H := hP.sub [0, 5, 1, 2, 3, 4] rfl
  have hD : va_D A (cw_C_layHand cI a_this a_polygon a_polygon_xs a_handX a_polygon_ys a_handY a_fewest a_takenLengths a_takenPulls a_firsts a_lengths a_pulls a_polygon_outlines a_polygon_costs a_polygon_rest a_polygon_restByTwo a_polygon_points a_polygon_angles a_polygon_turns n_polygon_xs n_handX n_polygon_ys n_handY c_count c_polygon_count c_polygon_cost f_polygon_xs f_handX f_polygon_ys f_handY) := hD.sub [0, 5, 1, 2, 3, 4] (by decide) rfl
  refine lv_istore (lv' := [(4, .int r6), (0, .ref a_this), (1, .int x1), (2, .int x2), (3, .int x3)]) hx hb d_C_layHand_9 hl (by decide) rfl (fun ls hl => ?_)
  refine lv_aload_n hx hb d_C_layHand_11 rfl (lv_at hl 1 rfl) ?_
  refine va_get (D := (dC, dI)) (ci := 4) (v := .ref a_polygon) (C := R_C) (T := F_C) (N := 10) hx hb hts i_C_in hown hK hP 0 rfl rfl 0 (by decide) (hts _ q_159) (fun _ h9 => h9) rfl d_C_layHand_12 ?_
  refine lv_iload_n hx hb d_C_layHand_15 rfl (lv_at hl 2 rfl) ?_
  refine lv_iload_n hx hb d_C_layHand_16 rfl (lv_at hl 3 rfl) ?_
  refine lv_iconst (v := 1) hx hb d_C_layHand_17 (by decide) ?_
  refine lv_isub hx hb d_C_layHand_18 ?_
  obtain ⟨Q19, hq19, h⟩ := h
  have hPc := hP.sub (ws' := (cw_G_cornerBeside a_polygon a_polygon_outlines a_polygon_costs a_polygon_rest a_polygon_restByTwo a_polygon_points a_polygon_xs a_polygon_ys a_polygon_angles a_polygon_turns c_polygon_count c_polygon_cost)) [1] rfl
  have hDc := hD.sub (ws' := (cw_G_cornerBeside a_polygon a_polygon_outlines a_polygon_costs a_polygon_rest a_polygon_restByTwo a_polygon_points a_polygon_xs a_polygon_ys a_polygon_angles a_polygon_turns c_polygon_count c_polygon_cost)) [1] (by decide) rfl
  have hFc := va_free (wc := (cw_G_cornerBeside a_polygon a_polygon_outlines a_polygon_costs a_polygon_rest a_polygon_restByTwo a_polygon_points a_polygon_xs a_polygon_ys a_polygon_angles a_polygon_turns c_polygon_count c_polygon_cost)) hD hS hA [1] rfl
  refine va_calli (va_runV (As := [.int x1, .int (x2 - (1 : Int32))]) (rest := []) ⟨hx, hb, hml, hown, hts⟩ (c_G_cornerBeside l dC dI cI cB cJ cZ a_polygon a_polygon_outlines a_polygon_costs a_polygon_rest a_polygon_restByTwo a_polygon_points a_polygon_xs a_polygon_ys a_polygon_angles a_polygon_turns H.size c_polygon_count c_polygon_cost x1 (x2 - (1 : Int32)) Q19 hq19) (cwV 2 hts (goodV q_573 q_535 q_536 q_5 q_537) rfl rfl rfl (by decide +kernel) ⟨Nat.le_of_ble_eq_true rfl, Nat.le_of_ble_eq_true rfl⟩) ⟨fun a U g mk q => by obtain ⟨q0, q1, qP, qK, qD⟩ := q; exact ⟨q0, q1, qP, va_K.moved (u := U) (U := U.calling g mk a) (Vm.Alike.refl U.vm) qK, qD⟩, va_recv hK hPc (ci := 3) (q0 := 0) rfl rfl, fun U hU hW => ⟨rfl, by rw [hU], by rw [hU]; exact hPc, va_K.moved hW.alike hK, hDc.weaken (fun _ _ _ _ => trivial)⟩⟩ rfl rfl hl.1 rfl (lv_room (Nat.le_of_ble_eq_true rfl)) d_C_layHand_19 ⟨Nat.le_of_ble_eq_true rfl, Nat.le_of_ble_eq_true rfl⟩) hS (fun q _ h => hFc q h) hFc (fun r19 u19 t H1 locs ht hvm hw hB hz1 hk1 hS => ?_)
  cases u19
  obtain ⟨hP1, -, hD1⟩ := hB
  rw [ht] at hP1
  have h := h r19 hw
  obtain ⟨hP, hD⟩ := va_join (wr := [(a_this, .inr (4, [.ref a_polygon, .ref a_fewest, .ref a_takenLengths, .ref a_takenPulls, .ref a_firsts, .ref a_lengths, .ref a_pulls, .ref a_handX, .ref a_handY, .int c_count])), (a_polygon_xs, .inl (cI, n_polygon_xs, .inl f_polygon_xs)), (a_handX, .inl (cI, n_handX, .inl f_handX)), (a_polygon_ys, .inl (cI, n_polygon_ys, .inl f_polygon_ys)), (a_handY, .inl (cI, n_handY, .inl f_handY))]) (w1 := (cw_G_cornerBeside a_polygon a_polygon_outlines a_polygon_costs a_polygon_rest a_polygon_restByTwo a_polygon_points a_polygon_xs a_polygon_ys a_polygon_angles a_polygon_turns c_polygon_count c_polygon_cost)) hP hD [1] [0, 2, 3, 4, 5] rfl rfl (by decide) (by decide) hk1 hFc hP1 hD1
  clear hP1 hD1 hk1 hPc hDc hFc
  generalize H1 = H at hP hS ⊢
  have hP : va_P (dC, dI) vwCl (cw_C_layHand cI a_this a_polygon a_polygon_xs a_handX a_polygon_ys a_handY a_fewest a_takenLengths a_takenPulls a_firsts a_lengths a_pulls a_polygon_outlines a_polygon_costs a_polygon_rest a_polygon_restByTwo a_polygon_points a_polygon_angles a_polygon_turns n_polygon_xs n_handX n_polygon_ys n_handY c_count c_polygon_count c_polygon_cost f_polygon_xs f_handX f_polygon_ys f_handY) H := hP.sub [0, 5, 1, 2, 3, 4] rfl
  have hD : va_D A (cw_C_layHand cI a_this a_polygon a_polygon_xs a_handX a_polygon_ys a_handY a_fewest a_takenLengths a_takenPulls a_firsts a_lengths a_pulls a_polygon_outlines a_polygon_costs a_polygon_rest a_polygon_restByTwo a_polygon_points a_polygon_angles a_polygon_turns n_polygon_xs n_handX n_polygon_ys n_handY c_count c_polygon_count c_polygon_cost f_polygon_xs f_handX f_polygon_ys f_handY) := hD.sub [0, 5, 1, 2, 3, 4] (by decide) rfl
  refine lv_istore (lv' := [(5, .int r19), (4, .int r6), (0, .ref a_this), (1, .int x1), (2, .int x2), (3, .int x3)]) hx hb d_C_layHand_22 hl (by decide) rfl (fun ls hl => ?_)
  refine lv_aload_n hx hb d_C_layHand_24 rfl (lv_at hl 2 rfl) ?_
  refine va_get (D := (dC, dI)) (ci := 4) (v := .ref a_polygon) (C := R_C) (T := F_C) (N := 10) hx hb hts i_C_in hown hK hP 0 rfl rfl 0 (by decide) (hts _ q_159) (fun _ h9 => h9) rfl d_C_layHand_25 ?_
  refine lv_iload_n hx hb d_C_layHand_28 rfl (lv_at hl 3 rfl) ?_
  refine lv_iload_n hx hb d_C_layHand_29 rfl (lv_at hl 4 rfl) ?_
  obtain ⟨Q30, hq30, h⟩ := h
  have hPc := hP.sub (ws' := (cw_G_cornerBeside a_polygon a_polygon_outlines a_polygon_costs a_polygon_rest a_polygon_restByTwo a_polygon_points a_polygon_xs a_polygon_ys a_polygon_angles a_polygon_turns c_polygon_count c_polygon_cost)) [1] rfl
  have hDc := hD.sub (ws' := (cw_G_cornerBeside a_polygon a_polygon_outlines a_polygon_costs a_polygon_rest a_polygon_restByTwo a_polygon_points a_polygon_xs a_polygon_ys a_polygon_angles a_polygon_turns c_polygon_count c_polygon_cost)) [1] (by decide) rfl
  have hFc := va_free (wc := (cw_G_cornerBeside a_polygon a_polygon_outlines a_polygon_costs a_polygon_rest a_polygon_restByTwo a_polygon_points a_polygon_xs a_polygon_ys a_polygon_angles a_polygon_turns c_polygon_count c_polygon_cost)) hD hS hA [1] rfl
  refine va_calli (va_runV (As := [.int x1, .int x2]) (rest := []) ⟨hx, hb, hml, hown, hts⟩ (c_G_cornerBeside l dC dI cI cB cJ cZ a_polygon a_polygon_outlines a_polygon_costs a_polygon_rest a_polygon_restByTwo a_polygon_points a_polygon_xs a_polygon_ys a_polygon_angles a_polygon_turns H.size c_polygon_count c_polygon_cost x1 x2 Q30 hq30) (cwV 2 hts (goodV q_573 q_535 q_536 q_5 q_537) rfl rfl rfl (by decide +kernel) ⟨Nat.le_of_ble_eq_true rfl, Nat.le_of_ble_eq_true rfl⟩) ⟨fun a U g mk q => by obtain ⟨q0, q1, qP, qK, qD⟩ := q; exact ⟨q0, q1, qP, va_K.moved (u := U) (U := U.calling g mk a) (Vm.Alike.refl U.vm) qK, qD⟩, va_recv hK hPc (ci := 3) (q0 := 0) rfl rfl, fun U hU hW => ⟨rfl, by rw [hU], by rw [hU]; exact hPc, va_K.moved hW.alike hK, hDc.weaken (fun _ _ _ _ => trivial)⟩⟩ rfl rfl hl.1 rfl (lv_room (Nat.le_of_ble_eq_true rfl)) d_C_layHand_30 ⟨Nat.le_of_ble_eq_true rfl, Nat.le_of_ble_eq_true rfl⟩) hS (fun q _ h => hFc q h) hFc (fun r30 u30 t H1 locs ht hvm hw hB hz1 hk1 hS => ?_)
  cases u30
  obtain ⟨hP1, -, hD1⟩ := hB
  rw [ht] at hP1
  have h := h r30 hw
  obtain ⟨hP, hD⟩ := va_join (wr := [(a_this, .inr (4, [.ref a_polygon, .ref a_fewest, .ref a_takenLengths, .ref a_takenPulls, .ref a_firsts, .ref a_lengths, .ref a_pulls, .ref a_handX, .ref a_handY, .int c_count])), (a_polygon_xs, .inl (cI, n_polygon_xs, .inl f_polygon_xs)), (a_handX, .inl (cI, n_handX, .inl f_handX)), (a_polygon_ys, .inl (cI, n_polygon_ys, .inl f_polygon_ys)), (a_handY, .inl (cI, n_handY, .inl f_handY))]) (w1 := (cw_G_cornerBeside a_polygon a_polygon_outlines a_polygon_costs a_polygon_rest a_polygon_restByTwo a_polygon_points a_polygon_xs a_polygon_ys a_polygon_angles a_polygon_turns c_polygon_count c_polygon_cost)) hP hD [1] [0, 2, 3, 4, 5] rfl rfl (by decide) (by decide) hk1 hFc hP1 hD1
  clear hP1 hD1 hk1 hPc hDc hFc
  generalize H1 = H at hP hS ⊢
  have hP : va_P (dC, dI) vwCl (cw_C_layHand cI a_this a_polygon a_polygon_xs a_handX a_polygon_ys a_handY a_fewest a_takenLengths a_takenPulls a_firsts a_lengths a_pulls a_polygon_outlines a_polygon_costs a_polygon_rest a_polygon_restByTwo a_polygon_points a_polygon_angles a_polygon_turns n_polygon_xs n_handX n_polygon_ys n_handY c_count c_polygon_count c_polygon_cost f_polygon_xs f_handX f_polygon_ys f_handY) H := hP.sub [0, 5, 1, 2, 3, 4] rfl
  have hD : va_D A (cw_C_layHand cI a_this a_polygon a_polygon_xs a_handX a_polygon_ys a_handY a_fewest a_takenLengths a_takenPulls a_firsts a_lengths a_pulls a_polygon_outlines a_polygon_costs a_polygon_rest a_polygon_restByTwo a_polygon_points a_polygon_angles a_polygon_turns n_polygon_xs n_handX n_polygon_ys n_handY c_count c_polygon_count c_polygon_cost f_polygon_xs f_handX f_polygon_ys f_handY) := hD.sub [0, 5, 1, 2, 3, 4] (by decide) rfl
  refine lv_istore (lv' := [(6, .int r30), (5, .int r19), (4, .int r6), (0, .ref a_this), (1, .int x1), (2, .int x2), (3, .int x3)]) hx hb d_C_layHand_33 hl (by decide) rfl (fun ls hl => ?_)
  refine lv_aload_n hx hb d_C_layHand_35 rfl (lv_at hl 3 rfl) ?_
  refine va_get (D := (dC, dI)) (ci := 4) (v := .ref a_handX) (C := R_C) (T := F_C) (N := 10) hx hb hts i_C_in hown hK hP 0 rfl rfl 7 (by decide) (hts _ q_169) (fun _ h9 => h9) rfl d_C_layHand_36 ?_
  refine lv_aload_n hx hb d_C_layHand_39 rfl (lv_at hl 3 rfl) ?_
  refine va_get (D := (dC, dI)) (ci := 4) (v := .ref a_polygon) (C := R_C) (T := F_C) (N := 10) hx hb hts i_C_in hown hK hP 0 rfl rfl 0 (by decide) (hts _ q_159) (fun _ h9 => h9) rfl d_C_layHand_40 ?_
  refine va_get (D := (dC, dI)) (ci := 3) (v := .ref a_polygon_xs) (C := R_G) (T := F_G) (N := 11) hx hb hts i_G_in hown hK hP 1 rfl rfl 5 (by decide) (hts _ q_114) (fun _ h9 => h9) rfl d_C_layHand_43 ?_
  refine lv_iload_n hx hb d_C_layHand_46 rfl (lv_at hl 6 rfl) ?_
  refine lv_iload hx hb d_C_layHand_47 (lv_at hl 2 rfl) ?_
  refine lv_iload_n hx hb d_C_layHand_49 rfl (lv_at hl 4 rfl) ?_
  refine lv_iload hx hb d_C_layHand_50 (lv_at hl 1 rfl) ?_
  refine lv_iload hx hb d_C_layHand_52 (lv_at hl 0 rfl) ?_
  obtain ⟨Q54, hq54, h⟩ := h
  have hPc := hP.sub (ws' := (cw_C_layOn cI a_polygon_xs a_handX n_polygon_xs n_handX f_polygon_xs f_handX)) [2, 3] rfl
  have hDc := hD.sub (ws' := (cw_C_layOn cI a_polygon_xs a_handX n_polygon_xs n_handX f_polygon_xs f_handX)) [2, 3] (by decide) rfl
  have hFc := va_free (wc := (cw_C_layOn cI a_polygon_xs a_handX n_polygon_xs n_handX f_polygon_xs f_handX)) hD hS hA [2, 3] rfl
  refine va_callv (va_runS (As := [.ref a_handX, .ref a_polygon_xs, .int x3, .int r6, .int x1, .int r19, .int r30]) (rest := []) ⟨hx, hb, hml, hown, hts⟩ (c_C_layOn l dC dI cI cB cJ cZ a_polygon_xs a_handX H.size n_polygon_xs n_handX f_polygon_xs f_handX x3 r6 x1 r19 r30 Q54 hq54) (va_cwS 7 hts (goodS q_592 q_593 q_6 q_594) rfl rfl rfl (by decide +kernel) ⟨Nat.le_of_ble_eq_true rfl, Nat.le_of_ble_eq_true rfl⟩) ⟨fun a U g mk q => by obtain ⟨q0, q1, qP, qK, qD⟩ := q; exact ⟨q0, q1, qP, va_K.moved (u := U) (U := U.calling g mk a) (Vm.Alike.refl U.vm) qK, qD⟩, fun U hU hW => ⟨rfl, by rw [hU], by rw [hU]; exact hPc, va_K.moved hW.alike hK, hDc.weaken (fun _ _ _ _ => trivial)⟩⟩ rfl rfl hl.1 rfl (lv_room (Nat.le_of_ble_eq_true rfl)) d_C_layHand_54 ⟨Nat.le_of_ble_eq_true rfl, Nat.le_of_ble_eq_true rfl⟩) hS (fun q _ h => hFc q h) hFc (fun u54 t H1 locs ht hvm hw hB hz1 hk1 hS => ?_)
  obtain ⟨u54_0, rfl⟩ : ∃ z, z = u54 := ⟨_, rfl⟩
  obtain ⟨hP1, -, hD1⟩ := hB
  rw [ht] at hP1
  have h := h u54_0 hw
  obtain ⟨hP, hD⟩ := va_join (wr := [(a_this, .inr (4, [.ref a_polygon, .ref a_fewest, .ref a_takenLengths, .ref a_takenPulls, .ref a_firsts, .ref a_lengths, .ref a_pulls, .ref a_handX, .ref a_handY, .int c_count])), (a_polygon, .inr (3, [.ref a_polygon_outlines, .ref a_polygon_costs, .ref a_polygon_rest, .ref a_polygon_restByTwo, .ref a_polygon_points, .ref a_polygon_xs, .ref a_polygon_ys, .ref a_polygon_angles, .ref a_polygon_turns, .int c_polygon_count, .int c_polygon_cost])), (a_polygon_ys, .inl (cI, n_polygon_ys, .inl f_polygon_ys)), (a_handY, .inl (cI, n_handY, .inl f_handY))]) (w1 := (cw_C_layOn cI a_polygon_xs a_handX n_polygon_xs n_handX f_polygon_xs u54_0)) hP hD [2, 3] [0, 1, 4, 5] rfl rfl (by decide) (by decide) hk1 hFc hP1 hD1
  clear hP1 hD1 hk1 hPc hDc hFc
  generalize H1 = H at hP hS ⊢
  have hP : va_P (dC, dI) vwCl (cw_C_layHand cI a_this a_polygon a_polygon_xs a_handX a_polygon_ys a_handY a_fewest a_takenLengths a_takenPulls a_firsts a_lengths a_pulls a_polygon_outlines a_polygon_costs a_polygon_rest a_polygon_restByTwo a_polygon_points a_polygon_angles a_polygon_turns n_polygon_xs n_handX n_polygon_ys n_handY c_count c_polygon_count c_polygon_cost f_polygon_xs u54_0 f_polygon_ys f_handY) H := hP.sub [0, 1, 4, 5, 2, 3] rfl
  have hD : va_D A (cw_C_layHand cI a_this a_polygon a_polygon_xs a_handX a_polygon_ys a_handY a_fewest a_takenLengths a_takenPulls a_firsts a_lengths a_pulls a_polygon_outlines a_polygon_costs a_polygon_rest a_polygon_restByTwo a_polygon_points a_polygon_angles a_polygon_turns n_polygon_xs n_handX n_polygon_ys n_handY c_count c_polygon_count c_polygon_cost f_polygon_xs u54_0 f_polygon_ys f_handY) := hD.sub [0, 1, 4, 5, 2, 3] (by decide) rfl
  refine lv_aload_n hx hb d_C_layHand_57 rfl (lv_at hl 3 rfl) ?_
  refine va_get (D := (dC, dI)) (ci := 4) (v := .ref a_handY) (C := R_C) (T := F_C) (N := 10) hx hb hts i_C_in hown hK hP 0 rfl rfl 8 (by decide) (hts _ q_170) (fun _ h9 => h9) rfl d_C_layHand_58 ?_
  refine lv_aload_n hx hb d_C_layHand_61 rfl (lv_at hl 3 rfl) ?_
  refine va_get (D := (dC, dI)) (ci := 4) (v := .ref a_polygon) (C := R_C) (T := F_C) (N := 10) hx hb hts i_C_in hown hK hP 0 rfl rfl 0 (by decide) (hts _ q_159) (fun _ h9 => h9) rfl d_C_layHand_62 ?_
  refine va_get (D := (dC, dI)) (ci := 3) (v := .ref a_polygon_ys) (C := R_G) (T := F_G) (N := 11) hx hb hts i_G_in hown hK hP 1 rfl rfl 6 (by decide) (hts _ q_117) (fun _ h9 => h9) rfl d_C_layHand_65 ?_
  refine lv_iload_n hx hb d_C_layHand_68 rfl (lv_at hl 6 rfl) ?_
  refine lv_iload hx hb d_C_layHand_69 (lv_at hl 2 rfl) ?_
  refine lv_iload_n hx hb d_C_layHand_71 rfl (lv_at hl 4 rfl) ?_
  refine lv_iload hx hb d_C_layHand_72 (lv_at hl 1 rfl) ?_
  refine lv_iload hx hb d_C_layHand_74 (lv_at hl 0 rfl) ?_
  obtain ⟨Q76, hq76, h⟩ := h
  have hPc := hP.sub (ws' := (cw_C_layOn cI a_polygon_ys a_handY n_polygon_ys n_handY f_polygon_ys f_handY)) [4, 5] rfl
  have hDc := hD.sub (ws' := (cw_C_layOn cI a_polygon_ys a_handY n_polygon_ys n_handY f_polygon_ys f_handY)) [4, 5] (by decide) rfl
  have hFc := va_free (wc := (cw_C_layOn cI a_polygon_ys a_handY n_polygon_ys n_handY f_polygon_ys f_handY)) hD hS hA [4, 5] rfl
  refine va_callv (va_runS (As := [.ref a_handY, .ref a_polygon_ys, .int x3, .int r6, .int x1, .int r19, .int r30]) (rest := []) ⟨hx, hb, hml, hown, hts⟩ (c_C_layOn l dC dI cI cB cJ cZ a_polygon_ys a_handY H.size n_polygon_ys n_handY f_polygon_ys f_handY x3 r6 x1 r19 r30 Q76 hq76) (va_cwS 7 hts (goodS q_592 q_593 q_6 q_594) rfl rfl rfl (by decide +kernel) ⟨Nat.le_of_ble_eq_true rfl, Nat.le_of_ble_eq_true rfl⟩) ⟨fun a U g mk q => by obtain ⟨q0, q1, qP, qK, qD⟩ := q; exact ⟨q0, q1, qP, va_K.moved (u := U) (U := U.calling g mk a) (Vm.Alike.refl U.vm) qK, qD⟩, fun U hU hW => ⟨rfl, by rw [hU], by rw [hU]; exact hPc, va_K.moved hW.alike hK, hDc.weaken (fun _ _ _ _ => trivial)⟩⟩ rfl rfl hl.1 rfl (lv_room (Nat.le_of_ble_eq_true rfl)) d_C_layHand_76 ⟨Nat.le_of_ble_eq_true rfl, Nat.le_of_ble_eq_true rfl⟩) hS (fun q _ h => hFc q h) hFc (fun u76 t H1 locs ht hvm hw hB hz1 hk1 hS => ?_)
  obtain ⟨u76_0, rfl⟩ : ∃ z, z = u76 := ⟨_, rfl⟩
  obtain ⟨hP1, -, hD1⟩ := hB
  rw [ht] at hP1
  have h := h u76_0 hw
  obtain ⟨hP, hD⟩ := va_join (wr := [(a_this, .inr (4, [.ref a_polygon, .ref a_fewest, .ref a_takenLengths, .ref a_takenPulls, .ref a_firsts, .ref a_lengths, .ref a_pulls, .ref a_handX, .ref a_handY, .int c_count])), (a_polygon, .inr (3, [.ref a_polygon_outlines, .ref a_polygon_costs, .ref a_polygon_rest, .ref a_polygon_restByTwo, .ref a_polygon_points, .ref a_polygon_xs, .ref a_polygon_ys, .ref a_polygon_angles, .ref a_polygon_turns, .int c_polygon_count, .int c_polygon_cost])), (a_polygon_xs, .inl (cI, n_polygon_xs, .inl f_polygon_xs)), (a_handX, .inl (cI, n_handX, .inl u54_0))]) (w1 := (cw_C_layOn cI a_polygon_ys a_handY n_polygon_ys n_handY f_polygon_ys u76_0)) hP hD [4, 5] [0, 1, 2, 3] rfl rfl (by decide) (by decide) hk1 hFc hP1 hD1
  clear hP1 hD1 hk1 hPc hDc hFc
  generalize H1 = H at hP hS ⊢
  have hP : va_P (dC, dI) vwCl (cw_C_layHand cI a_this a_polygon a_polygon_xs a_handX a_polygon_ys a_handY a_fewest a_takenLengths a_takenPulls a_firsts a_lengths a_pulls a_polygon_outlines a_polygon_costs a_polygon_rest a_polygon_restByTwo a_polygon_points a_polygon_angles a_polygon_turns n_polygon_xs n_handX n_polygon_ys n_handY c_count c_polygon_count c_polygon_cost f_polygon_xs u54_0 f_polygon_ys u76_0) H := hP.sub [0, 1, 2, 3, 4, 5] rfl
  have hD : va_D A (cw_C_layHand cI a_this a_polygon a_polygon_xs a_handX a_polygon_ys a_handY a_fewest a_takenLengths a_takenPulls a_firsts a_lengths a_pulls a_polygon_outlines a_polygon_costs a_polygon_rest a_polygon_restByTwo a_polygon_points a_polygon_angles a_polygon_turns n_polygon_xs n_handX n_polygon_ys n_handY c_count c_polygon_count c_polygon_cost f_polygon_xs u54_0 f_polygon_ys u76_0) := hD.sub [0, 1, 2, 3, 4, 5] (by decide) rfl
  subst hQf
  exact W.vret hx hb hr (fun t ht hW => ⟨⟨(u54_0, u76_0), rfl, h, by rw [ht]; exact hP, va_K.moved hW.alike hK, hD⟩, hS.F ht⟩) hS.2.2 d_C_layHand_79
def wp_C_cubicAt (n_p0 : Nat) (f_p0 : Nat → Int32) (x1 : Int32) (post : Int32 → Unit → Prop) : Prop :=
  ∀ x2_4 : Int32, x2_4 = ((8 : Int32) - x1) → vp_in (0 : Int32) n_p0 ∧ vp_in (1 : Int32) n_p0 ∧ vp_in (2 : Int32) n_p0 ∧ vp_in (3 : Int32) n_p0 ∧ post ((((((x2_4 * x2_4) * x2_4) * (f_p0 (0 : Int32).toNatClampNeg)) + (((((3 : Int32) * x2_4) * x2_4) * x1) * (f_p0 (1 : Int32).toNatClampNeg))) + (((((3 : Int32) * x2_4) * x1) * x1) * (f_p0 (2 : Int32).toNatClampNeg))) + (((x1 * x1) * x1) * (f_p0 (3 : Int32).toNatClampNeg))) ()
abbrev cw_C_cubicAt (cI : ClassId) (a_p0 : Nat) (n_p0 : Nat) (f_p0 : Nat → Int32) : va_W := [(a_p0, .inl (cI, n_p0, .inl f_p0))]
abbrev qq_C_cubicAt (dC : Nat → ClassId) (dI : Nat → Nat → Nat) (cI cB cJ cZ : ClassId) (a_p0 : Nat) (n_p0 : Nat) (f_p0 : Nat → Int32) (A : Nat → Prop) (post : Int32 → Unit → Prop) : Array Value → State → Outcome → State → Prop := va_Qi post (fun _ t => va_P (dC, dI) vwCl (cw_C_cubicAt cI a_p0 n_p0 f_p0) t.heap ∧ va_K (dC, dI) vwCl [(cI, .int), (cB, .byte), (cJ, .long), (cZ, .boolean)] t ∧ va_D A (cw_C_cubicAt cI a_p0 n_p0 f_p0)) A
set_option maxHeartbeats 4000000 in
set_option maxRecDepth 100000 in
theorem c_C_cubicAt (l : Launch) (dC : Nat → ClassId) (dI : Nat → Nat → Nat) (cI cB cJ cZ : ClassId) (a_p0 : Nat) (sz : Nat) (n_p0 : Nat) (f_p0 : Nat → Int32) (x1 : Int32) (post : Int32 → Unit → Prop) (h : wp_C_cubicAt n_p0 f_p0 x1 post) : Met l y_C_cubicAt w_C_cubicAt ({ frames := 0, cells := 0, slots := 0, locals := 0 }) (va_Pc [.ref a_p0, .int x1] (fun U => U.heap.size = sz ∧ va_P (dC, dI) vwCl (cw_C_cubicAt cI a_p0 n_p0 f_p0) U.heap ∧ va_K (dC, dI) vwCl [(cI, .int), (cB, .byte), (cJ, .long), (cZ, .boolean)] U ∧ va_D (fun _ => True) (cw_C_cubicAt cI a_p0 n_p0 f_p0))) (qq_C_cubicAt dC dI cI cB cJ cZ a_p0 n_p0 f_p0 (va_A (cw_C_cubicAt cI a_p0 n_p0 f_p0) sz) post) 0 0 (va_A (cw_C_cubicAt cI a_p0 n_p0 f_p0) sz) := by
  refine Met.ofW (cc := b_C_cubicAt) (maxL := 3) (ret := (some .int)) (by decide +kernel) rfl ?_
  intro p e s m args below meth c s₁ B hml hv
  obtain ⟨rfl, hsz, hP, hK, hD0⟩ := hv
  have hx := B.exec
  have hb := B.bytes
  have hr := B.returns
  have hts : ∀ w ∈ allW, w.before _ s = true := fun w hw => atoms_spec (ws := w_C_cubicAt) B.pre w (List.mem_cons_of_mem _ hw)
  have hown : s.vm.findClass R_C = some m.cls := findClass_of_methodNamed B.named
  have hlocks := B.notSynchronized
  subst hsz
  have hD := hD0.self (sz := s.heap.size)
  generalize hAe : va_A (cw_C_cubicAt cI a_p0 n_p0 f_p0) s.heap.size = A at hD ⊢
  have hA : ∀ q : Nat, s.heap.size ≤ q → A q := fun q h => by rw [← hAe]; exact Or.inr h
  have hS : va_S A s.heap s.heap [] := va_S.rf
  clear hD0
  generalize hQf : MQ below (qq_C_cubicAt dC dI cI cB cJ cZ a_p0 n_p0 f_p0 A post) ([.ref a_p0, .int x1] : List Value).toArray s 0 0 A = Qf
  have hl := lv_entry ([.ref a_p0, .int x1]) (n := 3) (Nat.le_of_ble_eq_true rfl)
  rw [lg_entry_eq]
  generalize (lg_sl ([.ref a_p0, .int x1]) ++ List.replicate (3 - (lg_sl ([.ref a_p0, .int x1])).length) Slot.unset).toArray = ls at hl ⊢
  have hl : lv_has ls 3 [(0, .ref a_p0), (1, .int x1)] := hl
  unfold wp_C_cubicAt at h
  refine lv_bipush (v := 8) hx hb d_C_cubicAt_0 (by decide) ?_
  refine lv_iload_n hx hb d_C_cubicAt_2 rfl (lv_at hl 1 rfl) ?_
  refine lv_isub hx hb d_C_cubicAt_3 ?_
  refine lv_topi (fun x2_4 e_x2_4 => ?_)
  have h := h x2_4 e_x2_4
  refine lv_istore_n (lv' := [(2, .int x2_4), (0, .ref a_p0), (1, .int x1)]) hx hb d_C_cubicAt_4 rfl hl (by decide) rfl (fun ls hl => ?_)
  refine lv_iload_n hx hb d_C_cubicAt_5 rfl (lv_at hl 0 rfl) ?_
  refine lv_iload_n hx hb d_C_cubicAt_6 rfl (lv_at hl 0 rfl) ?_
  refine lv_imul hx hb d_C_cubicAt_7 ?_
  refine lv_iload_n hx hb d_C_cubicAt_8 rfl (lv_at hl 0 rfl) ?_
  refine lv_imul hx hb d_C_cubicAt_9 ?_
  refine lv_aload_n hx hb d_C_cubicAt_10 rfl (lv_at hl 1 rfl) ?_
  refine lv_iconst (v := 0) hx hb d_C_cubicAt_11 (by decide) ?_
  obtain ⟨hin, h⟩ := h
  refine va_iald hx hb hK hP 0 0 rfl rfl hin d_C_cubicAt_12 ?_
  refine lv_imul hx hb d_C_cubicAt_13 ?_
  refine lv_iconst (v := 3) hx hb d_C_cubicAt_14 (by decide) ?_
  refine lv_iload_n hx hb d_C_cubicAt_15 rfl (lv_at hl 0 rfl) ?_
  refine lv_imul hx hb d_C_cubicAt_16 ?_
  refine lv_iload_n hx hb d_C_cubicAt_17 rfl (lv_at hl 0 rfl) ?_
  refine lv_imul hx hb d_C_cubicAt_18 ?_
  refine lv_iload_n hx hb d_C_cubicAt_19 rfl (lv_at hl 2 rfl) ?_
  refine lv_imul hx hb d_C_cubicAt_20 ?_
  refine lv_aload_n hx hb d_C_cubicAt_21 rfl (lv_at hl 1 rfl) ?_
  refine lv_iconst (v := 1) hx hb d_C_cubicAt_22 (by decide) ?_
  obtain ⟨hin, h⟩ := h
  refine va_iald hx hb hK hP 0 0 rfl rfl hin d_C_cubicAt_23 ?_
  refine lv_imul hx hb d_C_cubicAt_24 ?_
  refine lv_iadd hx hb d_C_cubicAt_25 ?_
  refine lv_iconst (v := 3) hx hb d_C_cubicAt_26 (by decide) ?_
  refine lv_iload_n hx hb d_C_cubicAt_27 rfl (lv_at hl 0 rfl) ?_
  refine lv_imul hx hb d_C_cubicAt_28 ?_
  refine lv_iload_n hx hb d_C_cubicAt_29 rfl (lv_at hl 2 rfl) ?_
  refine lv_imul hx hb d_C_cubicAt_30 ?_
  refine lv_iload_n hx hb d_C_cubicAt_31 rfl (lv_at hl 2 rfl) ?_
  refine lv_imul hx hb d_C_cubicAt_32 ?_
  refine lv_aload_n hx hb d_C_cubicAt_33 rfl (lv_at hl 1 rfl) ?_
  refine lv_iconst (v := 2) hx hb d_C_cubicAt_34 (by decide) ?_
  obtain ⟨hin, h⟩ := h
  refine va_iald hx hb hK hP 0 0 rfl rfl hin d_C_cubicAt_35 ?_
  refine lv_imul hx hb d_C_cubicAt_36 ?_
  refine lv_iadd hx hb d_C_cubicAt_37 ?_
  refine lv_iload_n hx hb d_C_cubicAt_38 rfl (lv_at hl 2 rfl) ?_
  refine lv_iload_n hx hb d_C_cubicAt_39 rfl (lv_at hl 2 rfl) ?_
  refine lv_imul hx hb d_C_cubicAt_40 ?_
  refine lv_iload_n hx hb d_C_cubicAt_41 rfl (lv_at hl 2 rfl) ?_
  refine lv_imul hx hb d_C_cubicAt_42 ?_
  refine lv_aload_n hx hb d_C_cubicAt_43 rfl (lv_at hl 1 rfl) ?_
  refine lv_iconst (v := 3) hx hb d_C_cubicAt_44 (by decide) ?_
  obtain ⟨hin, h⟩ := h
  refine va_iald hx hb hK hP 0 0 rfl rfl hin d_C_cubicAt_45 ?_
  refine lv_imul hx hb d_C_cubicAt_46 ?_
  refine lv_iadd hx hb d_C_cubicAt_47 ?_
  subst hQf
  exact W.iret (v := ((((((x2_4 * x2_4) * x2_4) * (f_p0 (0 : Int32).toNatClampNeg)) + (((((3 : Int32) * x2_4) * x2_4) * x1) * (f_p0 (1 : Int32).toNatClampNeg))) + (((((3 : Int32) * x2_4) * x1) * x1) * (f_p0 (2 : Int32).toNatClampNeg))) + (((x1 * x1) * x1) * (f_p0 (3 : Int32).toNatClampNeg)))) hx hb hr (fun t ht hW => ⟨⟨((((((x2_4 * x2_4) * x2_4) * (f_p0 (0 : Int32).toNatClampNeg)) + (((((3 : Int32) * x2_4) * x2_4) * x1) * (f_p0 (1 : Int32).toNatClampNeg))) + (((((3 : Int32) * x2_4) * x1) * x1) * (f_p0 (2 : Int32).toNatClampNeg))) + (((x1 * x1) * x1) * (f_p0 (3 : Int32).toNatClampNeg))), (), rfl, h, by rw [ht]; exact hP, va_K.moved hW.alike hK, hD⟩, hS.F ht⟩) hS.2.2 d_C_cubicAt_48
def wp_C_nearLine_J194 (n_polygon_xs n_polygon_ys : Nat) (f_polygon_xs : Nat → Int32) (f_polygon_ys : Nat → Int32) (x5 : Int64) (x13 : Int64) (x15 : Int64) (post : Int32 → Unit → Prop) : Prop :=
  (0 < (lg_cmp ((x13 * x13) + (x15 * x15)) (x5 * x5)) → post (0 : Int32) ()) ∧ (¬ 0 < (lg_cmp ((x13 * x13) + (x15 * x15)) (x5 * x5)) → post (1 : Int32) ())
def wp_C_nearLine_J165 (n_polygon_xs n_polygon_ys : Nat) (f_polygon_xs : Nat → Int32) (f_polygon_ys : Nat → Int32) (x5 : Int64) (x7 : Int64) (x9 : Int64) (x13 : Int64) (x15 : Int64) (x17 : Int64) (post : Int32 → Unit → Prop) : Prop :=
  ((lg_cmp x17 (0 : Int64)) ≤ 0 → wp_C_nearLine_J194 n_polygon_xs n_polygon_ys f_polygon_xs f_polygon_ys x5 x13 x15 post) ∧ (¬ (lg_cmp x17 (0 : Int64)) ≤ 0 → ∀ x13_181 : Int64, x13_181 = (x13 - ((16384 : Int64) * x7)) → ∀ x15_192 : Int64, x15_192 = (x15 - ((16384 : Int64) * x9)) → wp_C_nearLine_J194 n_polygon_xs n_polygon_ys f_polygon_xs f_polygon_ys x5 x13_181 x15_192 post)
def wp_C_nearLine (n_polygon_xs n_polygon_ys : Nat) (f_polygon_xs : Nat → Int32) (f_polygon_ys : Nat → Int32) (x1 : Int32) (x2 : Int32) (x3 : Int32) (x4 : Int32) (x5 : Int64) (post : Int32 → Unit → Prop) : Prop :=
  vp_in x4 n_polygon_xs ∧ vp_in x3 n_polygon_xs ∧ ∀ x7_21 : Int64, x7_21 = (((f_polygon_xs x4.toNatClampNeg) - (f_polygon_xs x3.toNatClampNeg)).toInt64) → vp_in x4 n_polygon_ys ∧ vp_in x3 n_polygon_ys ∧ ∀ x9_44 : Int64, x9_44 = (((f_polygon_ys x4.toNatClampNeg) - (f_polygon_ys x3.toNatClampNeg)).toInt64) → ∀ x11_57 : Int64, x11_57 = ((x7_21 * x7_21) + (x9_44 * x9_44)) → vp_in x3 n_polygon_xs ∧ ∀ x13_76 : Int64, x13_76 = ((x1.toInt64) - ((16384 : Int64) * ((f_polygon_xs x3.toNatClampNeg).toInt64))) → vp_in x3 n_polygon_ys ∧ ∀ x15_95 : Int64, x15_95 = ((x2.toInt64) - ((16384 : Int64) * ((f_polygon_ys x3.toNatClampNeg).toInt64))) → ∀ x17_108 : Int64, x17_108 = ((x13_76 * x7_21) + (x15_95 * x9_44)) → ((lg_cmp x17_108 (0 : Int64)) ≤ 0 → wp_C_nearLine_J165 n_polygon_xs n_polygon_ys f_polygon_xs f_polygon_ys x5 x7_21 x9_44 x13_76 x15_95 x17_108 post) ∧ (¬ (lg_cmp x17_108 (0 : Int64)) ≤ 0 → (0 ≤ (lg_cmp x17_108 ((16384 : Int64) * x11_57)) → wp_C_nearLine_J165 n_polygon_xs n_polygon_ys f_polygon_xs f_polygon_ys x5 x7_21 x9_44 x13_76 x15_95 x17_108 post) ∧ (¬ 0 ≤ (lg_cmp x17_108 ((16384 : Int64) * x11_57)) → ∀ x19_140 : Int64, x19_140 = ((x13_76 * x9_44) - (x15_95 * x7_21)) → (0 < (lg_cmp (x19_140 * x19_140) ((x5 * x5) * x11_57)) → post (0 : Int32) ()) ∧ (¬ 0 < (lg_cmp (x19_140 * x19_140) ((x5 * x5) * x11_57)) → post (1 : Int32) ())))
abbrev cw_C_nearLine (cI : ClassId) (a_this a_polygon a_polygon_xs a_polygon_ys a_fewest a_takenLengths a_takenPulls a_firsts a_lengths a_pulls a_handX a_handY a_polygon_outlines a_polygon_costs a_polygon_rest a_polygon_restByTwo a_polygon_points a_polygon_angles a_polygon_turns : Nat) (n_polygon_xs n_polygon_ys : Nat) (c_count : Int32) (c_polygon_count : Int32) (c_polygon_cost : Int32) (f_polygon_xs : Nat → Int32) (f_polygon_ys : Nat → Int32) : va_W := [(a_this, .inr (4, [.ref a_polygon, .ref a_fewest, .ref a_takenLengths, .ref a_takenPulls, .ref a_firsts, .ref a_lengths, .ref a_pulls, .ref a_handX, .ref a_handY, .int c_count])), (a_polygon, .inr (3, [.ref a_polygon_outlines, .ref a_polygon_costs, .ref a_polygon_rest, .ref a_polygon_restByTwo, .ref a_polygon_points, .ref a_polygon_xs, .ref a_polygon_ys, .ref a_polygon_angles, .ref a_polygon_turns, .int c_polygon_count, .int c_polygon_cost])), (a_polygon_xs, .inl (cI, n_polygon_xs, .inl f_polygon_xs)), (a_polygon_ys, .inl (cI, n_polygon_ys, .inl f_polygon_ys))]
abbrev qq_C_nearLine (dC : Nat → ClassId) (dI : Nat → Nat → Nat) (cI cB cJ cZ : ClassId) (a_this a_polygon a_polygon_xs a_polygon_ys a_fewest a_takenLengths a_takenPulls a_firsts a_lengths a_pulls a_handX a_handY a_polygon_outlines a_polygon_costs a_polygon_rest a_polygon_restByTwo a_polygon_points a_polygon_angles a_polygon_turns : Nat) (n_polygon_xs n_polygon_ys : Nat) (c_count : Int32) (c_polygon_count : Int32) (c_polygon_cost : Int32) (f_polygon_xs : Nat → Int32) (f_polygon_ys : Nat → Int32) (A : Nat → Prop) (post : Int32 → Unit → Prop) : Array Value → State → Outcome → State → Prop := va_Qi post (fun _ t => va_P (dC, dI) vwCl (cw_C_nearLine cI a_this a_polygon a_polygon_xs a_polygon_ys a_fewest a_takenLengths a_takenPulls a_firsts a_lengths a_pulls a_handX a_handY a_polygon_outlines a_polygon_costs a_polygon_rest a_polygon_restByTwo a_polygon_points a_polygon_angles a_polygon_turns n_polygon_xs n_polygon_ys c_count c_polygon_count c_polygon_cost f_polygon_xs f_polygon_ys) t.heap ∧ va_K (dC, dI) vwCl [(cI, .int), (cB, .byte), (cJ, .long), (cZ, .boolean)] t ∧ va_D A (cw_C_nearLine cI a_this a_polygon a_polygon_xs a_polygon_ys a_fewest a_takenLengths a_takenPulls a_firsts a_lengths a_pulls a_handX a_handY a_polygon_outlines a_polygon_costs a_polygon_rest a_polygon_restByTwo a_polygon_points a_polygon_angles a_polygon_turns n_polygon_xs n_polygon_ys c_count c_polygon_count c_polygon_cost f_polygon_xs f_polygon_ys)) A
set_option maxHeartbeats 4000000 in
set_option maxRecDepth 100000 in
theorem c_C_nearLine (l : Launch) (dC : Nat → ClassId) (dI : Nat → Nat → Nat) (cI cB cJ cZ : ClassId) (a_this a_polygon a_polygon_xs a_polygon_ys a_fewest a_takenLengths a_takenPulls a_firsts a_lengths a_pulls a_handX a_handY a_polygon_outlines a_polygon_costs a_polygon_rest a_polygon_restByTwo a_polygon_points a_polygon_angles a_polygon_turns : Nat) (sz : Nat) (n_polygon_xs n_polygon_ys : Nat) (c_count : Int32) (c_polygon_count : Int32) (c_polygon_cost : Int32) (f_polygon_xs : Nat → Int32) (f_polygon_ys : Nat → Int32) (x1 : Int32) (x2 : Int32) (x3 : Int32) (x4 : Int32) (x5 : Int64) (post : Int32 → Unit → Prop) (h : wp_C_nearLine n_polygon_xs n_polygon_ys f_polygon_xs f_polygon_ys x1 x2 x3 x4 x5 post) : Met l y_C_nearLine w_C_nearLine ({ frames := 0, cells := 0, slots := 0, locals := 0 }) (va_Pc [.ref a_this, .int x1, .int x2, .int x3, .int x4, .long x5] (fun U => U.heap.size = sz ∧ va_P (dC, dI) vwCl (cw_C_nearLine cI a_this a_polygon a_polygon_xs a_polygon_ys a_fewest a_takenLengths a_takenPulls a_firsts a_lengths a_pulls a_handX a_handY a_polygon_outlines a_polygon_costs a_polygon_rest a_polygon_restByTwo a_polygon_points a_polygon_angles a_polygon_turns n_polygon_xs n_polygon_ys c_count c_polygon_count c_polygon_cost f_polygon_xs f_polygon_ys) U.heap ∧ va_K (dC, dI) vwCl [(cI, .int), (cB, .byte), (cJ, .long), (cZ, .boolean)] U ∧ va_D (fun _ => True) (cw_C_nearLine cI a_this a_polygon a_polygon_xs a_polygon_ys a_fewest a_takenLengths a_takenPulls a_firsts a_lengths a_pulls a_handX a_handY a_polygon_outlines a_polygon_costs a_polygon_rest a_polygon_restByTwo a_polygon_points a_polygon_angles a_polygon_turns n_polygon_xs n_polygon_ys c_count c_polygon_count c_polygon_cost f_polygon_xs f_polygon_ys))) (qq_C_nearLine dC dI cI cB cJ cZ a_this a_polygon a_polygon_xs a_polygon_ys a_fewest a_takenLengths a_takenPulls a_firsts a_lengths a_pulls a_handX a_handY a_polygon_outlines a_polygon_costs a_polygon_rest a_polygon_restByTwo a_polygon_points a_polygon_angles a_polygon_turns n_polygon_xs n_polygon_ys c_count c_polygon_count c_polygon_cost f_polygon_xs f_polygon_ys (va_A (cw_C_nearLine cI a_this a_polygon a_polygon_xs a_polygon_ys a_fewest a_takenLengths a_takenPulls a_firsts a_lengths a_pulls a_handX a_handY a_polygon_outlines a_polygon_costs a_polygon_rest a_polygon_restByTwo a_polygon_points a_polygon_angles a_polygon_turns n_polygon_xs n_polygon_ys c_count c_polygon_count c_polygon_cost f_polygon_xs f_polygon_ys) sz) post) 0 0 (va_A (cw_C_nearLine cI a_this a_polygon a_polygon_xs a_polygon_ys a_fewest a_takenLengths a_takenPulls a_firsts a_lengths a_pulls a_handX a_handY a_polygon_outlines a_polygon_costs a_polygon_rest a_polygon_restByTwo a_polygon_points a_polygon_angles a_polygon_turns n_polygon_xs n_polygon_ys c_count c_polygon_count c_polygon_cost f_polygon_xs f_polygon_ys) sz) := by
  refine Met.ofW (cc := b_C_nearLine) (maxL := 21) (ret := (some .boolean)) (by decide +kernel) rfl ?_
  intro p e s m args below meth c s₁ B hml hv
  obtain ⟨rfl, hsz, hP, hK, hD0⟩ := hv
  have hx := B.exec
  have hb := B.bytes
  have hr := B.returns
  have hts : ∀ w ∈ allW, w.before _ s = true := fun w hw => atoms_spec (ws := w_C_nearLine) B.pre w (List.mem_cons_of_mem _ hw)
  have hown : s.vm.findClass R_C = some m.cls := findClass_of_methodNamed B.named
  have hlocks := B.notSynchronized
  subst hsz
  have hD := hD0.self (sz := s.heap.size)
  generalize hAe : va_A (cw_C_nearLine cI a_this a_polygon a_polygon_xs a_polygon_ys a_fewest a_takenLengths a_takenPulls a_firsts a_lengths a_pulls a_handX a_handY a_polygon_outlines a_polygon_costs a_polygon_rest a_polygon_restByTwo a_polygon_points a_polygon_angles a_polygon_turns n_polygon_xs n_polygon_ys c_count c_polygon_count c_polygon_cost f_polygon_xs f_polygon_ys) s.heap.size = A at hD ⊢
  have hA : ∀ q : Nat, s.heap.size ≤ q → A q := fun q h => by rw [← hAe]; exact Or.inr h
  have hS : va_S A s.heap s.heap [] := va_S.rf
  clear hD0
  generalize hQf : MQ below (qq_C_nearLine dC dI cI cB cJ cZ a_this a_polygon a_polygon_xs a_polygon_ys a_fewest a_takenLengths a_takenPulls a_firsts a_lengths a_pulls a_handX a_handY a_polygon_outlines a_polygon_costs a_polygon_rest a_polygon_restByTwo a_polygon_points a_polygon_angles a_polygon_turns n_polygon_xs n_polygon_ys c_count c_polygon_count c_polygon_cost f_polygon_xs f_polygon_ys A post) ([.ref a_this, .int x1, .int x2, .int x3, .int x4, .long x5] : List Value).toArray s 0 0 A = Qf
  have hl := lv_entry ([.ref a_this, .int x1, .int x2, .int x3, .int x4, .long x5]) (n := 21) (Nat.le_of_ble_eq_true rfl)
  rw [lg_entry_eq]
  generalize (lg_sl ([.ref a_this, .int x1, .int x2, .int x3, .int x4, .long x5]) ++ List.replicate (21 - (lg_sl ([.ref a_this, .int x1, .int x2, .int x3, .int x4, .long x5])).length) Slot.unset).toArray = ls at hl ⊢
  have hl : lv_has ls 21 [(0, .ref a_this), (1, .int x1), (2, .int x2), (3, .int x3), (4, .int x4), (5, .long x5)] := hl
  unfold wp_C_nearLine at h
  have J194 : ∀ (x5_j194 : Int64) (x13_j194 : Int64) (x15_j194 : Int64) (H : Heap) (locs : List Loc) (ls : Array Slot), wp_C_nearLine_J194 n_polygon_xs n_polygon_ys f_polygon_xs f_polygon_ys x5_j194 x13_j194 x15_j194 post → va_P (dC, dI) vwCl (cw_C_nearLine cI a_this a_polygon a_polygon_xs a_polygon_ys a_fewest a_takenLengths a_takenPulls a_firsts a_lengths a_pulls a_handX a_handY a_polygon_outlines a_polygon_costs a_polygon_rest a_polygon_restByTwo a_polygon_points a_polygon_angles a_polygon_turns n_polygon_xs n_polygon_ys c_count c_polygon_count c_polygon_cost f_polygon_xs f_polygon_ys) H → va_D A (cw_C_nearLine cI a_this a_polygon a_polygon_xs a_polygon_ys a_fewest a_takenLengths a_takenPulls a_firsts a_lengths a_pulls a_handX a_handY a_polygon_outlines a_polygon_costs a_polygon_rest a_polygon_restByTwo a_polygon_points a_polygon_angles a_polygon_turns n_polygon_xs n_polygon_ys c_count c_polygon_count c_polygon_cost f_polygon_xs f_polygon_ys) → va_S A s.heap H locs → lv_has ls 21 [(5, .long x5_j194), (13, .long x13_j194), (15, .long x15_j194)] → W p l e (headSpec w_C_nearLine ({ frames := 0, cells := 0, slots := 0, locals := 0 })).room s m ([.ref a_this, .int x1, .int x2, .int x3, .int x4, .long x5] : List Value).toArray below meth c H locs 0 0 Qf (F0 m 194 ls []) := by
    intro x5_j194 x13_j194 x15_j194 H locs ls h hP hD hS hl
    unfold wp_C_nearLine_J194 at h
    refine lv_lload hx hb d_C_nearLine_194 (lv_at hl 1 rfl) ?_
    refine lv_lload hx hb d_C_nearLine_196 (lv_at hl 1 rfl) ?_
    refine lv_lmul hx hb d_C_nearLine_198 ?_
    refine lv_lload hx hb d_C_nearLine_199 (lv_at hl 2 rfl) ?_
    refine lv_lload hx hb d_C_nearLine_201 (lv_at hl 2 rfl) ?_
    refine lv_lmul hx hb d_C_nearLine_203 ?_
    refine lv_ladd hx hb d_C_nearLine_204 ?_
    refine lv_lload hx hb d_C_nearLine_205 (lv_at hl 0 rfl) ?_
    refine lv_lload hx hb d_C_nearLine_207 (lv_at hl 0 rfl) ?_
    refine lv_lmul hx hb d_C_nearLine_209 ?_
    refine W.lcmp hx hb d_C_nearLine_210 ?_
    refine lv_if_gt (tgt := 218) hx hb d_C_nearLine_211 (by decide) (fun cc_ => ?_) (fun cc_ => ?_)
    · have h := h.1 cc_
      refine lv_iconst (v := 0) hx hb d_C_nearLine_218 (by decide) ?_
      subst hQf
      exact W.zret (v := (0 : Int32)) hx hb hr (by rfl) (fun t ht hW => ⟨⟨(0 : Int32), (), rfl, h, by rw [ht]; exact hP, va_K.moved hW.alike hK, hD⟩, hS.F ht⟩) hS.2.2 d_C_nearLine_219
    · have h := h.2 cc_
      refine lv_iconst (v := 1) hx hb d_C_nearLine_214 (by decide) ?_
      refine lv_goto (tgt := 219) hx hb d_C_nearLine_215 (by decide) ?_
      subst hQf
      exact W.zret (v := (1 : Int32)) hx hb hr (by rfl) (fun t ht hW => ⟨⟨(1 : Int32), (), rfl, h, by rw [ht]; exact hP, va_K.moved hW.alike hK, hD⟩, hS.F ht⟩) hS.2.2 d_C_nearLine_219
  have J165 : ∀ (x5_j165 : Int64) (x7_j165 : Int64) (x9_j165 : Int64) (x13_j165 : Int64) (x15_j165 : Int64) (x17_j165 : Int64) (H : Heap) (locs : List Loc) (ls : Array Slot), wp_C_nearLine_J165 n_polygon_xs n_polygon_ys f_polygon_xs f_polygon_ys x5_j165 x7_j165 x9_j165 x13_j165 x15_j165 x17_j165 post → va_P (dC, dI) vwCl (cw_C_nearLine cI a_this a_polygon a_polygon_xs a_polygon_ys a_fewest a_takenLengths a_takenPulls a_firsts a_lengths a_pulls a_handX a_handY a_polygon_outlines a_polygon_costs a_polygon_rest a_polygon_restByTwo a_polygon_points a_polygon_angles a_polygon_turns n_polygon_xs n_polygon_ys c_count c_polygon_count c_polygon_cost f_polygon_xs f_polygon_ys) H → va_D A (cw_C_nearLine cI a_this a_polygon a_polygon_xs a_polygon_ys a_fewest a_takenLengths a_takenPulls a_firsts a_lengths a_pulls a_handX a_handY a_polygon_outlines a_polygon_costs a_polygon_rest a_polygon_restByTwo a_polygon_points a_polygon_angles a_polygon_turns n_polygon_xs n_polygon_ys c_count c_polygon_count c_polygon_cost f_polygon_xs f_polygon_ys) → va_S A s.heap H locs → lv_has ls 21 [(5, .long x5_j165), (7, .long x7_j165), (9, .long x9_j165), (13, .long x13_j165), (15, .long x15_j165), (17, .long x17_j165)] → W p l e (headSpec w_C_nearLine ({ frames := 0, cells := 0, slots := 0, locals := 0 })).room s m ([.ref a_this, .int x1, .int x2, .int x3, .int x4, .long x5] : List Value).toArray below meth c H locs 0 0 Qf (F0 m 165 ls []) := by
    intro x5_j165 x7_j165 x9_j165 x13_j165 x15_j165 x17_j165 H locs ls h hP hD hS hl
    unfold wp_C_nearLine_J165 at h
    refine lv_lload hx hb d_C_nearLine_165 (lv_at hl 5 rfl) ?_
    refine lv_lconst (v := 0) hx hb d_C_nearLine_167 (by decide) ?_
    refine W.lcmp hx hb d_C_nearLine_168 ?_
    refine lv_if_le (tgt := 194) hx hb d_C_nearLine_169 (by decide) (fun cc_ => ?_) (fun cc_ => ?_)
    · have h := h.1 cc_
      exact J194 x5_j165 x13_j165 x15_j165 _ _ _ h hP hD hS (lv_sub hl [0, 3, 4] rfl)
    · have h := h.2 cc_
      refine lv_lload hx hb d_C_nearLine_172 (lv_at hl 3 rfl) ?_
      refine lv_ldc2 (v := 16384) hx hb hown (hts _ q_611) d_C_nearLine_174 ?_
      refine lv_lload hx hb d_C_nearLine_177 (lv_at hl 1 rfl) ?_
      refine lv_lmul hx hb d_C_nearLine_179 ?_
      refine lv_lsub hx hb d_C_nearLine_180 ?_
      refine lv_topl (fun x13_181 e_x13_181 => ?_)
      have h := h x13_181 e_x13_181
      refine lv_lstore (lv' := [(13, .long x13_181), (5, .long x5_j165), (7, .long x7_j165), (9, .long x9_j165), (15, .long x15_j165), (17, .long x17_j165)]) hx hb d_C_nearLine_181 hl (by decide) rfl (fun ls hl => ?_)
      refine lv_lload hx hb d_C_nearLine_183 (lv_at hl 4 rfl) ?_
      refine lv_ldc2 (v := 16384) hx hb hown (hts _ q_611) d_C_nearLine_185 ?_
      refine lv_lload hx hb d_C_nearLine_188 (lv_at hl 3 rfl) ?_
      refine lv_lmul hx hb d_C_nearLine_190 ?_
      refine lv_lsub hx hb d_C_nearLine_191 ?_
      refine lv_topl (fun x15_192 e_x15_192 => ?_)
      have h := h x15_192 e_x15_192
      refine lv_lstore (lv' := [(15, .long x15_192), (13, .long x13_181), (5, .long x5_j165), (7, .long x7_j165), (9, .long x9_j165), (17, .long x17_j165)]) hx hb d_C_nearLine_192 hl (by decide) rfl (fun ls hl => ?_)
      exact J194 x5_j165 x13_181 x15_192 _ _ _ h hP hD hS (lv_sub hl [2, 1, 0] rfl)
  refine lv_aload_n hx hb d_C_nearLine_0 rfl (lv_at hl 0 rfl) ?_
  refine va_get (D := (dC, dI)) (ci := 4) (v := .ref a_polygon) (C := R_C) (T := F_C) (N := 10) hx hb hts i_C_in hown hK hP 0 rfl rfl 0 (by decide) (hts _ q_159) (fun _ h9 => h9) rfl d_C_nearLine_1 ?_
  refine va_get (D := (dC, dI)) (ci := 3) (v := .ref a_polygon_xs) (C := R_G) (T := F_G) (N := 11) hx hb hts i_G_in hown hK hP 1 rfl rfl 5 (by decide) (hts _ q_114) (fun _ h9 => h9) rfl d_C_nearLine_4 ?_
  refine lv_iload hx hb d_C_nearLine_7 (lv_at hl 4 rfl) ?_
  obtain ⟨hin, h⟩ := h
  refine va_iald hx hb hK hP 2 0 rfl rfl hin d_C_nearLine_9 ?_
  refine lv_aload_n hx hb d_C_nearLine_10 rfl (lv_at hl 0 rfl) ?_
  refine va_get (D := (dC, dI)) (ci := 4) (v := .ref a_polygon) (C := R_C) (T := F_C) (N := 10) hx hb hts i_C_in hown hK hP 0 rfl rfl 0 (by decide) (hts _ q_159) (fun _ h9 => h9) rfl d_C_nearLine_11 ?_
  refine va_get (D := (dC, dI)) (ci := 3) (v := .ref a_polygon_xs) (C := R_G) (T := F_G) (N := 11) hx hb hts i_G_in hown hK hP 1 rfl rfl 5 (by decide) (hts _ q_114) (fun _ h9 => h9) rfl d_C_nearLine_14 ?_
  refine lv_iload_n hx hb d_C_nearLine_17 rfl (lv_at hl 3 rfl) ?_
  obtain ⟨hin, h⟩ := h
  refine va_iald hx hb hK hP 2 0 rfl rfl hin d_C_nearLine_18 ?_
  refine lv_isub hx hb d_C_nearLine_19 ?_
  refine lv_i2l hx hb d_C_nearLine_20 rfl ?_
  refine lv_topl (fun x7_21 e_x7_21 => ?_)
  have h := h x7_21 e_x7_21
  refine lv_lstore (lv' := [(7, .long x7_21), (0, .ref a_this), (1, .int x1), (2, .int x2), (3, .int x3), (4, .int x4), (5, .long x5)]) hx hb d_C_nearLine_21 hl (by decide) rfl (fun ls hl => ?_)
  refine lv_aload_n hx hb d_C_nearLine_23 rfl (lv_at hl 1 rfl) ?_
  refine va_get (D := (dC, dI)) (ci := 4) (v := .ref a_polygon) (C := R_C) (T := F_C) (N := 10) hx hb hts i_C_in hown hK hP 0 rfl rfl 0 (by decide) (hts _ q_159) (fun _ h9 => h9) rfl d_C_nearLine_24 ?_
  refine va_get (D := (dC, dI)) (ci := 3) (v := .ref a_polygon_ys) (C := R_G) (T := F_G) (N := 11) hx hb hts i_G_in hown hK hP 1 rfl rfl 6 (by decide) (hts _ q_117) (fun _ h9 => h9) rfl d_C_nearLine_27 ?_
  refine lv_iload hx hb d_C_nearLine_30 (lv_at hl 5 rfl) ?_
  obtain ⟨hin, h⟩ := h
  refine va_iald hx hb hK hP 3 0 rfl rfl hin d_C_nearLine_32 ?_
  refine lv_aload_n hx hb d_C_nearLine_33 rfl (lv_at hl 1 rfl) ?_
  refine va_get (D := (dC, dI)) (ci := 4) (v := .ref a_polygon) (C := R_C) (T := F_C) (N := 10) hx hb hts i_C_in hown hK hP 0 rfl rfl 0 (by decide) (hts _ q_159) (fun _ h9 => h9) rfl d_C_nearLine_34 ?_
  refine va_get (D := (dC, dI)) (ci := 3) (v := .ref a_polygon_ys) (C := R_G) (T := F_G) (N := 11) hx hb hts i_G_in hown hK hP 1 rfl rfl 6 (by decide) (hts _ q_117) (fun _ h9 => h9) rfl d_C_nearLine_37 ?_
  refine lv_iload_n hx hb d_C_nearLine_40 rfl (lv_at hl 4 rfl) ?_
  obtain ⟨hin, h⟩ := h
  refine va_iald hx hb hK hP 3 0 rfl rfl hin d_C_nearLine_41 ?_
  refine lv_isub hx hb d_C_nearLine_42 ?_
  refine lv_i2l hx hb d_C_nearLine_43 rfl ?_
  refine lv_topl (fun x9_44 e_x9_44 => ?_)
  have h := h x9_44 e_x9_44
  refine lv_lstore (lv' := [(9, .long x9_44), (7, .long x7_21), (0, .ref a_this), (1, .int x1), (2, .int x2), (3, .int x3), (4, .int x4), (5, .long x5)]) hx hb d_C_nearLine_44 hl (by decide) rfl (fun ls hl => ?_)
  refine lv_lload hx hb d_C_nearLine_46 (lv_at hl 1 rfl) ?_
  refine lv_lload hx hb d_C_nearLine_48 (lv_at hl 1 rfl) ?_
  refine lv_lmul hx hb d_C_nearLine_50 ?_
  refine lv_lload hx hb d_C_nearLine_51 (lv_at hl 0 rfl) ?_
  refine lv_lload hx hb d_C_nearLine_53 (lv_at hl 0 rfl) ?_
  refine lv_lmul hx hb d_C_nearLine_55 ?_
  refine lv_ladd hx hb d_C_nearLine_56 ?_
  refine lv_topl (fun x11_57 e_x11_57 => ?_)
  have h := h x11_57 e_x11_57
  refine lv_lstore (lv' := [(11, .long x11_57), (9, .long x9_44), (7, .long x7_21), (0, .ref a_this), (1, .int x1), (2, .int x2), (3, .int x3), (4, .int x4), (5, .long x5)]) hx hb d_C_nearLine_57 hl (by decide) rfl (fun ls hl => ?_)
  refine lv_iload_n hx hb d_C_nearLine_59 rfl (lv_at hl 4 rfl) ?_
  refine lv_i2l hx hb d_C_nearLine_60 rfl ?_
  refine lv_ldc2 (v := 16384) hx hb hown (hts _ q_611) d_C_nearLine_61 ?_
  refine lv_aload_n hx hb d_C_nearLine_64 rfl (lv_at hl 3 rfl) ?_
  refine va_get (D := (dC, dI)) (ci := 4) (v := .ref a_polygon) (C := R_C) (T := F_C) (N := 10) hx hb hts i_C_in hown hK hP 0 rfl rfl 0 (by decide) (hts _ q_159) (fun _ h9 => h9) rfl d_C_nearLine_65 ?_
  refine va_get (D := (dC, dI)) (ci := 3) (v := .ref a_polygon_xs) (C := R_G) (T := F_G) (N := 11) hx hb hts i_G_in hown hK hP 1 rfl rfl 5 (by decide) (hts _ q_114) (fun _ h9 => h9) rfl d_C_nearLine_68 ?_
  refine lv_iload_n hx hb d_C_nearLine_71 rfl (lv_at hl 6 rfl) ?_
  obtain ⟨hin, h⟩ := h
  refine va_iald hx hb hK hP 2 0 rfl rfl hin d_C_nearLine_72 ?_
  refine lv_i2l hx hb d_C_nearLine_73 rfl ?_
  refine lv_lmul hx hb d_C_nearLine_74 ?_
  refine lv_lsub hx hb d_C_nearLine_75 ?_
  refine lv_topl (fun x13_76 e_x13_76 => ?_)
  have h := h x13_76 e_x13_76
  refine lv_lstore (lv' := [(13, .long x13_76), (11, .long x11_57), (9, .long x9_44), (7, .long x7_21), (0, .ref a_this), (1, .int x1), (2, .int x2), (3, .int x3), (4, .int x4), (5, .long x5)]) hx hb d_C_nearLine_76 hl (by decide) rfl (fun ls hl => ?_)
  refine lv_iload_n hx hb d_C_nearLine_78 rfl (lv_at hl 6 rfl) ?_
  refine lv_i2l hx hb d_C_nearLine_79 rfl ?_
  refine lv_ldc2 (v := 16384) hx hb hown (hts _ q_611) d_C_nearLine_80 ?_
  refine lv_aload_n hx hb d_C_nearLine_83 rfl (lv_at hl 4 rfl) ?_
  refine va_get (D := (dC, dI)) (ci := 4) (v := .ref a_polygon) (C := R_C) (T := F_C) (N := 10) hx hb hts i_C_in hown hK hP 0 rfl rfl 0 (by decide) (hts _ q_159) (fun _ h9 => h9) rfl d_C_nearLine_84 ?_
  refine va_get (D := (dC, dI)) (ci := 3) (v := .ref a_polygon_ys) (C := R_G) (T := F_G) (N := 11) hx hb hts i_G_in hown hK hP 1 rfl rfl 6 (by decide) (hts _ q_117) (fun _ h9 => h9) rfl d_C_nearLine_87 ?_
  refine lv_iload_n hx hb d_C_nearLine_90 rfl (lv_at hl 7 rfl) ?_
  obtain ⟨hin, h⟩ := h
  refine va_iald hx hb hK hP 3 0 rfl rfl hin d_C_nearLine_91 ?_
  refine lv_i2l hx hb d_C_nearLine_92 rfl ?_
  refine lv_lmul hx hb d_C_nearLine_93 ?_
  refine lv_lsub hx hb d_C_nearLine_94 ?_
  refine lv_topl (fun x15_95 e_x15_95 => ?_)
  have h := h x15_95 e_x15_95
  refine lv_lstore (lv' := [(15, .long x15_95), (13, .long x13_76), (11, .long x11_57), (9, .long x9_44), (7, .long x7_21), (0, .ref a_this), (1, .int x1), (2, .int x2), (3, .int x3), (4, .int x4), (5, .long x5)]) hx hb d_C_nearLine_95 hl (by decide) rfl (fun ls hl => ?_)
  refine lv_lload hx hb d_C_nearLine_97 (lv_at hl 1 rfl) ?_
  refine lv_lload hx hb d_C_nearLine_99 (lv_at hl 4 rfl) ?_
  refine lv_lmul hx hb d_C_nearLine_101 ?_
  refine lv_lload hx hb d_C_nearLine_102 (lv_at hl 0 rfl) ?_
  refine lv_lload hx hb d_C_nearLine_104 (lv_at hl 3 rfl) ?_
  refine lv_lmul hx hb d_C_nearLine_106 ?_
  refine lv_ladd hx hb d_C_nearLine_107 ?_
  refine lv_topl (fun x17_108 e_x17_108 => ?_)
  have h := h x17_108 e_x17_108
  refine lv_lstore (lv' := [(17, .long x17_108), (15, .long x15_95), (13, .long x13_76), (11, .long x11_57), (9, .long x9_44), (7, .long x7_21), (0, .ref a_this), (1, .int x1), (2, .int x2), (3, .int x3), (4, .int x4), (5, .long x5)]) hx hb d_C_nearLine_108 hl (by decide) rfl (fun ls hl => ?_)
  refine lv_lload hx hb d_C_nearLine_110 (lv_at hl 0 rfl) ?_
  refine lv_lconst (v := 0) hx hb d_C_nearLine_112 (by decide) ?_
  refine W.lcmp hx hb d_C_nearLine_113 ?_
  refine lv_if_le (tgt := 165) hx hb d_C_nearLine_114 (by decide) (fun cc_ => ?_) (fun cc_ => ?_)
  · have h := h.1 cc_
    exact J165 x5 x7_21 x9_44 x13_76 x15_95 x17_108 _ _ _ h hP hD hS (lv_sub hl [11, 5, 4, 2, 1, 0] rfl)
  · have h := h.2 cc_
    refine lv_lload hx hb d_C_nearLine_117 (lv_at hl 0 rfl) ?_
    refine lv_ldc2 (v := 16384) hx hb hown (hts _ q_611) d_C_nearLine_119 ?_
    refine lv_lload hx hb d_C_nearLine_122 (lv_at hl 3 rfl) ?_
    refine lv_lmul hx hb d_C_nearLine_124 ?_
    refine W.lcmp hx hb d_C_nearLine_125 ?_
    refine lv_if_ge (tgt := 165) hx hb d_C_nearLine_126 (by decide) (fun cc_ => ?_) (fun cc_ => ?_)
    · have h := h.1 cc_
      exact J165 x5 x7_21 x9_44 x13_76 x15_95 x17_108 _ _ _ h hP hD hS (lv_sub hl [11, 5, 4, 2, 1, 0] rfl)
    · have h := h.2 cc_
      refine lv_lload hx hb d_C_nearLine_129 (lv_at hl 2 rfl) ?_
      refine lv_lload hx hb d_C_nearLine_131 (lv_at hl 4 rfl) ?_
      refine lv_lmul hx hb d_C_nearLine_133 ?_
      refine lv_lload hx hb d_C_nearLine_134 (lv_at hl 1 rfl) ?_
      refine lv_lload hx hb d_C_nearLine_136 (lv_at hl 5 rfl) ?_
      refine lv_lmul hx hb d_C_nearLine_138 ?_
      refine lv_lsub hx hb d_C_nearLine_139 ?_
      refine lv_topl (fun x19_140 e_x19_140 => ?_)
      have h := h x19_140 e_x19_140
      refine lv_lstore (lv' := [(19, .long x19_140), (17, .long x17_108), (15, .long x15_95), (13, .long x13_76), (11, .long x11_57), (9, .long x9_44), (7, .long x7_21), (0, .ref a_this), (1, .int x1), (2, .int x2), (3, .int x3), (4, .int x4), (5, .long x5)]) hx hb d_C_nearLine_140 hl (by decide) rfl (fun ls hl => ?_)
      refine lv_lload hx hb d_C_nearLine_142 (lv_at hl 0 rfl) ?_
      refine lv_lload hx hb d_C_nearLine_144 (lv_at hl 0 rfl) ?_
      refine lv_lmul hx hb d_C_nearLine_146 ?_
      refine lv_lload hx hb d_C_nearLine_147 (lv_at hl 12 rfl) ?_
      refine lv_lload hx hb d_C_nearLine_149 (lv_at hl 12 rfl) ?_
      refine lv_lmul hx hb d_C_nearLine_151 ?_
      refine lv_lload hx hb d_C_nearLine_152 (lv_at hl 4 rfl) ?_
      refine lv_lmul hx hb d_C_nearLine_154 ?_
      refine W.lcmp hx hb d_C_nearLine_155 ?_
      refine lv_if_gt (tgt := 163) hx hb d_C_nearLine_156 (by decide) (fun cc_ => ?_) (fun cc_ => ?_)
      · have h := h.1 cc_
        refine lv_iconst (v := 0) hx hb d_C_nearLine_163 (by decide) ?_
        subst hQf
        exact W.zret (v := (0 : Int32)) hx hb hr (by rfl) (fun t ht hW => ⟨⟨(0 : Int32), (), rfl, h, by rw [ht]; exact hP, va_K.moved hW.alike hK, hD⟩, hS.F ht⟩) hS.2.2 d_C_nearLine_164
      · have h := h.2 cc_
        refine lv_iconst (v := 1) hx hb d_C_nearLine_159 (by decide) ?_
        refine lv_goto (tgt := 164) hx hb d_C_nearLine_160 (by decide) ?_
        subst hQf
        exact W.zret (v := (1 : Int32)) hx hb hr (by rfl) (fun t ht hW => ⟨⟨(1 : Int32), (), rfl, h, by rw [ht]; exact hP, va_K.moved hW.alike hK, hD⟩, hS.F ht⟩) hS.2.2 d_C_nearLine_164
def wp_C_nearLines_L23 (n_polygon_xs n_polygon_ys : Nat) (c_polygon_count : Int32) (f_polygon_xs : Nat → Int32) (f_polygon_ys : Nat → Int32) (x1 : Int32) (x2 : Int32) (x3 : Int32) (x4 : Int32) (x6 : Int64) (post : Int32 → Unit → Prop) (back23 : (Int32 × Int32) → Prop) (x8 : Int32) (x9 : Int32) : Prop :=
  (x2 < x9 → post (0 : Int32) ()) ∧ (¬ x2 < x9 → ∃ Q36 : Int32 → Unit → Prop, wp_G_cornerBeside c_polygon_count x1 x9 Q36 ∧ ∀ (r36 : Int32), Q36 r36 () → ∃ Q51 : Int32 → Unit → Prop, wp_C_nearLine n_polygon_xs n_polygon_ys f_polygon_xs f_polygon_ys x3 x4 x8 r36 x6 Q51 ∧ ∀ (r51 : Int32), Q51 r51 () → (r51 = 0 → ∀ x9_63 : Int32, x9_63 = x9 + (1 : Int32) → back23 (r36, x9_63)) ∧ (¬ r51 = 0 → post (1 : Int32) ()))
def wp_C_nearLines (n_polygon_xs n_polygon_ys : Nat) (c_polygon_count : Int32) (f_polygon_xs : Nat → Int32) (f_polygon_ys : Nat → Int32) (x1 : Int32) (x2 : Int32) (x3 : Int32) (x4 : Int32) (x5 : Int32) (post : Int32 → Unit → Prop) : Prop :=
  ∀ x6_7 : Int64, x6_7 = ((512 : Int64) * (x5.toInt64)) → ∃ Q15 : Int32 → Unit → Prop, wp_G_cornerBeside c_polygon_count x1 (-1 : Int32) Q15 ∧ ∀ (r15 : Int32), Q15 r15 () → lpW (fun b z => wp_C_nearLines_L23 n_polygon_xs n_polygon_ys c_polygon_count f_polygon_xs f_polygon_ys x1 x2 x3 x4 x6_7 post b z.1 z.2) (r15, (0 : Int32))
abbrev cw_C_nearLines (cI : ClassId) (a_this a_polygon a_polygon_xs a_polygon_ys a_fewest a_takenLengths a_takenPulls a_firsts a_lengths a_pulls a_handX a_handY a_polygon_outlines a_polygon_costs a_polygon_rest a_polygon_restByTwo a_polygon_points a_polygon_angles a_polygon_turns : Nat) (n_polygon_xs n_polygon_ys : Nat) (c_count : Int32) (c_polygon_count : Int32) (c_polygon_cost : Int32) (f_polygon_xs : Nat → Int32) (f_polygon_ys : Nat → Int32) : va_W := [(a_this, .inr (4, [.ref a_polygon, .ref a_fewest, .ref a_takenLengths, .ref a_takenPulls, .ref a_firsts, .ref a_lengths, .ref a_pulls, .ref a_handX, .ref a_handY, .int c_count])), (a_polygon, .inr (3, [.ref a_polygon_outlines, .ref a_polygon_costs, .ref a_polygon_rest, .ref a_polygon_restByTwo, .ref a_polygon_points, .ref a_polygon_xs, .ref a_polygon_ys, .ref a_polygon_angles, .ref a_polygon_turns, .int c_polygon_count, .int c_polygon_cost])), (a_polygon_xs, .inl (cI, n_polygon_xs, .inl f_polygon_xs)), (a_polygon_ys, .inl (cI, n_polygon_ys, .inl f_polygon_ys))]
abbrev qq_C_nearLines (dC : Nat → ClassId) (dI : Nat → Nat → Nat) (cI cB cJ cZ : ClassId) (a_this a_polygon a_polygon_xs a_polygon_ys a_fewest a_takenLengths a_takenPulls a_firsts a_lengths a_pulls a_handX a_handY a_polygon_outlines a_polygon_costs a_polygon_rest a_polygon_restByTwo a_polygon_points a_polygon_angles a_polygon_turns : Nat) (n_polygon_xs n_polygon_ys : Nat) (c_count : Int32) (c_polygon_count : Int32) (c_polygon_cost : Int32) (f_polygon_xs : Nat → Int32) (f_polygon_ys : Nat → Int32) (A : Nat → Prop) (post : Int32 → Unit → Prop) : Array Value → State → Outcome → State → Prop := va_Qi post (fun _ t => va_P (dC, dI) vwCl (cw_C_nearLines cI a_this a_polygon a_polygon_xs a_polygon_ys a_fewest a_takenLengths a_takenPulls a_firsts a_lengths a_pulls a_handX a_handY a_polygon_outlines a_polygon_costs a_polygon_rest a_polygon_restByTwo a_polygon_points a_polygon_angles a_polygon_turns n_polygon_xs n_polygon_ys c_count c_polygon_count c_polygon_cost f_polygon_xs f_polygon_ys) t.heap ∧ va_K (dC, dI) vwCl [(cI, .int), (cB, .byte), (cJ, .long), (cZ, .boolean)] t ∧ va_D A (cw_C_nearLines cI a_this a_polygon a_polygon_xs a_polygon_ys a_fewest a_takenLengths a_takenPulls a_firsts a_lengths a_pulls a_handX a_handY a_polygon_outlines a_polygon_costs a_polygon_rest a_polygon_restByTwo a_polygon_points a_polygon_angles a_polygon_turns n_polygon_xs n_polygon_ys c_count c_polygon_count c_polygon_cost f_polygon_xs f_polygon_ys)) A
set_option maxHeartbeats 4000000 in
set_option maxRecDepth 100000 in
theorem c_C_nearLines (l : Launch) (dC : Nat → ClassId) (dI : Nat → Nat → Nat) (cI cB cJ cZ : ClassId) (a_this a_polygon a_polygon_xs a_polygon_ys a_fewest a_takenLengths a_takenPulls a_firsts a_lengths a_pulls a_handX a_handY a_polygon_outlines a_polygon_costs a_polygon_rest a_polygon_restByTwo a_polygon_points a_polygon_angles a_polygon_turns : Nat) (sz : Nat) (n_polygon_xs n_polygon_ys : Nat) (c_count : Int32) (c_polygon_count : Int32) (c_polygon_cost : Int32) (f_polygon_xs : Nat → Int32) (f_polygon_ys : Nat → Int32) (x1 : Int32) (x2 : Int32) (x3 : Int32) (x4 : Int32) (x5 : Int32) (post : Int32 → Unit → Prop) (h : wp_C_nearLines n_polygon_xs n_polygon_ys c_polygon_count f_polygon_xs f_polygon_ys x1 x2 x3 x4 x5 post) : Met l y_C_nearLines w_C_nearLines ({ frames := 2, cells := 0, slots := 0, locals := 44 }) (va_Pc [.ref a_this, .int x1, .int x2, .int x3, .int x4, .int x5] (fun U => U.heap.size = sz ∧ va_P (dC, dI) vwCl (cw_C_nearLines cI a_this a_polygon a_polygon_xs a_polygon_ys a_fewest a_takenLengths a_takenPulls a_firsts a_lengths a_pulls a_handX a_handY a_polygon_outlines a_polygon_costs a_polygon_rest a_polygon_restByTwo a_polygon_points a_polygon_angles a_polygon_turns n_polygon_xs n_polygon_ys c_count c_polygon_count c_polygon_cost f_polygon_xs f_polygon_ys) U.heap ∧ va_K (dC, dI) vwCl [(cI, .int), (cB, .byte), (cJ, .long), (cZ, .boolean)] U ∧ va_D (fun _ => True) (cw_C_nearLines cI a_this a_polygon a_polygon_xs a_polygon_ys a_fewest a_takenLengths a_takenPulls a_firsts a_lengths a_pulls a_handX a_handY a_polygon_outlines a_polygon_costs a_polygon_rest a_polygon_restByTwo a_polygon_points a_polygon_angles a_polygon_turns n_polygon_xs n_polygon_ys c_count c_polygon_count c_polygon_cost f_polygon_xs f_polygon_ys))) (qq_C_nearLines dC dI cI cB cJ cZ a_this a_polygon a_polygon_xs a_polygon_ys a_fewest a_takenLengths a_takenPulls a_firsts a_lengths a_pulls a_handX a_handY a_polygon_outlines a_polygon_costs a_polygon_rest a_polygon_restByTwo a_polygon_points a_polygon_angles a_polygon_turns n_polygon_xs n_polygon_ys c_count c_polygon_count c_polygon_cost f_polygon_xs f_polygon_ys (va_A (cw_C_nearLines cI a_this a_polygon a_polygon_xs a_polygon_ys a_fewest a_takenLengths a_takenPulls a_firsts a_lengths a_pulls a_handX a_handY a_polygon_outlines a_polygon_costs a_polygon_rest a_polygon_restByTwo a_polygon_points a_polygon_angles a_polygon_turns n_polygon_xs n_polygon_ys c_count c_polygon_count c_polygon_cost f_polygon_xs f_polygon_ys) sz) post) 0 0 (va_A (cw_C_nearLines cI a_this a_polygon a_polygon_xs a_polygon_ys a_fewest a_takenLengths a_takenPulls a_firsts a_lengths a_pulls a_handX a_handY a_polygon_outlines a_polygon_costs a_polygon_rest a_polygon_restByTwo a_polygon_points a_polygon_angles a_polygon_turns n_polygon_xs n_polygon_ys c_count c_polygon_count c_polygon_cost f_polygon_xs f_polygon_ys) sz) := by
  refine Met.ofW (cc := b_C_nearLines) (maxL := 11) (ret := (some .boolean)) (by decide +kernel) rfl ?_
  intro p e s m args below meth c s₁ B hml hv
  obtain ⟨rfl, hsz, hP, hK, hD0⟩ := hv
  have hx := B.exec
  have hb := B.bytes
  have hr := B.returns
  have hts : ∀ w ∈ allW, w.before _ s = true := fun w hw => atoms_spec (ws := w_C_nearLines) B.pre w (List.mem_cons_of_mem _ hw)
  have hown : s.vm.findClass R_C = some m.cls := findClass_of_methodNamed B.named
  have hlocks := B.notSynchronized
  subst hsz
  have hD := hD0.self (sz := s.heap.size)
  generalize hAe : va_A (cw_C_nearLines cI a_this a_polygon a_polygon_xs a_polygon_ys a_fewest a_takenLengths a_takenPulls a_firsts a_lengths a_pulls a_handX a_handY a_polygon_outlines a_polygon_costs a_polygon_rest a_polygon_restByTwo a_polygon_points a_polygon_angles a_polygon_turns n_polygon_xs n_polygon_ys c_count c_polygon_count c_polygon_cost f_polygon_xs f_polygon_ys) s.heap.size = A at hD ⊢
  have hA : ∀ q : Nat, s.heap.size ≤ q → A q := fun q h => by rw [← hAe]; exact Or.inr h
  have hS : va_S A s.heap s.heap [] := va_S.rf
  clear hD0
  generalize hQf : MQ below (qq_C_nearLines dC dI cI cB cJ cZ a_this a_polygon a_polygon_xs a_polygon_ys a_fewest a_takenLengths a_takenPulls a_firsts a_lengths a_pulls a_handX a_handY a_polygon_outlines a_polygon_costs a_polygon_rest a_polygon_restByTwo a_polygon_points a_polygon_angles a_polygon_turns n_polygon_xs n_polygon_ys c_count c_polygon_count c_polygon_cost f_polygon_xs f_polygon_ys A post) ([.ref a_this, .int x1, .int x2, .int x3, .int x4, .int x5] : List Value).toArray s 0 0 A = Qf
  have hl := lv_entry ([.ref a_this, .int x1, .int x2, .int x3, .int x4, .int x5]) (n := 11) (Nat.le_of_ble_eq_true rfl)
  rw [lg_entry_eq]
  generalize (lg_sl ([.ref a_this, .int x1, .int x2, .int x3, .int x4, .int x5]) ++ List.replicate (11 - (lg_sl ([.ref a_this, .int x1, .int x2, .int x3, .int x4, .int x5])).length) Slot.unset).toArray = ls at hl ⊢
  have hl : lv_has ls 11 [(0, .ref a_this), (1, .int x1), (2, .int x2), (3, .int x3), (4, .int x4), (5, .int x5)] := hl
  unfold wp_C_nearLines at h
  refine lv_ldc2 (v := 512) hx hb hown (hts _ q_606) d_C_nearLines_0 ?_
  refine lv_iload hx hb d_C_nearLines_3 (lv_at hl 5 rfl) ?_
  refine lv_i2l hx hb d_C_nearLines_5 rfl ?_
  refine lv_lmul hx hb d_C_nearLines_6 ?_
  refine lv_topl (fun x6_7 e_x6_7 => ?_)
  have h := h x6_7 e_x6_7
  refine lv_lstore (lv' := [(6, .long x6_7), (0, .ref a_this), (1, .int x1), (2, .int x2), (3, .int x3), (4, .int x4), (5, .int x5)]) hx hb d_C_nearLines_7 hl (by decide) rfl (fun ls hl => ?_)
  refine lv_aload_n hx hb d_C_nearLines_9 rfl (lv_at hl 1 rfl) ?_
  refine va_get (D := (dC, dI)) (ci := 4) (v := .ref a_polygon) (C := R_C) (T := F_C) (N := 10) hx hb hts i_C_in hown hK hP 0 rfl rfl 0 (by decide) (hts _ q_159) (fun _ h9 => h9) rfl d_C_nearLines_10 ?_
  refine lv_iload_n hx hb d_C_nearLines_13 rfl (lv_at hl 2 rfl) ?_
  refine lv_iconst (v := -1) hx hb d_C_nearLines_14 (by decide) ?_
  obtain ⟨Q15, hq15, h⟩ := h
  have hPc := hP.sub (ws' := (cw_G_cornerBeside a_polygon a_polygon_outlines a_polygon_costs a_polygon_rest a_polygon_restByTwo a_polygon_points a_polygon_xs a_polygon_ys a_polygon_angles a_polygon_turns c_polygon_count c_polygon_cost)) [1] rfl
  have hDc := hD.sub (ws' := (cw_G_cornerBeside a_polygon a_polygon_outlines a_polygon_costs a_polygon_rest a_polygon_restByTwo a_polygon_points a_polygon_xs a_polygon_ys a_polygon_angles a_polygon_turns c_polygon_count c_polygon_cost)) [1] (by decide) rfl
  have hFc := va_free (wc := (cw_G_cornerBeside a_polygon a_polygon_outlines a_polygon_costs a_polygon_rest a_polygon_restByTwo a_polygon_points a_polygon_xs a_polygon_ys a_polygon_angles a_polygon_turns c_polygon_count c_polygon_cost)) hD hS hA [1] rfl
  refine va_calli (va_runV (As := [.int x1, .int (-1 : Int32)]) (rest := []) ⟨hx, hb, hml, hown, hts⟩ (c_G_cornerBeside l dC dI cI cB cJ cZ a_polygon a_polygon_outlines a_polygon_costs a_polygon_rest a_polygon_restByTwo a_polygon_points a_polygon_xs a_polygon_ys a_polygon_angles a_polygon_turns s.heap.size c_polygon_count c_polygon_cost x1 (-1 : Int32) Q15 hq15) (cwV 2 hts (goodV q_573 q_535 q_536 q_5 q_537) rfl rfl rfl (by decide +kernel) ⟨Nat.le_of_ble_eq_true rfl, Nat.le_of_ble_eq_true rfl⟩) ⟨fun a U g mk q => by obtain ⟨q0, q1, qP, qK, qD⟩ := q; exact ⟨q0, q1, qP, va_K.moved (u := U) (U := U.calling g mk a) (Vm.Alike.refl U.vm) qK, qD⟩, va_recv hK hPc (ci := 3) (q0 := 0) rfl rfl, fun U hU hW => ⟨rfl, by rw [hU], by rw [hU]; exact hPc, va_K.moved hW.alike hK, hDc.weaken (fun _ _ _ _ => trivial)⟩⟩ rfl rfl hl.1 rfl (lv_room (Nat.le_of_ble_eq_true rfl)) d_C_nearLines_15 ⟨Nat.le_of_ble_eq_true rfl, Nat.le_of_ble_eq_true rfl⟩) hS (fun q _ h => hFc q h) hFc (fun r15 u15 t H1 locs ht hvm hw hB hz1 hk1 hS => ?_)
  cases u15
  obtain ⟨hP1, -, hD1⟩ := hB
  rw [ht] at hP1
  have h := h r15 hw
  obtain ⟨hP, hD⟩ := va_join (wr := [(a_this, .inr (4, [.ref a_polygon, .ref a_fewest, .ref a_takenLengths, .ref a_takenPulls, .ref a_firsts, .ref a_lengths, .ref a_pulls, .ref a_handX, .ref a_handY, .int c_count])), (a_polygon_xs, .inl (cI, n_polygon_xs, .inl f_polygon_xs)), (a_polygon_ys, .inl (cI, n_polygon_ys, .inl f_polygon_ys))]) (w1 := (cw_G_cornerBeside a_polygon a_polygon_outlines a_polygon_costs a_polygon_rest a_polygon_restByTwo a_polygon_points a_polygon_xs a_polygon_ys a_polygon_angles a_polygon_turns c_polygon_count c_polygon_cost)) hP hD [1] [0, 2, 3] rfl rfl (by decide) (by decide) hk1 hFc hP1 hD1
  clear hP1 hD1 hk1 hPc hDc hFc
  generalize H1 = H at hP hS ⊢
  have hP : va_P (dC, dI) vwCl (cw_C_nearLines cI a_this a_polygon a_polygon_xs a_polygon_ys a_fewest a_takenLengths a_takenPulls a_firsts a_lengths a_pulls a_handX a_handY a_polygon_outlines a_polygon_costs a_polygon_rest a_polygon_restByTwo a_polygon_points a_polygon_angles a_polygon_turns n_polygon_xs n_polygon_ys c_count c_polygon_count c_polygon_cost f_polygon_xs f_polygon_ys) H := hP.sub [0, 3, 1, 2] rfl
  have hD : va_D A (cw_C_nearLines cI a_this a_polygon a_polygon_xs a_polygon_ys a_fewest a_takenLengths a_takenPulls a_firsts a_lengths a_pulls a_handX a_handY a_polygon_outlines a_polygon_costs a_polygon_rest a_polygon_restByTwo a_polygon_points a_polygon_angles a_polygon_turns n_polygon_xs n_polygon_ys c_count c_polygon_count c_polygon_cost f_polygon_xs f_polygon_ys) := hD.sub [0, 3, 1, 2] (by decide) rfl
  refine lv_istore (lv' := [(8, .int r15), (6, .long x6_7), (0, .ref a_this), (1, .int x1), (2, .int x2), (3, .int x3), (4, .int x4), (5, .int x5)]) hx hb d_C_nearLines_18 hl (by decide) rfl (fun ls hl => ?_)
  refine lv_iconst (v := 0) hx hb d_C_nearLines_20 (by decide) ?_
  refine lv_istore (lv' := [(9, .int (0 : Int32)), (8, .int r15), (6, .long x6_7), (0, .ref a_this), (1, .int x1), (2, .int x2), (3, .int x3), (4, .int x4), (5, .int x5)]) hx hb d_C_nearLines_21 hl (by decide) rfl (fun ls hl => ?_)
  refine lpW_ind (Wp := fun z => ∀ (H : Heap) (locs : List Loc) (ls : Array Slot), va_P (dC, dI) vwCl (cw_C_nearLines cI a_this a_polygon a_polygon_xs a_polygon_ys a_fewest a_takenLengths a_takenPulls a_firsts a_lengths a_pulls a_handX a_handY a_polygon_outlines a_polygon_costs a_polygon_rest a_polygon_restByTwo a_polygon_points a_polygon_angles a_polygon_turns n_polygon_xs n_polygon_ys c_count c_polygon_count c_polygon_cost f_polygon_xs f_polygon_ys) H → va_D A (cw_C_nearLines cI a_this a_polygon a_polygon_xs a_polygon_ys a_fewest a_takenLengths a_takenPulls a_firsts a_lengths a_pulls a_handX a_handY a_polygon_outlines a_polygon_costs a_polygon_rest a_polygon_restByTwo a_polygon_points a_polygon_angles a_polygon_turns n_polygon_xs n_polygon_ys c_count c_polygon_count c_polygon_cost f_polygon_xs f_polygon_ys) → va_S A s.heap H locs → lv_has ls 11 [(0, .ref a_this), (1, .int x1), (2, .int x2), (3, .int x3), (4, .int x4), (6, .long x6_7), (8, .int z.1), (9, .int z.2)] → W p l e (headSpec w_C_nearLines ({ frames := 2, cells := 0, slots := 0, locals := 44 })).room s m ([.ref a_this, .int x1, .int x2, .int x3, .int x4, .int x5] : List Value).toArray below meth c H locs 0 0 Qf (F0 m 23 ls [])) h ?_ _ _ _ hP hD hS (lv_sub hl [3, 4, 5, 6, 7, 2, 1, 0] rfl)
  rintro ⟨x8_l23, x9_l23⟩ back23 h hb23 H locs ls hP hD hS hl
  have h : wp_C_nearLines_L23 n_polygon_xs n_polygon_ys c_polygon_count f_polygon_xs f_polygon_ys x1 x2 x3 x4 x6_7 post back23 x8_l23 x9_l23 := h
  have hP : va_P (dC, dI) vwCl (cw_C_nearLines cI a_this a_polygon a_polygon_xs a_polygon_ys a_fewest a_takenLengths a_takenPulls a_firsts a_lengths a_pulls a_handX a_handY a_polygon_outlines a_polygon_costs a_polygon_rest a_polygon_restByTwo a_polygon_points a_polygon_angles a_polygon_turns n_polygon_xs n_polygon_ys c_count c_polygon_count c_polygon_cost f_polygon_xs f_polygon_ys) H := hP
  have hD : va_D A (cw_C_nearLines cI a_this a_polygon a_polygon_xs a_polygon_ys a_fewest a_takenLengths a_takenPulls a_firsts a_lengths a_pulls a_handX a_handY a_polygon_outlines a_polygon_costs a_polygon_rest a_polygon_restByTwo a_polygon_points a_polygon_angles a_polygon_turns n_polygon_xs n_polygon_ys c_count c_polygon_count c_polygon_cost f_polygon_xs f_polygon_ys) := hD
  have hl : lv_has ls 11 [(0, .ref a_this), (1, .int x1), (2, .int x2), (3, .int x3), (4, .int x4), (6, .long x6_7), (8, .int x8_l23), (9, .int x9_l23)] := hl
  unfold wp_C_nearLines_L23 at h
  refine lv_iload hx hb d_C_nearLines_23 (lv_at hl 7 rfl) ?_
  refine lv_iload_n hx hb d_C_nearLines_25 rfl (lv_at hl 2 rfl) ?_
  refine lv_icmp_gt (tgt := 69) hx hb d_C_nearLines_26 (by decide) (fun cc_ => ?_) (fun cc_ => ?_)
  · have h := h.1 cc_
    refine lv_iconst (v := 0) hx hb d_C_nearLines_69 (by decide) ?_
    subst hQf
    exact W.zret (v := (0 : Int32)) hx hb hr (by rfl) (fun t ht hW => ⟨⟨(0 : Int32), (), rfl, h, by rw [ht]; exact hP, va_K.moved hW.alike hK, hD⟩, hS.F ht⟩) hS.2.2 d_C_nearLines_70
  · have h := h.2 cc_
    refine lv_aload_n hx hb d_C_nearLines_29 rfl (lv_at hl 0 rfl) ?_
    refine va_get (D := (dC, dI)) (ci := 4) (v := .ref a_polygon) (C := R_C) (T := F_C) (N := 10) hx hb hts i_C_in hown hK hP 0 rfl rfl 0 (by decide) (hts _ q_159) (fun _ h9 => h9) rfl d_C_nearLines_30 ?_
    refine lv_iload_n hx hb d_C_nearLines_33 rfl (lv_at hl 1 rfl) ?_
    refine lv_iload hx hb d_C_nearLines_34 (lv_at hl 7 rfl) ?_
    obtain ⟨Q36, hq36, h⟩ := h
    have hPc := hP.sub (ws' := (cw_G_cornerBeside a_polygon a_polygon_outlines a_polygon_costs a_polygon_rest a_polygon_restByTwo a_polygon_points a_polygon_xs a_polygon_ys a_polygon_angles a_polygon_turns c_polygon_count c_polygon_cost)) [1] rfl
    have hDc := hD.sub (ws' := (cw_G_cornerBeside a_polygon a_polygon_outlines a_polygon_costs a_polygon_rest a_polygon_restByTwo a_polygon_points a_polygon_xs a_polygon_ys a_polygon_angles a_polygon_turns c_polygon_count c_polygon_cost)) [1] (by decide) rfl
    have hFc := va_free (wc := (cw_G_cornerBeside a_polygon a_polygon_outlines a_polygon_costs a_polygon_rest a_polygon_restByTwo a_polygon_points a_polygon_xs a_polygon_ys a_polygon_angles a_polygon_turns c_polygon_count c_polygon_cost)) hD hS hA [1] rfl
    refine va_calli (va_runV (As := [.int x1, .int x9_l23]) (rest := []) ⟨hx, hb, hml, hown, hts⟩ (c_G_cornerBeside l dC dI cI cB cJ cZ a_polygon a_polygon_outlines a_polygon_costs a_polygon_rest a_polygon_restByTwo a_polygon_points a_polygon_xs a_polygon_ys a_polygon_angles a_polygon_turns H.size c_polygon_count c_polygon_cost x1 x9_l23 Q36 hq36) (cwV 2 hts (goodV q_573 q_535 q_536 q_5 q_537) rfl rfl rfl (by decide +kernel) ⟨Nat.le_of_ble_eq_true rfl, Nat.le_of_ble_eq_true rfl⟩) ⟨fun a U g mk q => by obtain ⟨q0, q1, qP, qK, qD⟩ := q; exact ⟨q0, q1, qP, va_K.moved (u := U) (U := U.calling g mk a) (Vm.Alike.refl U.vm) qK, qD⟩, va_recv hK hPc (ci := 3) (q0 := 0) rfl rfl, fun U hU hW => ⟨rfl, by rw [hU], by rw [hU]; exact hPc, va_K.moved hW.alike hK, hDc.weaken (fun _ _ _ _ => trivial)⟩⟩ rfl rfl hl.1 rfl (lv_room (Nat.le_of_ble_eq_true rfl)) d_C_nearLines_36 ⟨Nat.le_of_ble_eq_true rfl, Nat.le_of_ble_eq_true rfl⟩) hS (fun q _ h => hFc q h) hFc (fun r36 u36 t H1 locs ht hvm hw hB hz1 hk1 hS => ?_)
    cases u36
    obtain ⟨hP1, -, hD1⟩ := hB
    rw [ht] at hP1
    have h := h r36 hw
    obtain ⟨hP, hD⟩ := va_join (wr := [(a_this, .inr (4, [.ref a_polygon, .ref a_fewest, .ref a_takenLengths, .ref a_takenPulls, .ref a_firsts, .ref a_lengths, .ref a_pulls, .ref a_handX, .ref a_handY, .int c_count])), (a_polygon_xs, .inl (cI, n_polygon_xs, .inl f_polygon_xs)), (a_polygon_ys, .inl (cI, n_polygon_ys, .inl f_polygon_ys))]) (w1 := (cw_G_cornerBeside a_polygon a_polygon_outlines a_polygon_costs a_polygon_rest a_polygon_restByTwo a_polygon_points a_polygon_xs a_polygon_ys a_polygon_angles a_polygon_turns c_polygon_count c_polygon_cost)) hP hD [1] [0, 2, 3] rfl rfl (by decide) (by decide) hk1 hFc hP1 hD1
    clear hP1 hD1 hk1 hPc hDc hFc
    generalize H1 = H at hP hS ⊢
    have hP : va_P (dC, dI) vwCl (cw_C_nearLines cI a_this a_polygon a_polygon_xs a_polygon_ys a_fewest a_takenLengths a_takenPulls a_firsts a_lengths a_pulls a_handX a_handY a_polygon_outlines a_polygon_costs a_polygon_rest a_polygon_restByTwo a_polygon_points a_polygon_angles a_polygon_turns n_polygon_xs n_polygon_ys c_count c_polygon_count c_polygon_cost f_polygon_xs f_polygon_ys) H := hP.sub [0, 3, 1, 2] rfl
    have hD : va_D A (cw_C_nearLines cI a_this a_polygon a_polygon_xs a_polygon_ys a_fewest a_takenLengths a_takenPulls a_firsts a_lengths a_pulls a_handX a_handY a_polygon_outlines a_polygon_costs a_polygon_rest a_polygon_restByTwo a_polygon_points a_polygon_angles a_polygon_turns n_polygon_xs n_polygon_ys c_count c_polygon_count c_polygon_cost f_polygon_xs f_polygon_ys) := hD.sub [0, 3, 1, 2] (by decide) rfl
    refine lv_istore (lv' := [(10, .int r36), (0, .ref a_this), (1, .int x1), (2, .int x2), (3, .int x3), (4, .int x4), (6, .long x6_7), (8, .int x8_l23), (9, .int x9_l23)]) hx hb d_C_nearLines_39 hl (by decide) rfl (fun ls hl => ?_)
    refine lv_aload_n hx hb d_C_nearLines_41 rfl (lv_at hl 1 rfl) ?_
    refine lv_iload_n hx hb d_C_nearLines_42 rfl (lv_at hl 4 rfl) ?_
    refine lv_iload hx hb d_C_nearLines_43 (lv_at hl 5 rfl) ?_
    refine lv_iload hx hb d_C_nearLines_45 (lv_at hl 7 rfl) ?_
    refine lv_iload hx hb d_C_nearLines_47 (lv_at hl 0 rfl) ?_
    refine lv_lload hx hb d_C_nearLines_49 (lv_at hl 6 rfl) ?_
    obtain ⟨Q51, hq51, h⟩ := h
    have hPc := hP.sub (ws' := (cw_C_nearLine cI a_this a_polygon a_polygon_xs a_polygon_ys a_fewest a_takenLengths a_takenPulls a_firsts a_lengths a_pulls a_handX a_handY a_polygon_outlines a_polygon_costs a_polygon_rest a_polygon_restByTwo a_polygon_points a_polygon_angles a_polygon_turns n_polygon_xs n_polygon_ys c_count c_polygon_count c_polygon_cost f_polygon_xs f_polygon_ys)) [0, 1, 2, 3] rfl
    have hDc := hD.sub (ws' := (cw_C_nearLine cI a_this a_polygon a_polygon_xs a_polygon_ys a_fewest a_takenLengths a_takenPulls a_firsts a_lengths a_pulls a_handX a_handY a_polygon_outlines a_polygon_costs a_polygon_rest a_polygon_restByTwo a_polygon_points a_polygon_angles a_polygon_turns n_polygon_xs n_polygon_ys c_count c_polygon_count c_polygon_cost f_polygon_xs f_polygon_ys)) [0, 1, 2, 3] (by decide) rfl
    have hFc := va_free (wc := (cw_C_nearLine cI a_this a_polygon a_polygon_xs a_polygon_ys a_fewest a_takenLengths a_takenPulls a_firsts a_lengths a_pulls a_handX a_handY a_polygon_outlines a_polygon_costs a_polygon_rest a_polygon_restByTwo a_polygon_points a_polygon_angles a_polygon_turns n_polygon_xs n_polygon_ys c_count c_polygon_count c_polygon_cost f_polygon_xs f_polygon_ys)) hD hS hA [0, 1, 2, 3] rfl
    refine va_calli (va_runV (As := [.int x3, .int x4, .int x8_l23, .int r36, .long x6_7]) (rest := []) ⟨hx, hb, hml, hown, hts⟩ (c_C_nearLine l dC dI cI cB cJ cZ a_this a_polygon a_polygon_xs a_polygon_ys a_fewest a_takenLengths a_takenPulls a_firsts a_lengths a_pulls a_handX a_handY a_polygon_outlines a_polygon_costs a_polygon_rest a_polygon_restByTwo a_polygon_points a_polygon_angles a_polygon_turns H.size n_polygon_xs n_polygon_ys c_count c_polygon_count c_polygon_cost f_polygon_xs f_polygon_ys x3 x4 x8_l23 r36 x6_7 Q51 hq51) (cwV 5 hts (goodV q_607 q_609 q_p28 q_6 q_610) rfl rfl rfl (by decide +kernel) ⟨Nat.le_of_ble_eq_true rfl, Nat.le_of_ble_eq_true rfl⟩) ⟨fun a U g mk q => by obtain ⟨q0, q1, qP, qK, qD⟩ := q; exact ⟨q0, q1, qP, va_K.moved (u := U) (U := U.calling g mk a) (Vm.Alike.refl U.vm) qK, qD⟩, va_recv hK hPc (ci := 4) (q0 := 0) rfl rfl, fun U hU hW => ⟨rfl, by rw [hU], by rw [hU]; exact hPc, va_K.moved hW.alike hK, hDc.weaken (fun _ _ _ _ => trivial)⟩⟩ rfl rfl hl.1 rfl (lv_room (Nat.le_of_ble_eq_true rfl)) d_C_nearLines_51 ⟨Nat.le_of_ble_eq_true rfl, Nat.le_of_ble_eq_true rfl⟩) hS (fun q _ h => hFc q h) hFc (fun r51 u51 t H1 locs ht hvm hw hB hz1 hk1 hS => ?_)
    cases u51
    obtain ⟨hP1, -, hD1⟩ := hB
    rw [ht] at hP1
    have h := h r51 hw
    obtain ⟨hP, hD⟩ := va_join (wr := []) (w1 := (cw_C_nearLine cI a_this a_polygon a_polygon_xs a_polygon_ys a_fewest a_takenLengths a_takenPulls a_firsts a_lengths a_pulls a_handX a_handY a_polygon_outlines a_polygon_costs a_polygon_rest a_polygon_restByTwo a_polygon_points a_polygon_angles a_polygon_turns n_polygon_xs n_polygon_ys c_count c_polygon_count c_polygon_cost f_polygon_xs f_polygon_ys)) hP hD [0, 1, 2, 3] [] rfl rfl (by decide) (by decide) hk1 hFc hP1 hD1
    clear hP1 hD1 hk1 hPc hDc hFc
    generalize H1 = H at hP hS ⊢
    have hP : va_P (dC, dI) vwCl (cw_C_nearLines cI a_this a_polygon a_polygon_xs a_polygon_ys a_fewest a_takenLengths a_takenPulls a_firsts a_lengths a_pulls a_handX a_handY a_polygon_outlines a_polygon_costs a_polygon_rest a_polygon_restByTwo a_polygon_points a_polygon_angles a_polygon_turns n_polygon_xs n_polygon_ys c_count c_polygon_count c_polygon_cost f_polygon_xs f_polygon_ys) H := hP.sub [0, 1, 2, 3] rfl
    have hD : va_D A (cw_C_nearLines cI a_this a_polygon a_polygon_xs a_polygon_ys a_fewest a_takenLengths a_takenPulls a_firsts a_lengths a_pulls a_handX a_handY a_polygon_outlines a_polygon_costs a_polygon_rest a_polygon_restByTwo a_polygon_points a_polygon_angles a_polygon_turns n_polygon_xs n_polygon_ys c_count c_polygon_count c_polygon_cost f_polygon_xs f_polygon_ys) := hD.sub [0, 1, 2, 3] (by decide) rfl
    refine lv_if_eq (tgt := 59) hx hb d_C_nearLines_54 (by decide) (fun cc_ => ?_) (fun cc_ => ?_)
    · have h := h.1 cc_
      refine lv_iload hx hb d_C_nearLines_59 (lv_at hl 0 rfl) ?_
      refine lv_istore (lv' := [(8, .int r36), (10, .int r36), (0, .ref a_this), (1, .int x1), (2, .int x2), (3, .int x3), (4, .int x4), (6, .long x6_7), (9, .int x9_l23)]) hx hb d_C_nearLines_61 hl (by decide) rfl (fun ls hl => ?_)
      obtain ⟨x9_63, e_x9_63⟩ : ∃ y : Int32, y = x9_l23 + (1 : Int32) := ⟨_, rfl⟩
      have h := h x9_63 e_x9_63
      refine lv_iinc (v := x9_63) (lv' := [(9, .int x9_63), (8, .int r36), (10, .int r36), (0, .ref a_this), (1, .int x1), (2, .int x2), (3, .int x3), (4, .int x4), (6, .long x6_7)]) hx hb d_C_nearLines_63 hl (k := 8) rfl (by rw [e_x9_63]; rfl) (by decide) rfl (fun ls hl => ?_)
      refine lv_goto (tgt := 23) hx hb d_C_nearLines_66 (by decide) ?_
      exact hb23 _ h _ _ _ hP hD hS (lv_sub hl [3, 4, 5, 6, 7, 8, 1, 0] rfl)
    · have h := h.2 cc_
      refine lv_iconst (v := 1) hx hb d_C_nearLines_57 (by decide) ?_
      subst hQf
      exact W.zret (v := (1 : Int32)) hx hb hr (by rfl) (fun t ht hW => ⟨⟨(1 : Int32), (), rfl, h, by rw [ht]; exact hP, va_K.moved hW.alike hK, hD⟩, hS.F ht⟩) hS.2.2 d_C_nearLines_58
def wp_C_allPlacesNear_L3 (n_handX n_handY n_polygon_xs n_polygon_ys : Nat) (f_handX : Nat → Int32) (f_handY : Nat → Int32) (c_polygon_count : Int32) (f_polygon_xs : Nat → Int32) (f_polygon_ys : Nat → Int32) (x1 : Int32) (x2 : Int32) (x3 : Int32) (post : Int32 → Unit → Prop) (back3 : Int32 → Prop) (x4 : Int32) : Prop :=
  ((8 : Int32) ≤ x4 → post (1 : Int32) ()) ∧ (¬ (8 : Int32) ≤ x4 → ∃ Q19 : Int32 → Unit → Prop, wp_C_cubicAt n_handX f_handX x4 Q19 ∧ ∀ (r19 : Int32), Q19 r19 () → ∃ Q28 : Int32 → Unit → Prop, wp_C_cubicAt n_handY f_handY x4 Q28 ∧ ∀ (r28 : Int32), Q28 r28 () → ∃ Q32 : Int32 → Unit → Prop, wp_C_nearLines n_polygon_xs n_polygon_ys c_polygon_count f_polygon_xs f_polygon_ys x1 x2 r19 r28 x3 Q32 ∧ ∀ (r32 : Int32), Q32 r32 () → (¬ r32 = 0 → ∀ x4_40 : Int32, x4_40 = x4 + (1 : Int32) → back3 x4_40) ∧ (r32 = 0 → post (0 : Int32) ()))
def wp_C_allPlacesNear (n_handX n_handY n_polygon_xs n_polygon_ys : Nat) (f_handX : Nat → Int32) (f_handY : Nat → Int32) (c_polygon_count : Int32) (f_polygon_xs : Nat → Int32) (f_polygon_ys : Nat → Int32) (x1 : Int32) (x2 : Int32) (x3 : Int32) (post : Int32 → Unit → Prop) : Prop :=
  lpW (fun b z => wp_C_allPlacesNear_L3 n_handX n_handY n_polygon_xs n_polygon_ys f_handX f_handY c_polygon_count f_polygon_xs f_polygon_ys x1 x2 x3 post b z) (1 : Int32)
abbrev cw_C_allPlacesNear (cI : ClassId) (a_this a_handX a_handY a_polygon a_polygon_xs a_polygon_ys a_fewest a_takenLengths a_takenPulls a_firsts a_lengths a_pulls a_polygon_outlines a_polygon_costs a_polygon_rest a_polygon_restByTwo a_polygon_points a_polygon_angles a_polygon_turns : Nat) (n_handX n_handY n_polygon_xs n_polygon_ys : Nat) (c_count : Int32) (f_handX : Nat → Int32) (f_handY : Nat → Int32) (c_polygon_count : Int32) (c_polygon_cost : Int32) (f_polygon_xs : Nat → Int32) (f_polygon_ys : Nat → Int32) : va_W := [(a_this, .inr (4, [.ref a_polygon, .ref a_fewest, .ref a_takenLengths, .ref a_takenPulls, .ref a_firsts, .ref a_lengths, .ref a_pulls, .ref a_handX, .ref a_handY, .int c_count])), (a_handX, .inl (cI, n_handX, .inl f_handX)), (a_handY, .inl (cI, n_handY, .inl f_handY)), (a_polygon, .inr (3, [.ref a_polygon_outlines, .ref a_polygon_costs, .ref a_polygon_rest, .ref a_polygon_restByTwo, .ref a_polygon_points, .ref a_polygon_xs, .ref a_polygon_ys, .ref a_polygon_angles, .ref a_polygon_turns, .int c_polygon_count, .int c_polygon_cost])), (a_polygon_xs, .inl (cI, n_polygon_xs, .inl f_polygon_xs)), (a_polygon_ys, .inl (cI, n_polygon_ys, .inl f_polygon_ys))]
abbrev qq_C_allPlacesNear (dC : Nat → ClassId) (dI : Nat → Nat → Nat) (cI cB cJ cZ : ClassId) (a_this a_handX a_handY a_polygon a_polygon_xs a_polygon_ys a_fewest a_takenLengths a_takenPulls a_firsts a_lengths a_pulls a_polygon_outlines a_polygon_costs a_polygon_rest a_polygon_restByTwo a_polygon_points a_polygon_angles a_polygon_turns : Nat) (n_handX n_handY n_polygon_xs n_polygon_ys : Nat) (c_count : Int32) (f_handX : Nat → Int32) (f_handY : Nat → Int32) (c_polygon_count : Int32) (c_polygon_cost : Int32) (f_polygon_xs : Nat → Int32) (f_polygon_ys : Nat → Int32) (A : Nat → Prop) (post : Int32 → Unit → Prop) : Array Value → State → Outcome → State → Prop := va_Qi post (fun _ t => va_P (dC, dI) vwCl (cw_C_allPlacesNear cI a_this a_handX a_handY a_polygon a_polygon_xs a_polygon_ys a_fewest a_takenLengths a_takenPulls a_firsts a_lengths a_pulls a_polygon_outlines a_polygon_costs a_polygon_rest a_polygon_restByTwo a_polygon_points a_polygon_angles a_polygon_turns n_handX n_handY n_polygon_xs n_polygon_ys c_count f_handX f_handY c_polygon_count c_polygon_cost f_polygon_xs f_polygon_ys) t.heap ∧ va_K (dC, dI) vwCl [(cI, .int), (cB, .byte), (cJ, .long), (cZ, .boolean)] t ∧ va_D A (cw_C_allPlacesNear cI a_this a_handX a_handY a_polygon a_polygon_xs a_polygon_ys a_fewest a_takenLengths a_takenPulls a_firsts a_lengths a_pulls a_polygon_outlines a_polygon_costs a_polygon_rest a_polygon_restByTwo a_polygon_points a_polygon_angles a_polygon_turns n_handX n_handY n_polygon_xs n_polygon_ys c_count f_handX f_handY c_polygon_count c_polygon_cost f_polygon_xs f_polygon_ys)) A
set_option maxHeartbeats 4000000 in
set_option maxRecDepth 100000 in
theorem c_C_allPlacesNear (l : Launch) (dC : Nat → ClassId) (dI : Nat → Nat → Nat) (cI cB cJ cZ : ClassId) (a_this a_handX a_handY a_polygon a_polygon_xs a_polygon_ys a_fewest a_takenLengths a_takenPulls a_firsts a_lengths a_pulls a_polygon_outlines a_polygon_costs a_polygon_rest a_polygon_restByTwo a_polygon_points a_polygon_angles a_polygon_turns : Nat) (sz : Nat) (n_handX n_handY n_polygon_xs n_polygon_ys : Nat) (c_count : Int32) (f_handX : Nat → Int32) (f_handY : Nat → Int32) (c_polygon_count : Int32) (c_polygon_cost : Int32) (f_polygon_xs : Nat → Int32) (f_polygon_ys : Nat → Int32) (x1 : Int32) (x2 : Int32) (x3 : Int32) (post : Int32 → Unit → Prop) (h : wp_C_allPlacesNear n_handX n_handY n_polygon_xs n_polygon_ys f_handX f_handY c_polygon_count f_polygon_xs f_polygon_ys x1 x2 x3 post) : Met l y_C_allPlacesNear w_C_allPlacesNear ({ frames := 3, cells := 0, slots := 0, locals := 74 }) (va_Pc [.ref a_this, .int x1, .int x2, .int x3] (fun U => U.heap.size = sz ∧ va_P (dC, dI) vwCl (cw_C_allPlacesNear cI a_this a_handX a_handY a_polygon a_polygon_xs a_polygon_ys a_fewest a_takenLengths a_takenPulls a_firsts a_lengths a_pulls a_polygon_outlines a_polygon_costs a_polygon_rest a_polygon_restByTwo a_polygon_points a_polygon_angles a_polygon_turns n_handX n_handY n_polygon_xs n_polygon_ys c_count f_handX f_handY c_polygon_count c_polygon_cost f_polygon_xs f_polygon_ys) U.heap ∧ va_K (dC, dI) vwCl [(cI, .int), (cB, .byte), (cJ, .long), (cZ, .boolean)] U ∧ va_D (fun _ => True) (cw_C_allPlacesNear cI a_this a_handX a_handY a_polygon a_polygon_xs a_polygon_ys a_fewest a_takenLengths a_takenPulls a_firsts a_lengths a_pulls a_polygon_outlines a_polygon_costs a_polygon_rest a_polygon_restByTwo a_polygon_points a_polygon_angles a_polygon_turns n_handX n_handY n_polygon_xs n_polygon_ys c_count f_handX f_handY c_polygon_count c_polygon_cost f_polygon_xs f_polygon_ys))) (qq_C_allPlacesNear dC dI cI cB cJ cZ a_this a_handX a_handY a_polygon a_polygon_xs a_polygon_ys a_fewest a_takenLengths a_takenPulls a_firsts a_lengths a_pulls a_polygon_outlines a_polygon_costs a_polygon_rest a_polygon_restByTwo a_polygon_points a_polygon_angles a_polygon_turns n_handX n_handY n_polygon_xs n_polygon_ys c_count f_handX f_handY c_polygon_count c_polygon_cost f_polygon_xs f_polygon_ys (va_A (cw_C_allPlacesNear cI a_this a_handX a_handY a_polygon a_polygon_xs a_polygon_ys a_fewest a_takenLengths a_takenPulls a_firsts a_lengths a_pulls a_polygon_outlines a_polygon_costs a_polygon_rest a_polygon_restByTwo a_polygon_points a_polygon_angles a_polygon_turns n_handX n_handY n_polygon_xs n_polygon_ys c_count f_handX f_handY c_polygon_count c_polygon_cost f_polygon_xs f_polygon_ys) sz) post) 0 0 (va_A (cw_C_allPlacesNear cI a_this a_handX a_handY a_polygon a_polygon_xs a_polygon_ys a_fewest a_takenLengths a_takenPulls a_firsts a_lengths a_pulls a_polygon_outlines a_polygon_costs a_polygon_rest a_polygon_restByTwo a_polygon_points a_polygon_angles a_polygon_turns n_handX n_handY n_polygon_xs n_polygon_ys c_count f_handX f_handY c_polygon_count c_polygon_cost f_polygon_xs f_polygon_ys) sz) := by
  refine Met.ofW (cc := b_C_allPlacesNear) (maxL := 5) (ret := (some .boolean)) (by decide +kernel) rfl ?_
  intro p e s m args below meth c s₁ B hml hv
  obtain ⟨rfl, hsz, hP, hK, hD0⟩ := hv
  have hx := B.exec
  have hb := B.bytes
  have hr := B.returns
  have hts : ∀ w ∈ allW, w.before _ s = true := fun w hw => atoms_spec (ws := w_C_allPlacesNear) B.pre w (List.mem_cons_of_mem _ hw)
  have hown : s.vm.findClass R_C = some m.cls := findClass_of_methodNamed B.named
  have hlocks := B.notSynchronized
  subst hsz
  have hD := hD0.self (sz := s.heap.size)
  generalize hAe : va_A (cw_C_allPlacesNear cI a_this a_handX a_handY a_polygon a_polygon_xs a_polygon_ys a_fewest a_takenLengths a_takenPulls a_firsts a_lengths a_pulls a_polygon_outlines a_polygon_costs a_polygon_rest a_polygon_restByTwo a_polygon_points a_polygon_angles a_polygon_turns n_handX n_handY n_polygon_xs n_polygon_ys c_count f_handX f_handY c_polygon_count c_polygon_cost f_polygon_xs f_polygon_ys) s.heap.size = A at hD ⊢
  have hA : ∀ q : Nat, s.heap.size ≤ q → A q := fun q h => by rw [← hAe]; exact Or.inr h
  have hS : va_S A s.heap s.heap [] := va_S.rf
  clear hD0
  generalize hQf : MQ below (qq_C_allPlacesNear dC dI cI cB cJ cZ a_this a_handX a_handY a_polygon a_polygon_xs a_polygon_ys a_fewest a_takenLengths a_takenPulls a_firsts a_lengths a_pulls a_polygon_outlines a_polygon_costs a_polygon_rest a_polygon_restByTwo a_polygon_points a_polygon_angles a_polygon_turns n_handX n_handY n_polygon_xs n_polygon_ys c_count f_handX f_handY c_polygon_count c_polygon_cost f_polygon_xs f_polygon_ys A post) ([.ref a_this, .int x1, .int x2, .int x3] : List Value).toArray s 0 0 A = Qf
  have hl := lv_entry ([.ref a_this, .int x1, .int x2, .int x3]) (n := 5) (Nat.le_of_ble_eq_true rfl)
  rw [lg_entry_eq]
  generalize (lg_sl ([.ref a_this, .int x1, .int x2, .int x3]) ++ List.replicate (5 - (lg_sl ([.ref a_this, .int x1, .int x2, .int x3])).length) Slot.unset).toArray = ls at hl ⊢
  have hl : lv_has ls 5 [(0, .ref a_this), (1, .int x1), (2, .int x2), (3, .int x3)] := hl
  unfold wp_C_allPlacesNear at h
  refine lv_iconst (v := 1) hx hb d_C_allPlacesNear_0 (by decide) ?_
  refine lv_istore (lv' := [(4, .int (1 : Int32)), (0, .ref a_this), (1, .int x1), (2, .int x2), (3, .int x3)]) hx hb d_C_allPlacesNear_1 hl (by decide) rfl (fun ls hl => ?_)
  refine lpW_ind (Wp := fun z => ∀ (H : Heap) (locs : List Loc) (ls : Array Slot), va_P (dC, dI) vwCl (cw_C_allPlacesNear cI a_this a_handX a_handY a_polygon a_polygon_xs a_polygon_ys a_fewest a_takenLengths a_takenPulls a_firsts a_lengths a_pulls a_polygon_outlines a_polygon_costs a_polygon_rest a_polygon_restByTwo a_polygon_points a_polygon_angles a_polygon_turns n_handX n_handY n_polygon_xs n_polygon_ys c_count f_handX f_handY c_polygon_count c_polygon_cost f_polygon_xs f_polygon_ys) H → va_D A (cw_C_allPlacesNear cI a_this a_handX a_handY a_polygon a_polygon_xs a_polygon_ys a_fewest a_takenLengths a_takenPulls a_firsts a_lengths a_pulls a_polygon_outlines a_polygon_costs a_polygon_rest a_polygon_restByTwo a_polygon_points a_polygon_angles a_polygon_turns n_handX n_handY n_polygon_xs n_polygon_ys c_count f_handX f_handY c_polygon_count c_polygon_cost f_polygon_xs f_polygon_ys) → va_S A s.heap H locs → lv_has ls 5 [(0, .ref a_this), (1, .int x1), (2, .int x2), (3, .int x3), (4, .int z)] → W p l e (headSpec w_C_allPlacesNear ({ frames := 3, cells := 0, slots := 0, locals := 74 })).room s m ([.ref a_this, .int x1, .int x2, .int x3] : List Value).toArray below meth c H locs 0 0 Qf (F0 m 3 ls [])) h ?_ _ _ _ hP hD hS (lv_sub hl [1, 2, 3, 4, 0] rfl)
  intro x4_l3 back3 h hb3 H locs ls hP hD hS hl
  have h : wp_C_allPlacesNear_L3 n_handX n_handY n_polygon_xs n_polygon_ys f_handX f_handY c_polygon_count f_polygon_xs f_polygon_ys x1 x2 x3 post back3 x4_l3 := h
  have hP : va_P (dC, dI) vwCl (cw_C_allPlacesNear cI a_this a_handX a_handY a_polygon a_polygon_xs a_polygon_ys a_fewest a_takenLengths a_takenPulls a_firsts a_lengths a_pulls a_polygon_outlines a_polygon_costs a_polygon_rest a_polygon_restByTwo a_polygon_points a_polygon_angles a_polygon_turns n_handX n_handY n_polygon_xs n_polygon_ys c_count f_handX f_handY c_polygon_count c_polygon_cost f_polygon_xs f_polygon_ys) H := hP
  have hD : va_D A (cw_C_allPlacesNear cI a_this a_handX a_handY a_polygon a_polygon_xs a_polygon_ys a_fewest a_takenLengths a_takenPulls a_firsts a_lengths a_pulls a_polygon_outlines a_polygon_costs a_polygon_rest a_polygon_restByTwo a_polygon_points a_polygon_angles a_polygon_turns n_handX n_handY n_polygon_xs n_polygon_ys c_count f_handX f_handY c_polygon_count c_polygon_cost f_polygon_xs f_polygon_ys) := hD
  have hl : lv_has ls 5 [(0, .ref a_this), (1, .int x1), (2, .int x2), (3, .int x3), (4, .int x4_l3)] := hl
  unfold wp_C_allPlacesNear_L3 at h
  refine lv_iload hx hb d_C_allPlacesNear_3 (lv_at hl 4 rfl) ?_
  refine lv_bipush (v := 8) hx hb d_C_allPlacesNear_5 (by decide) ?_
  refine lv_icmp_ge (tgt := 46) hx hb d_C_allPlacesNear_7 (by decide) (fun cc_ => ?_) (fun cc_ => ?_)
  · have h := h.1 cc_
    refine lv_iconst (v := 1) hx hb d_C_allPlacesNear_46 (by decide) ?_
    subst hQf
    exact W.zret (v := (1 : Int32)) hx hb hr (by rfl) (fun t ht hW => ⟨⟨(1 : Int32), (), rfl, h, by rw [ht]; exact hP, va_K.moved hW.alike hK, hD⟩, hS.F ht⟩) hS.2.2 d_C_allPlacesNear_47
  · have h := h.2 cc_
    refine lv_aload_n hx hb d_C_allPlacesNear_10 rfl (lv_at hl 0 rfl) ?_
    refine lv_iload_n hx hb d_C_allPlacesNear_11 rfl (lv_at hl 1 rfl) ?_
    refine lv_iload_n hx hb d_C_allPlacesNear_12 rfl (lv_at hl 2 rfl) ?_
    refine lv_aload_n hx hb d_C_allPlacesNear_13 rfl (lv_at hl 0 rfl) ?_
    refine va_get (D := (dC, dI)) (ci := 4) (v := .ref a_handX) (C := R_C) (T := F_C) (N := 10) hx hb hts i_C_in hown hK hP 0 rfl rfl 7 (by decide) (hts _ q_169) (fun _ h9 => h9) rfl d_C_allPlacesNear_14 ?_
    refine lv_iload hx hb d_C_allPlacesNear_17 (lv_at hl 4 rfl) ?_
    obtain ⟨Q19, hq19, h⟩ := h
    have hPc := hP.sub (ws' := (cw_C_cubicAt cI a_handX n_handX f_handX)) [1] rfl
    have hDc := hD.sub (ws' := (cw_C_cubicAt cI a_handX n_handX f_handX)) [1] (by decide) rfl
    have hFc := va_free (wc := (cw_C_cubicAt cI a_handX n_handX f_handX)) hD hS hA [1] rfl
    refine va_calli (va_runS (As := [.ref a_handX, .int x4_l3]) (rest := [.int x2, .int x1, .ref a_this]) ⟨hx, hb, hml, hown, hts⟩ (c_C_cubicAt l dC dI cI cB cJ cZ a_handX H.size n_handX f_handX x4_l3 Q19 hq19) (va_cwS 2 hts (goodS q_599 q_600 q_6 q_601) rfl rfl rfl (by decide +kernel) ⟨Nat.le_of_ble_eq_true rfl, Nat.le_of_ble_eq_true rfl⟩) ⟨fun a U g mk q => by obtain ⟨q0, q1, qP, qK, qD⟩ := q; exact ⟨q0, q1, qP, va_K.moved (u := U) (U := U.calling g mk a) (Vm.Alike.refl U.vm) qK, qD⟩, fun U hU hW => ⟨rfl, by rw [hU], by rw [hU]; exact hPc, va_K.moved hW.alike hK, hDc.weaken (fun _ _ _ _ => trivial)⟩⟩ rfl rfl hl.1 rfl (lv_room (Nat.le_of_ble_eq_true rfl)) d_C_allPlacesNear_19 ⟨Nat.le_of_ble_eq_true rfl, Nat.le_of_ble_eq_true rfl⟩) hS (fun q _ h => hFc q h) hFc (fun r19 u19 t H1 locs ht hvm hw hB hz1 hk1 hS => ?_)
    cases u19
    obtain ⟨hP1, -, hD1⟩ := hB
    rw [ht] at hP1
    have h := h r19 hw
    obtain ⟨hP, hD⟩ := va_join (wr := [(a_this, .inr (4, [.ref a_polygon, .ref a_fewest, .ref a_takenLengths, .ref a_takenPulls, .ref a_firsts, .ref a_lengths, .ref a_pulls, .ref a_handX, .ref a_handY, .int c_count])), (a_handY, .inl (cI, n_handY, .inl f_handY)), (a_polygon, .inr (3, [.ref a_polygon_outlines, .ref a_polygon_costs, .ref a_polygon_rest, .ref a_polygon_restByTwo, .ref a_polygon_points, .ref a_polygon_xs, .ref a_polygon_ys, .ref a_polygon_angles, .ref a_polygon_turns, .int c_polygon_count, .int c_polygon_cost])), (a_polygon_xs, .inl (cI, n_polygon_xs, .inl f_polygon_xs)), (a_polygon_ys, .inl (cI, n_polygon_ys, .inl f_polygon_ys))]) (w1 := (cw_C_cubicAt cI a_handX n_handX f_handX)) hP hD [1] [0, 2, 3, 4, 5] rfl rfl (by decide) (by decide) hk1 hFc hP1 hD1
    clear hP1 hD1 hk1 hPc hDc hFc
    generalize H1 = H at hP hS ⊢
    have hP : va_P (dC, dI) vwCl (cw_C_allPlacesNear cI a_this a_handX a_handY a_polygon a_polygon_xs a_polygon_ys a_fewest a_takenLengths a_takenPulls a_firsts a_lengths a_pulls a_polygon_outlines a_polygon_costs a_polygon_rest a_polygon_restByTwo a_polygon_points a_polygon_angles a_polygon_turns n_handX n_handY n_polygon_xs n_polygon_ys c_count f_handX f_handY c_polygon_count c_polygon_cost f_polygon_xs f_polygon_ys) H := hP.sub [0, 5, 1, 2, 3, 4] rfl
    have hD : va_D A (cw_C_allPlacesNear cI a_this a_handX a_handY a_polygon a_polygon_xs a_polygon_ys a_fewest a_takenLengths a_takenPulls a_firsts a_lengths a_pulls a_polygon_outlines a_polygon_costs a_polygon_rest a_polygon_restByTwo a_polygon_points a_polygon_angles a_polygon_turns n_handX n_handY n_polygon_xs n_polygon_ys c_count f_handX f_handY c_polygon_count c_polygon_cost f_polygon_xs f_polygon_ys) := hD.sub [0, 5, 1, 2, 3, 4] (by decide) rfl
    refine lv_aload_n hx hb d_C_allPlacesNear_22 rfl (lv_at hl 0 rfl) ?_
    refine va_get (D := (dC, dI)) (ci := 4) (v := .ref a_handY) (C := R_C) (T := F_C) (N := 10) hx hb hts i_C_in hown hK hP 0 rfl rfl 8 (by decide) (hts _ q_170) (fun _ h9 => h9) rfl d_C_allPlacesNear_23 ?_
    refine lv_iload hx hb d_C_allPlacesNear_26 (lv_at hl 4 rfl) ?_
    obtain ⟨Q28, hq28, h⟩ := h
    have hPc := hP.sub (ws' := (cw_C_cubicAt cI a_handY n_handY f_handY)) [2] rfl
    have hDc := hD.sub (ws' := (cw_C_cubicAt cI a_handY n_handY f_handY)) [2] (by decide) rfl
    have hFc := va_free (wc := (cw_C_cubicAt cI a_handY n_handY f_handY)) hD hS hA [2] rfl
    refine va_calli (va_runS (As := [.ref a_handY, .int x4_l3]) (rest := [.int r19, .int x2, .int x1, .ref a_this]) ⟨hx, hb, hml, hown, hts⟩ (c_C_cubicAt l dC dI cI cB cJ cZ a_handY H.size n_handY f_handY x4_l3 Q28 hq28) (va_cwS 2 hts (goodS q_599 q_600 q_6 q_601) rfl rfl rfl (by decide +kernel) ⟨Nat.le_of_ble_eq_true rfl, Nat.le_of_ble_eq_true rfl⟩) ⟨fun a U g mk q => by obtain ⟨q0, q1, qP, qK, qD⟩ := q; exact ⟨q0, q1, qP, va_K.moved (u := U) (U := U.calling g mk a) (Vm.Alike.refl U.vm) qK, qD⟩, fun U hU hW => ⟨rfl, by rw [hU], by rw [hU]; exact hPc, va_K.moved hW.alike hK, hDc.weaken (fun _ _ _ _ => trivial)⟩⟩ rfl rfl hl.1 rfl (lv_room (Nat.le_of_ble_eq_true rfl)) d_C_allPlacesNear_28 ⟨Nat.le_of_ble_eq_true rfl, Nat.le_of_ble_eq_true rfl⟩) hS (fun q _ h => hFc q h) hFc (fun r28 u28 t H1 locs ht hvm hw hB hz1 hk1 hS => ?_)
    cases u28
    obtain ⟨hP1, -, hD1⟩ := hB
    rw [ht] at hP1
    have h := h r28 hw
    obtain ⟨hP, hD⟩ := va_join (wr := [(a_this, .inr (4, [.ref a_polygon, .ref a_fewest, .ref a_takenLengths, .ref a_takenPulls, .ref a_firsts, .ref a_lengths, .ref a_pulls, .ref a_handX, .ref a_handY, .int c_count])), (a_handX, .inl (cI, n_handX, .inl f_handX)), (a_polygon, .inr (3, [.ref a_polygon_outlines, .ref a_polygon_costs, .ref a_polygon_rest, .ref a_polygon_restByTwo, .ref a_polygon_points, .ref a_polygon_xs, .ref a_polygon_ys, .ref a_polygon_angles, .ref a_polygon_turns, .int c_polygon_count, .int c_polygon_cost])), (a_polygon_xs, .inl (cI, n_polygon_xs, .inl f_polygon_xs)), (a_polygon_ys, .inl (cI, n_polygon_ys, .inl f_polygon_ys))]) (w1 := (cw_C_cubicAt cI a_handY n_handY f_handY)) hP hD [2] [0, 1, 3, 4, 5] rfl rfl (by decide) (by decide) hk1 hFc hP1 hD1
    clear hP1 hD1 hk1 hPc hDc hFc
    generalize H1 = H at hP hS ⊢
    have hP : va_P (dC, dI) vwCl (cw_C_allPlacesNear cI a_this a_handX a_handY a_polygon a_polygon_xs a_polygon_ys a_fewest a_takenLengths a_takenPulls a_firsts a_lengths a_pulls a_polygon_outlines a_polygon_costs a_polygon_rest a_polygon_restByTwo a_polygon_points a_polygon_angles a_polygon_turns n_handX n_handY n_polygon_xs n_polygon_ys c_count f_handX f_handY c_polygon_count c_polygon_cost f_polygon_xs f_polygon_ys) H := hP.sub [0, 1, 5, 2, 3, 4] rfl
    have hD : va_D A (cw_C_allPlacesNear cI a_this a_handX a_handY a_polygon a_polygon_xs a_polygon_ys a_fewest a_takenLengths a_takenPulls a_firsts a_lengths a_pulls a_polygon_outlines a_polygon_costs a_polygon_rest a_polygon_restByTwo a_polygon_points a_polygon_angles a_polygon_turns n_handX n_handY n_polygon_xs n_polygon_ys c_count f_handX f_handY c_polygon_count c_polygon_cost f_polygon_xs f_polygon_ys) := hD.sub [0, 1, 5, 2, 3, 4] (by decide) rfl
    refine lv_iload_n hx hb d_C_allPlacesNear_31 rfl (lv_at hl 3 rfl) ?_
    obtain ⟨Q32, hq32, h⟩ := h
    have hPc := hP.sub (ws' := (cw_C_nearLines cI a_this a_polygon a_polygon_xs a_polygon_ys a_fewest a_takenLengths a_takenPulls a_firsts a_lengths a_pulls a_handX a_handY a_polygon_outlines a_polygon_costs a_polygon_rest a_polygon_restByTwo a_polygon_points a_polygon_angles a_polygon_turns n_polygon_xs n_polygon_ys c_count c_polygon_count c_polygon_cost f_polygon_xs f_polygon_ys)) [0, 3, 4, 5] rfl
    have hDc := hD.sub (ws' := (cw_C_nearLines cI a_this a_polygon a_polygon_xs a_polygon_ys a_fewest a_takenLengths a_takenPulls a_firsts a_lengths a_pulls a_handX a_handY a_polygon_outlines a_polygon_costs a_polygon_rest a_polygon_restByTwo a_polygon_points a_polygon_angles a_polygon_turns n_polygon_xs n_polygon_ys c_count c_polygon_count c_polygon_cost f_polygon_xs f_polygon_ys)) [0, 3, 4, 5] (by decide) rfl
    have hFc := va_free (wc := (cw_C_nearLines cI a_this a_polygon a_polygon_xs a_polygon_ys a_fewest a_takenLengths a_takenPulls a_firsts a_lengths a_pulls a_handX a_handY a_polygon_outlines a_polygon_costs a_polygon_rest a_polygon_restByTwo a_polygon_points a_polygon_angles a_polygon_turns n_polygon_xs n_polygon_ys c_count c_polygon_count c_polygon_cost f_polygon_xs f_polygon_ys)) hD hS hA [0, 3, 4, 5] rfl
    refine va_calli (va_runV (As := [.int x1, .int x2, .int r19, .int r28, .int x3]) (rest := []) ⟨hx, hb, hml, hown, hts⟩ (c_C_nearLines l dC dI cI cB cJ cZ a_this a_polygon a_polygon_xs a_polygon_ys a_fewest a_takenLengths a_takenPulls a_firsts a_lengths a_pulls a_handX a_handY a_polygon_outlines a_polygon_costs a_polygon_rest a_polygon_restByTwo a_polygon_points a_polygon_angles a_polygon_turns H.size n_polygon_xs n_polygon_ys c_count c_polygon_count c_polygon_cost f_polygon_xs f_polygon_ys x1 x2 r19 r28 x3 Q32 hq32) (cwV 5 hts (goodV q_602 q_604 q_p27 q_6 q_605) rfl rfl rfl (by decide +kernel) ⟨Nat.le_of_ble_eq_true rfl, Nat.le_of_ble_eq_true rfl⟩) ⟨fun a U g mk q => by obtain ⟨q0, q1, qP, qK, qD⟩ := q; exact ⟨q0, q1, qP, va_K.moved (u := U) (U := U.calling g mk a) (Vm.Alike.refl U.vm) qK, qD⟩, va_recv hK hPc (ci := 4) (q0 := 0) rfl rfl, fun U hU hW => ⟨rfl, by rw [hU], by rw [hU]; exact hPc, va_K.moved hW.alike hK, hDc.weaken (fun _ _ _ _ => trivial)⟩⟩ rfl rfl hl.1 rfl (lv_room (Nat.le_of_ble_eq_true rfl)) d_C_allPlacesNear_32 ⟨Nat.le_of_ble_eq_true rfl, Nat.le_of_ble_eq_true rfl⟩) hS (fun q _ h => hFc q h) hFc (fun r32 u32 t H1 locs ht hvm hw hB hz1 hk1 hS => ?_)
    cases u32
    obtain ⟨hP1, -, hD1⟩ := hB
    rw [ht] at hP1
    have h := h r32 hw
    obtain ⟨hP, hD⟩ := va_join (wr := [(a_handX, .inl (cI, n_handX, .inl f_handX)), (a_handY, .inl (cI, n_handY, .inl f_handY))]) (w1 := (cw_C_nearLines cI a_this a_polygon a_polygon_xs a_polygon_ys a_fewest a_takenLengths a_takenPulls a_firsts a_lengths a_pulls a_handX a_handY a_polygon_outlines a_polygon_costs a_polygon_rest a_polygon_restByTwo a_polygon_points a_polygon_angles a_polygon_turns n_polygon_xs n_polygon_ys c_count c_polygon_count c_polygon_cost f_polygon_xs f_polygon_ys)) hP hD [0, 3, 4, 5] [1, 2] rfl rfl (by decide) (by decide) hk1 hFc hP1 hD1
    clear hP1 hD1 hk1 hPc hDc hFc
    generalize H1 = H at hP hS ⊢
    have hP : va_P (dC, dI) vwCl (cw_C_allPlacesNear cI a_this a_handX a_handY a_polygon a_polygon_xs a_polygon_ys a_fewest a_takenLengths a_takenPulls a_firsts a_lengths a_pulls a_polygon_outlines a_polygon_costs a_polygon_rest a_polygon_restByTwo a_polygon_points a_polygon_angles a_polygon_turns n_handX n_handY n_polygon_xs n_polygon_ys c_count f_handX f_handY c_polygon_count c_polygon_cost f_polygon_xs f_polygon_ys) H := hP.sub [2, 0, 1, 3, 4, 5] rfl
    have hD : va_D A (cw_C_allPlacesNear cI a_this a_handX a_handY a_polygon a_polygon_xs a_polygon_ys a_fewest a_takenLengths a_takenPulls a_firsts a_lengths a_pulls a_polygon_outlines a_polygon_costs a_polygon_rest a_polygon_restByTwo a_polygon_points a_polygon_angles a_polygon_turns n_handX n_handY n_polygon_xs n_polygon_ys c_count f_handX f_handY c_polygon_count c_polygon_cost f_polygon_xs f_polygon_ys) := hD.sub [2, 0, 1, 3, 4, 5] (by decide) rfl
    refine lv_if_ne (tgt := 40) hx hb d_C_allPlacesNear_35 (by decide) (fun cc_ => ?_) (fun cc_ => ?_)
    · have h := h.1 cc_
      obtain ⟨x4_40, e_x4_40⟩ : ∃ y : Int32, y = x4_l3 + (1 : Int32) := ⟨_, rfl⟩
      have h := h x4_40 e_x4_40
      refine lv_iinc (v := x4_40) (lv' := [(4, .int x4_40), (0, .ref a_this), (1, .int x1), (2, .int x2), (3, .int x3)]) hx hb d_C_allPlacesNear_40 hl (k := 4) rfl (by rw [e_x4_40]; rfl) (by decide) rfl (fun ls hl => ?_)
      refine lv_goto (tgt := 3) hx hb d_C_allPlacesNear_43 (by decide) ?_
      exact hb3 _ h _ _ _ hP hD hS (lv_sub hl [1, 2, 3, 4, 0] rfl)
    · have h := h.2 cc_
      refine lv_iconst (v := 0) hx hb d_C_allPlacesNear_38 (by decide) ?_
      subst hQf
      exact W.zret (v := (0 : Int32)) hx hb hr (by rfl) (fun t ht hW => ⟨⟨(0 : Int32), (), rfl, h, by rw [ht]; exact hP, va_K.moved hW.alike hK, hD⟩, hS.F ht⟩) hS.2.2 d_C_allPlacesNear_39
def wp_C_leastPull_L3 (n_polygon_xs n_handX n_polygon_ys n_handY : Nat) (c_polygon_count : Int32) (f_polygon_xs : Nat → Int32) (f_polygon_ys : Nat → Int32) (x1 : Int32) (x2 : Int32) (x3 : Int32) (post : Int32 → ((Nat → Int32) × (Nat → Int32)) → Prop) (back3 : (Int32 × (Nat → Int32) × (Nat → Int32)) → Prop) (x4 : Int32) (f_handX : Nat → Int32) (f_handY : Nat → Int32) : Prop :=
  ((64 : Int32) < x4 → post (0 : Int32) (f_handX, f_handY)) ∧ (¬ (64 : Int32) < x4 → ∃ Q15 : ((Nat → Int32) × (Nat → Int32)) → Prop, wp_C_layHand n_polygon_xs n_handX n_polygon_ys n_handY c_polygon_count f_polygon_xs f_handX f_polygon_ys f_handY x1 x2 x4 Q15 ∧ ∀ (u15_0 : Nat → Int32) (u15_1 : Nat → Int32), Q15 (u15_0, u15_1) → ∃ Q22 : Int32 → Unit → Prop, wp_C_allPlacesNear n_handX n_handY n_polygon_xs n_polygon_ys u15_0 u15_1 c_polygon_count f_polygon_xs f_polygon_ys x1 x2 x3 Q22 ∧ ∀ (r22 : Int32), Q22 r22 () → (r22 = 0 → ∀ x4_31 : Int32, x4_31 = x4 + (1 : Int32) → back3 (x4_31, u15_0, u15_1)) ∧ (¬ r22 = 0 → post x4 (u15_0, u15_1)))
def wp_C_leastPull (n_polygon_xs n_handX n_polygon_ys n_handY : Nat) (c_polygon_count : Int32) (f_polygon_xs : Nat → Int32) (f_handX : Nat → Int32) (f_polygon_ys : Nat → Int32) (f_handY : Nat → Int32) (x1 : Int32) (x2 : Int32) (x3 : Int32) (post : Int32 → ((Nat → Int32) × (Nat → Int32)) → Prop) : Prop :=
  lpW (fun b z => wp_C_leastPull_L3 n_polygon_xs n_handX n_polygon_ys n_handY c_polygon_count f_polygon_xs f_polygon_ys x1 x2 x3 post b z.1 z.2.1 z.2.2) ((1 : Int32), f_handX, f_handY)
abbrev cw_C_leastPull (cI : ClassId) (a_this a_polygon a_polygon_xs a_handX a_polygon_ys a_handY a_fewest a_takenLengths a_takenPulls a_firsts a_lengths a_pulls a_polygon_outlines a_polygon_costs a_polygon_rest a_polygon_restByTwo a_polygon_points a_polygon_angles a_polygon_turns : Nat) (n_polygon_xs n_handX n_polygon_ys n_handY : Nat) (c_count : Int32) (c_polygon_count : Int32) (c_polygon_cost : Int32) (f_polygon_xs : Nat → Int32) (f_handX : Nat → Int32) (f_polygon_ys : Nat → Int32) (f_handY : Nat → Int32) : va_W := [(a_this, .inr (4, [.ref a_polygon, .ref a_fewest, .ref a_takenLengths, .ref a_takenPulls, .ref a_firsts, .ref a_lengths, .ref a_pulls, .ref a_handX, .ref a_handY, .int c_count])), (a_polygon, .inr (3, [.ref a_polygon_outlines, .ref a_polygon_costs, .ref a_polygon_rest, .ref a_polygon_restByTwo, .ref a_polygon_points, .ref a_polygon_xs, .ref a_polygon_ys, .ref a_polygon_angles, .ref a_polygon_turns, .int c_polygon_count, .int c_polygon_cost])), (a_polygon_xs, .inl (cI, n_polygon_xs, .inl f_polygon_xs)), (a_handX, .inl (cI, n_handX, .inl f_handX)), (a_polygon_ys, .inl (cI, n_polygon_ys, .inl f_polygon_ys)), (a_handY, .inl (cI, n_handY, .inl f_handY))]
abbrev qq_C_leastPull (dC : Nat → ClassId) (dI : Nat → Nat → Nat) (cI cB cJ cZ : ClassId) (a_this a_polygon a_polygon_xs a_handX a_polygon_ys a_handY a_fewest a_takenLengths a_takenPulls a_firsts a_lengths a_pulls a_polygon_outlines a_polygon_costs a_polygon_rest a_polygon_restByTwo a_polygon_points a_polygon_angles a_polygon_turns : Nat) (n_polygon_xs n_handX n_polygon_ys n_handY : Nat) (c_count : Int32) (c_polygon_count : Int32) (c_polygon_cost : Int32) (f_polygon_xs : Nat → Int32) (f_polygon_ys : Nat → Int32) (A : Nat → Prop) (post : Int32 → ((Nat → Int32) × (Nat → Int32)) → Prop) : Array Value → State → Outcome → State → Prop := va_Qi post (fun u t => va_P (dC, dI) vwCl (cw_C_leastPull cI a_this a_polygon a_polygon_xs a_handX a_polygon_ys a_handY a_fewest a_takenLengths a_takenPulls a_firsts a_lengths a_pulls a_polygon_outlines a_polygon_costs a_polygon_rest a_polygon_restByTwo a_polygon_points a_polygon_angles a_polygon_turns n_polygon_xs n_handX n_polygon_ys n_handY c_count c_polygon_count c_polygon_cost f_polygon_xs u.1 f_polygon_ys u.2) t.heap ∧ va_K (dC, dI) vwCl [(cI, .int), (cB, .byte), (cJ, .long), (cZ, .boolean)] t ∧ va_D A (cw_C_leastPull cI a_this a_polygon a_polygon_xs a_handX a_polygon_ys a_handY a_fewest a_takenLengths a_takenPulls a_firsts a_lengths a_pulls a_polygon_outlines a_polygon_costs a_polygon_rest a_polygon_restByTwo a_polygon_points a_polygon_angles a_polygon_turns n_polygon_xs n_handX n_polygon_ys n_handY c_count c_polygon_count c_polygon_cost f_polygon_xs u.1 f_polygon_ys u.2)) A
set_option maxHeartbeats 4000000 in
set_option maxRecDepth 100000 in
theorem c_C_leastPull (l : Launch) (dC : Nat → ClassId) (dI : Nat → Nat → Nat) (cI cB cJ cZ : ClassId) (a_this a_polygon a_polygon_xs a_handX a_polygon_ys a_handY a_fewest a_takenLengths a_takenPulls a_firsts a_lengths a_pulls a_polygon_outlines a_polygon_costs a_polygon_rest a_polygon_restByTwo a_polygon_points a_polygon_angles a_polygon_turns : Nat) (sz : Nat) (n_polygon_xs n_handX n_polygon_ys n_handY : Nat) (c_count : Int32) (c_polygon_count : Int32) (c_polygon_cost : Int32) (f_polygon_xs : Nat → Int32) (f_handX : Nat → Int32) (f_polygon_ys : Nat → Int32) (f_handY : Nat → Int32) (x1 : Int32) (x2 : Int32) (x3 : Int32) (post : Int32 → ((Nat → Int32) × (Nat → Int32)) → Prop) (h : wp_C_leastPull n_polygon_xs n_handX n_polygon_ys n_handY c_polygon_count f_polygon_xs f_handX f_polygon_ys f_handY x1 x2 x3 post) : Met l y_C_leastPull w_C_leastPull ({ frames := 4, cells := 0, slots := 0, locals := 98 }) (va_Pc [.ref a_this, .int x1, .int x2, .int x3] (fun U => U.heap.size = sz ∧ va_P (dC, dI) vwCl (cw_C_leastPull cI a_this a_polygon a_polygon_xs a_handX a_polygon_ys a_handY a_fewest a_takenLengths a_takenPulls a_firsts a_lengths a_pulls a_polygon_outlines a_polygon_costs a_polygon_rest a_polygon_restByTwo a_polygon_points a_polygon_angles a_polygon_turns n_polygon_xs n_handX n_polygon_ys n_handY c_count c_polygon_count c_polygon_cost f_polygon_xs f_handX f_polygon_ys f_handY) U.heap ∧ va_K (dC, dI) vwCl [(cI, .int), (cB, .byte), (cJ, .long), (cZ, .boolean)] U ∧ va_D (fun _ => True) (cw_C_leastPull cI a_this a_polygon a_polygon_xs a_handX a_polygon_ys a_handY a_fewest a_takenLengths a_takenPulls a_firsts a_lengths a_pulls a_polygon_outlines a_polygon_costs a_polygon_rest a_polygon_restByTwo a_polygon_points a_polygon_angles a_polygon_turns n_polygon_xs n_handX n_polygon_ys n_handY c_count c_polygon_count c_polygon_cost f_polygon_xs f_handX f_polygon_ys f_handY))) (qq_C_leastPull dC dI cI cB cJ cZ a_this a_polygon a_polygon_xs a_handX a_polygon_ys a_handY a_fewest a_takenLengths a_takenPulls a_firsts a_lengths a_pulls a_polygon_outlines a_polygon_costs a_polygon_rest a_polygon_restByTwo a_polygon_points a_polygon_angles a_polygon_turns n_polygon_xs n_handX n_polygon_ys n_handY c_count c_polygon_count c_polygon_cost f_polygon_xs f_polygon_ys (va_A (cw_C_leastPull cI a_this a_polygon a_polygon_xs a_handX a_polygon_ys a_handY a_fewest a_takenLengths a_takenPulls a_firsts a_lengths a_pulls a_polygon_outlines a_polygon_costs a_polygon_rest a_polygon_restByTwo a_polygon_points a_polygon_angles a_polygon_turns n_polygon_xs n_handX n_polygon_ys n_handY c_count c_polygon_count c_polygon_cost f_polygon_xs f_handX f_polygon_ys f_handY) sz) post) 0 0 (va_A (cw_C_leastPull cI a_this a_polygon a_polygon_xs a_handX a_polygon_ys a_handY a_fewest a_takenLengths a_takenPulls a_firsts a_lengths a_pulls a_polygon_outlines a_polygon_costs a_polygon_rest a_polygon_restByTwo a_polygon_points a_polygon_angles a_polygon_turns n_polygon_xs n_handX n_polygon_ys n_handY c_count c_polygon_count c_polygon_cost f_polygon_xs f_handX f_polygon_ys f_handY) sz) := by
  refine Met.ofW (cc := b_C_leastPull) (maxL := 5) (ret := (some .int)) (by decide +kernel) rfl ?_
  intro p e s m args below meth c s₁ B hml hv
  obtain ⟨rfl, hsz, hP, hK, hD0⟩ := hv
  have hx := B.exec
  have hb := B.bytes
  have hr := B.returns
  have hts : ∀ w ∈ allW, w.before _ s = true := fun w hw => atoms_spec (ws := w_C_leastPull) B.pre w (List.mem_cons_of_mem _ hw)
  have hown : s.vm.findClass R_C = some m.cls := findClass_of_methodNamed B.named
  have hlocks := B.notSynchronized
  subst hsz
  have hD := hD0.self (sz := s.heap.size)
  generalize hAe : va_A (cw_C_leastPull cI a_this a_polygon a_polygon_xs a_handX a_polygon_ys a_handY a_fewest a_takenLengths a_takenPulls a_firsts a_lengths a_pulls a_polygon_outlines a_polygon_costs a_polygon_rest a_polygon_restByTwo a_polygon_points a_polygon_angles a_polygon_turns n_polygon_xs n_handX n_polygon_ys n_handY c_count c_polygon_count c_polygon_cost f_polygon_xs f_handX f_polygon_ys f_handY) s.heap.size = A at hD ⊢
  have hA : ∀ q : Nat, s.heap.size ≤ q → A q := fun q h => by rw [← hAe]; exact Or.inr h
  have hS : va_S A s.heap s.heap [] := va_S.rf
  clear hD0
  generalize hQf : MQ below (qq_C_leastPull dC dI cI cB cJ cZ a_this a_polygon a_polygon_xs a_handX a_polygon_ys a_handY a_fewest a_takenLengths a_takenPulls a_firsts a_lengths a_pulls a_polygon_outlines a_polygon_costs a_polygon_rest a_polygon_restByTwo a_polygon_points a_polygon_angles a_polygon_turns n_polygon_xs n_handX n_polygon_ys n_handY c_count c_polygon_count c_polygon_cost f_polygon_xs f_polygon_ys A post) ([.ref a_this, .int x1, .int x2, .int x3] : List Value).toArray s 0 0 A = Qf
  have hl := lv_entry ([.ref a_this, .int x1, .int x2, .int x3]) (n := 5) (Nat.le_of_ble_eq_true rfl)
  rw [lg_entry_eq]
  generalize (lg_sl ([.ref a_this, .int x1, .int x2, .int x3]) ++ List.replicate (5 - (lg_sl ([.ref a_this, .int x1, .int x2, .int x3])).length) Slot.unset).toArray = ls at hl ⊢
  have hl : lv_has ls 5 [(0, .ref a_this), (1, .int x1), (2, .int x2), (3, .int x3)] := hl
  unfold wp_C_leastPull at h
  refine lv_iconst (v := 1) hx hb d_C_leastPull_0 (by decide) ?_
  refine lv_istore (lv' := [(4, .int (1 : Int32)), (0, .ref a_this), (1, .int x1), (2, .int x2), (3, .int x3)]) hx hb d_C_leastPull_1 hl (by decide) rfl (fun ls hl => ?_)
  refine lpW_ind (Wp := fun z => ∀ (H : Heap) (locs : List Loc) (ls : Array Slot), va_P (dC, dI) vwCl (cw_C_leastPull cI a_this a_polygon a_polygon_xs a_handX a_polygon_ys a_handY a_fewest a_takenLengths a_takenPulls a_firsts a_lengths a_pulls a_polygon_outlines a_polygon_costs a_polygon_rest a_polygon_restByTwo a_polygon_points a_polygon_angles a_polygon_turns n_polygon_xs n_handX n_polygon_ys n_handY c_count c_polygon_count c_polygon_cost f_polygon_xs z.2.1 f_polygon_ys z.2.2) H → va_D A (cw_C_leastPull cI a_this a_polygon a_polygon_xs a_handX a_polygon_ys a_handY a_fewest a_takenLengths a_takenPulls a_firsts a_lengths a_pulls a_polygon_outlines a_polygon_costs a_polygon_rest a_polygon_restByTwo a_polygon_points a_polygon_angles a_polygon_turns n_polygon_xs n_handX n_polygon_ys n_handY c_count c_polygon_count c_polygon_cost f_polygon_xs z.2.1 f_polygon_ys z.2.2) → va_S A s.heap H locs → lv_has ls 5 [(0, .ref a_this), (1, .int x1), (2, .int x2), (3, .int x3), (4, .int z.1)] → W p l e (headSpec w_C_leastPull ({ frames := 4, cells := 0, slots := 0, locals := 98 })).room s m ([.ref a_this, .int x1, .int x2, .int x3] : List Value).toArray below meth c H locs 0 0 Qf (F0 m 3 ls [])) h ?_ _ _ _ hP hD hS (lv_sub hl [1, 2, 3, 4, 0] rfl)
  rintro ⟨x4_l3, f_handX_l3, f_handY_l3⟩ back3 h hb3 H locs ls hP hD hS hl
  have h : wp_C_leastPull_L3 n_polygon_xs n_handX n_polygon_ys n_handY c_polygon_count f_polygon_xs f_polygon_ys x1 x2 x3 post back3 x4_l3 f_handX_l3 f_handY_l3 := h
  have hP : va_P (dC, dI) vwCl (cw_C_leastPull cI a_this a_polygon a_polygon_xs a_handX a_polygon_ys a_handY a_fewest a_takenLengths a_takenPulls a_firsts a_lengths a_pulls a_polygon_outlines a_polygon_costs a_polygon_rest a_polygon_restByTwo a_polygon_points a_polygon_angles a_polygon_turns n_polygon_xs n_handX n_polygon_ys n_handY c_count c_polygon_count c_polygon_cost f_polygon_xs f_handX_l3 f_polygon_ys f_handY_l3) H := hP
  have hD : va_D A (cw_C_leastPull cI a_this a_polygon a_polygon_xs a_handX a_polygon_ys a_handY a_fewest a_takenLengths a_takenPulls a_firsts a_lengths a_pulls a_polygon_outlines a_polygon_costs a_polygon_rest a_polygon_restByTwo a_polygon_points a_polygon_angles a_polygon_turns n_polygon_xs n_handX n_polygon_ys n_handY c_count c_polygon_count c_polygon_cost f_polygon_xs f_handX_l3 f_polygon_ys f_handY_l3) := hD
  have hl : lv_has ls 5 [(0, .ref a_this), (1, .int x1), (2, .int x2), (3, .int x3), (4, .int x4_l3)] := hl
  unfold wp_C_leastPull_L3 at h
  refine lv_iload hx hb d_C_leastPull_3 (lv_at hl 4 rfl) ?_
  refine lv_bipush (v := 64) hx hb d_C_leastPull_5 (by decide) ?_
  refine lv_icmp_gt (tgt := 37) hx hb d_C_leastPull_7 (by decide) (fun cc_ => ?_) (fun cc_ => ?_)
  · have h := h.1 cc_
    refine lv_iconst (v := 0) hx hb d_C_leastPull_37 (by decide) ?_
    subst hQf
    exact W.iret (v := (0 : Int32)) hx hb hr (fun t ht hW => ⟨⟨(0 : Int32), (f_handX_l3, f_handY_l3), rfl, h, by rw [ht]; exact hP, va_K.moved hW.alike hK, hD⟩, hS.F ht⟩) hS.2.2 d_C_leastPull_38
  · have h := h.2 cc_
    refine lv_aload_n hx hb d_C_leastPull_10 rfl (lv_at hl 0 rfl) ?_
    refine lv_iload_n hx hb d_C_leastPull_11 rfl (lv_at hl 1 rfl) ?_
    refine lv_iload_n hx hb d_C_leastPull_12 rfl (lv_at hl 2 rfl) ?_
    refine lv_iload hx hb d_C_leastPull_13 (lv_at hl 4 rfl) ?_
    obtain ⟨Q15, hq15, h⟩ := h
    have hPc := hP.sub (ws' := (cw_C_layHand cI a_this a_polygon a_polygon_xs a_handX a_polygon_ys a_handY a_fewest a_takenLengths a_takenPulls a_firsts a_lengths a_pulls a_polygon_outlines a_polygon_costs a_polygon_rest a_polygon_restByTwo a_polygon_points a_polygon_angles a_polygon_turns n_polygon_xs n_handX n_polygon_ys n_handY c_count c_polygon_count c_polygon_cost f_polygon_xs f_handX_l3 f_polygon_ys f_handY_l3)) [0, 1, 2, 3, 4, 5] rfl
    have hDc := hD.sub (ws' := (cw_C_layHand cI a_this a_polygon a_polygon_xs a_handX a_polygon_ys a_handY a_fewest a_takenLengths a_takenPulls a_firsts a_lengths a_pulls a_polygon_outlines a_polygon_costs a_polygon_rest a_polygon_restByTwo a_polygon_points a_polygon_angles a_polygon_turns n_polygon_xs n_handX n_polygon_ys n_handY c_count c_polygon_count c_polygon_cost f_polygon_xs f_handX_l3 f_polygon_ys f_handY_l3)) [0, 1, 2, 3, 4, 5] (by decide) rfl
    have hFc := va_free (wc := (cw_C_layHand cI a_this a_polygon a_polygon_xs a_handX a_polygon_ys a_handY a_fewest a_takenLengths a_takenPulls a_firsts a_lengths a_pulls a_polygon_outlines a_polygon_costs a_polygon_rest a_polygon_restByTwo a_polygon_points a_polygon_angles a_polygon_turns n_polygon_xs n_handX n_polygon_ys n_handY c_count c_polygon_count c_polygon_cost f_polygon_xs f_handX_l3 f_polygon_ys f_handY_l3)) hD hS hA [0, 1, 2, 3, 4, 5] rfl
    refine va_callv (va_runV (As := [.int x1, .int x2, .int x4_l3]) (rest := []) ⟨hx, hb, hml, hown, hts⟩ (c_C_layHand l dC dI cI cB cJ cZ a_this a_polygon a_polygon_xs a_handX a_polygon_ys a_handY a_fewest a_takenLengths a_takenPulls a_firsts a_lengths a_pulls a_polygon_outlines a_polygon_costs a_polygon_rest a_polygon_restByTwo a_polygon_points a_polygon_angles a_polygon_turns H.size n_polygon_xs n_handX n_polygon_ys n_handY c_count c_polygon_count c_polygon_cost f_polygon_xs f_handX_l3 f_polygon_ys f_handY_l3 x1 x2 x4_l3 Q15 hq15) (cwV 3 hts (goodV q_588 q_590 q_p25 q_6 q_591) rfl rfl rfl (by decide +kernel) ⟨Nat.le_of_ble_eq_true rfl, Nat.le_of_ble_eq_true rfl⟩) ⟨fun a U g mk q => by obtain ⟨q0, q1, qP, qK, qD⟩ := q; exact ⟨q0, q1, qP, va_K.moved (u := U) (U := U.calling g mk a) (Vm.Alike.refl U.vm) qK, qD⟩, va_recv hK hPc (ci := 4) (q0 := 0) rfl rfl, fun U hU hW => ⟨rfl, by rw [hU], by rw [hU]; exact hPc, va_K.moved hW.alike hK, hDc.weaken (fun _ _ _ _ => trivial)⟩⟩ rfl rfl hl.1 rfl (lv_room (Nat.le_of_ble_eq_true rfl)) d_C_leastPull_15 ⟨Nat.le_of_ble_eq_true rfl, Nat.le_of_ble_eq_true rfl⟩) hS (fun q _ h => hFc q h) hFc (fun u15 t H1 locs ht hvm hw hB hz1 hk1 hS => ?_)
    obtain ⟨u15_0, u15_1⟩ := u15
    obtain ⟨hP1, -, hD1⟩ := hB
    rw [ht] at hP1
    have h := h u15_0 u15_1 hw
    obtain ⟨hP, hD⟩ := va_join (wr := []) (w1 := (cw_C_layHand cI a_this a_polygon a_polygon_xs a_handX a_polygon_ys a_handY a_fewest a_takenLengths a_takenPulls a_firsts a_lengths a_pulls a_polygon_outlines a_polygon_costs a_polygon_rest a_polygon_restByTwo a_polygon_points a_polygon_angles a_polygon_turns n_polygon_xs n_handX n_polygon_ys n_handY c_count c_polygon_count c_polygon_cost f_polygon_xs u15_0 f_polygon_ys u15_1)) hP hD [0, 1, 2, 3, 4, 5] [] rfl rfl (by decide) (by decide) hk1 hFc hP1 hD1
    clear hP1 hD1 hk1 hPc hDc hFc
    generalize H1 = H at hP hS ⊢
    have hP : va_P (dC, dI) vwCl (cw_C_leastPull cI a_this a_polygon a_polygon_xs a_handX a_polygon_ys a_handY a_fewest a_takenLengths a_takenPulls a_firsts a_lengths a_pulls a_polygon_outlines a_polygon_costs a_polygon_rest a_polygon_restByTwo a_polygon_points a_polygon_angles a_polygon_turns n_polygon_xs n_handX n_polygon_ys n_handY c_count c_polygon_count c_polygon_cost f_polygon_xs u15_0 f_polygon_ys u15_1) H := hP.sub [0, 1, 2, 3, 4, 5] rfl
    have hD : va_D A (cw_C_leastPull cI a_this a_polygon a_polygon_xs a_handX a_polygon_ys a_handY a_fewest a_takenLengths a_takenPulls a_firsts a_lengths a_pulls a_polygon_outlines a_polygon_costs a_polygon_rest a_polygon_restByTwo a_polygon_points a_polygon_angles a_polygon_turns n_polygon_xs n_handX n_polygon_ys n_handY c_count c_polygon_count c_polygon_cost f_polygon_xs u15_0 f_polygon_ys u15_1) := hD.sub [0, 1, 2, 3, 4, 5] (by decide) rfl
    refine lv_aload_n hx hb d_C_leastPull_18 rfl (lv_at hl 0 rfl) ?_
    refine lv_iload_n hx hb d_C_leastPull_19 rfl (lv_at hl 1 rfl) ?_
    refine lv_iload_n hx hb d_C_leastPull_20 rfl (lv_at hl 2 rfl) ?_
    refine lv_iload_n hx hb d_C_leastPull_21 rfl (lv_at hl 3 rfl) ?_
    obtain ⟨Q22, hq22, h⟩ := h
    have hPc := hP.sub (ws' := (cw_C_allPlacesNear cI a_this a_handX a_handY a_polygon a_polygon_xs a_polygon_ys a_fewest a_takenLengths a_takenPulls a_firsts a_lengths a_pulls a_polygon_outlines a_polygon_costs a_polygon_rest a_polygon_restByTwo a_polygon_points a_polygon_angles a_polygon_turns n_handX n_handY n_polygon_xs n_polygon_ys c_count u15_0 u15_1 c_polygon_count c_polygon_cost f_polygon_xs f_polygon_ys)) [0, 3, 5, 1, 2, 4] rfl
    have hDc := hD.sub (ws' := (cw_C_allPlacesNear cI a_this a_handX a_handY a_polygon a_polygon_xs a_polygon_ys a_fewest a_takenLengths a_takenPulls a_firsts a_lengths a_pulls a_polygon_outlines a_polygon_costs a_polygon_rest a_polygon_restByTwo a_polygon_points a_polygon_angles a_polygon_turns n_handX n_handY n_polygon_xs n_polygon_ys c_count u15_0 u15_1 c_polygon_count c_polygon_cost f_polygon_xs f_polygon_ys)) [0, 3, 5, 1, 2, 4] (by decide) rfl
    have hFc := va_free (wc := (cw_C_allPlacesNear cI a_this a_handX a_handY a_polygon a_polygon_xs a_polygon_ys a_fewest a_takenLengths a_takenPulls a_firsts a_lengths a_pulls a_polygon_outlines a_polygon_costs a_polygon_rest a_polygon_restByTwo a_polygon_points a_polygon_angles a_polygon_turns n_handX n_handY n_polygon_xs n_polygon_ys c_count u15_0 u15_1 c_polygon_count c_polygon_cost f_polygon_xs f_polygon_ys)) hD hS hA [0, 3, 5, 1, 2, 4] rfl
    refine va_calli (va_runV (As := [.int x1, .int x2, .int x3]) (rest := []) ⟨hx, hb, hml, hown, hts⟩ (c_C_allPlacesNear l dC dI cI cB cJ cZ a_this a_handX a_handY a_polygon a_polygon_xs a_polygon_ys a_fewest a_takenLengths a_takenPulls a_firsts a_lengths a_pulls a_polygon_outlines a_polygon_costs a_polygon_rest a_polygon_restByTwo a_polygon_points a_polygon_angles a_polygon_turns H.size n_handX n_handY n_polygon_xs n_polygon_ys c_count u15_0 u15_1 c_polygon_count c_polygon_cost f_polygon_xs f_polygon_ys x1 x2 x3 Q22 hq22) (cwV 3 hts (goodV q_595 q_597 q_p26 q_6 q_598) rfl rfl rfl (by decide +kernel) ⟨Nat.le_of_ble_eq_true rfl, Nat.le_of_ble_eq_true rfl⟩) ⟨fun a U g mk q => by obtain ⟨q0, q1, qP, qK, qD⟩ := q; exact ⟨q0, q1, qP, va_K.moved (u := U) (U := U.calling g mk a) (Vm.Alike.refl U.vm) qK, qD⟩, va_recv hK hPc (ci := 4) (q0 := 0) rfl rfl, fun U hU hW => ⟨rfl, by rw [hU], by rw [hU]; exact hPc, va_K.moved hW.alike hK, hDc.weaken (fun _ _ _ _ => trivial)⟩⟩ rfl rfl hl.1 rfl (lv_room (Nat.le_of_ble_eq_true rfl)) d_C_leastPull_22 ⟨Nat.le_of_ble_eq_true rfl, Nat.le_of_ble_eq_true rfl⟩) hS (fun q _ h => hFc q h) hFc (fun r22 u22 t H1 locs ht hvm hw hB hz1 hk1 hS => ?_)
    cases u22
    obtain ⟨hP1, -, hD1⟩ := hB
    rw [ht] at hP1
    have h := h r22 hw
    obtain ⟨hP, hD⟩ := va_join (wr := []) (w1 := (cw_C_allPlacesNear cI a_this a_handX a_handY a_polygon a_polygon_xs a_polygon_ys a_fewest a_takenLengths a_takenPulls a_firsts a_lengths a_pulls a_polygon_outlines a_polygon_costs a_polygon_rest a_polygon_restByTwo a_polygon_points a_polygon_angles a_polygon_turns n_handX n_handY n_polygon_xs n_polygon_ys c_count u15_0 u15_1 c_polygon_count c_polygon_cost f_polygon_xs f_polygon_ys)) hP hD [0, 3, 5, 1, 2, 4] [] rfl rfl (by decide) (by decide) hk1 hFc hP1 hD1
    clear hP1 hD1 hk1 hPc hDc hFc
    generalize H1 = H at hP hS ⊢
    have hP : va_P (dC, dI) vwCl (cw_C_leastPull cI a_this a_polygon a_polygon_xs a_handX a_polygon_ys a_handY a_fewest a_takenLengths a_takenPulls a_firsts a_lengths a_pulls a_polygon_outlines a_polygon_costs a_polygon_rest a_polygon_restByTwo a_polygon_points a_polygon_angles a_polygon_turns n_polygon_xs n_handX n_polygon_ys n_handY c_count c_polygon_count c_polygon_cost f_polygon_xs u15_0 f_polygon_ys u15_1) H := hP.sub [0, 3, 4, 1, 5, 2] rfl
    have hD : va_D A (cw_C_leastPull cI a_this a_polygon a_polygon_xs a_handX a_polygon_ys a_handY a_fewest a_takenLengths a_takenPulls a_firsts a_lengths a_pulls a_polygon_outlines a_polygon_costs a_polygon_rest a_polygon_restByTwo a_polygon_points a_polygon_angles a_polygon_turns n_polygon_xs n_handX n_polygon_ys n_handY c_count c_polygon_count c_polygon_cost f_polygon_xs u15_0 f_polygon_ys u15_1) := hD.sub [0, 3, 4, 1, 5, 2] (by decide) rfl
    refine lv_if_eq (tgt := 31) hx hb d_C_leastPull_25 (by decide) (fun cc_ => ?_) (fun cc_ => ?_)
    · have h := h.1 cc_
      obtain ⟨x4_31, e_x4_31⟩ : ∃ y : Int32, y = x4_l3 + (1 : Int32) := ⟨_, rfl⟩
      have h := h x4_31 e_x4_31
      refine lv_iinc (v := x4_31) (lv' := [(4, .int x4_31), (0, .ref a_this), (1, .int x1), (2, .int x2), (3, .int x3)]) hx hb d_C_leastPull_31 hl (k := 4) rfl (by rw [e_x4_31]; rfl) (by decide) rfl (fun ls hl => ?_)
      refine lv_goto (tgt := 3) hx hb d_C_leastPull_34 (by decide) ?_
      exact hb3 _ h _ _ _ hP hD hS (lv_sub hl [1, 2, 3, 4, 0] rfl)
    · have h := h.2 cc_
      refine lv_iload hx hb d_C_leastPull_28 (lv_at hl 4 rfl) ?_
      subst hQf
      exact W.iret (v := x4_l3) hx hb hr (fun t ht hW => ⟨⟨x4_l3, (u15_0, u15_1), rfl, h, by rw [ht]; exact hP, va_K.moved hW.alike hK, hD⟩, hS.F ht⟩) hS.2.2 d_C_leastPull_30
def wp_C_choose_J125 (n_polygon_angles n_polygon_turns n_fewest n_polygon_xs n_handX n_polygon_ys n_handY n_takenLengths n_takenPulls : Nat) (c_polygon_count : Int32) (f_polygon_angles : Nat → Int32) (f_polygon_turns : Nat → Int32) (f_polygon_xs : Nat → Int32) (f_polygon_ys : Nat → Int32) (f_fewest : Nat → Int32) (f_handX : Nat → Int32) (f_handY : Nat → Int32) (f_takenLengths : Nat → Int32) (f_takenPulls : Nat → Int32) (x1 : Int32) (x2 : Int32) (x4 : Int32) (x5 : Int32) (x6 : Int32) (x7 : Int32) (back47 : (Int32 × Int32 × (Nat → Int32) × (Nat → Int32) × (Nat → Int32) × (Nat → Int32)) → Prop) (post : ((Nat → Int32) × (Nat → Int32) × (Nat → Int32) × (Nat → Int32) × (Nat → Int32)) → Prop) : Prop :=
  ∀ x7_125 : Int32, x7_125 = x7 + (-1 : Int32) → back47 (x6, x7_125, f_handX, f_handY, f_takenLengths, f_takenPulls)
def wp_C_choose_J105 (n_polygon_angles n_polygon_turns n_fewest n_polygon_xs n_handX n_polygon_ys n_handY n_takenLengths n_takenPulls : Nat) (c_polygon_count : Int32) (f_polygon_angles : Nat → Int32) (f_polygon_turns : Nat → Int32) (f_polygon_xs : Nat → Int32) (f_polygon_ys : Nat → Int32) (f_fewest : Nat → Int32) (f_handX : Nat → Int32) (f_handY : Nat → Int32) (f_takenLengths : Nat → Int32) (f_takenPulls : Nat → Int32) (x1 : Int32) (x2 : Int32) (x4 : Int32) (x5 : Int32) (x7 : Int32) (x8 : Int32) (x9 : Int32) (back47 : (Int32 × Int32 × (Nat → Int32) × (Nat → Int32) × (Nat → Int32) × (Nat → Int32)) → Prop) (post : ((Nat → Int32) × (Nat → Int32) × (Nat → Int32) × (Nat → Int32) × (Nat → Int32)) → Prop) : Prop :=
  vp_in x1 n_takenLengths ∧ ∀ f112 : Nat → Int32, f112 = upd f_takenLengths x1.toNatClampNeg x7 → vp_in x1 n_takenPulls ∧ ∀ f120 : Nat → Int32, f120 = upd f_takenPulls x1.toNatClampNeg x9 → wp_C_choose_J125 n_polygon_angles n_polygon_turns n_fewest n_polygon_xs n_handX n_polygon_ys n_handY n_takenLengths n_takenPulls c_polygon_count f_polygon_angles f_polygon_turns f_polygon_xs f_polygon_ys f_fewest f_handX f_handY f112 f120 x1 x2 x4 x5 x8 x7 back47 post
def wp_C_choose_J92 (n_polygon_angles n_polygon_turns n_fewest n_polygon_xs n_handX n_polygon_ys n_handY n_takenLengths n_takenPulls : Nat) (c_polygon_count : Int32) (f_polygon_angles : Nat → Int32) (f_polygon_turns : Nat → Int32) (f_polygon_xs : Nat → Int32) (f_polygon_ys : Nat → Int32) (f_fewest : Nat → Int32) (f_handX : Nat → Int32) (f_handY : Nat → Int32) (f_takenLengths : Nat → Int32) (f_takenPulls : Nat → Int32) (x1 : Int32) (x2 : Int32) (x4 : Int32) (x5 : Int32) (x6 : Int32) (x7 : Int32) (x8 : Int32) (y0 : Int32) (back47 : (Int32 × Int32 × (Nat → Int32) × (Nat → Int32) × (Nat → Int32) × (Nat → Int32)) → Prop) (post : ((Nat → Int32) × (Nat → Int32) × (Nat → Int32) × (Nat → Int32) × (Nat → Int32)) → Prop) : Prop :=
  (x7 = (1 : Int32) → wp_C_choose_J105 n_polygon_angles n_polygon_turns n_fewest n_polygon_xs n_handX n_polygon_ys n_handY n_takenLengths n_takenPulls c_polygon_count f_polygon_angles f_polygon_turns f_polygon_xs f_polygon_ys f_fewest f_handX f_handY f_takenLengths f_takenPulls x1 x2 x4 x5 x7 x8 y0 back47 post) ∧ (¬ x7 = (1 : Int32) → (y0 ≤ 0 → wp_C_choose_J125 n_polygon_angles n_polygon_turns n_fewest n_polygon_xs n_handX n_polygon_ys n_handY n_takenLengths n_takenPulls c_polygon_count f_polygon_angles f_polygon_turns f_polygon_xs f_polygon_ys f_fewest f_handX f_handY f_takenLengths f_takenPulls x1 x2 x4 x5 x6 x7 back47 post) ∧ (¬ y0 ≤ 0 → wp_C_choose_J105 n_polygon_angles n_polygon_turns n_fewest n_polygon_xs n_handX n_polygon_ys n_handY n_takenLengths n_takenPulls c_polygon_count f_polygon_angles f_polygon_turns f_polygon_xs f_polygon_ys f_fewest f_handX f_handY f_takenLengths f_takenPulls x1 x2 x4 x5 x7 x8 y0 back47 post))
def wp_C_choose_L47 (n_polygon_angles n_polygon_turns n_fewest n_polygon_xs n_handX n_polygon_ys n_handY n_takenLengths n_takenPulls : Nat) (c_polygon_count : Int32) (f_polygon_angles : Nat → Int32) (f_polygon_turns : Nat → Int32) (f_polygon_xs : Nat → Int32) (f_polygon_ys : Nat → Int32) (f_fewest : Nat → Int32) (x1 : Int32) (x2 : Int32) (x4 : Int32) (x5 : Int32) (post : ((Nat → Int32) × (Nat → Int32) × (Nat → Int32) × (Nat → Int32) × (Nat → Int32)) → Prop) (back47 : (Int32 × Int32 × (Nat → Int32) × (Nat → Int32) × (Nat → Int32) × (Nat → Int32)) → Prop) (x6 : Int32) (x7 : Int32) (f_handX : Nat → Int32) (f_handY : Nat → Int32) (f_takenLengths : Nat → Int32) (f_takenPulls : Nat → Int32) : Prop :=
  (x7 ≤ 0 → vp_in x1 n_fewest ∧ ∀ f138 : Nat → Int32, f138 = upd f_fewest x1.toNatClampNeg x6 → post (f138, f_handX, f_handY, f_takenLengths, f_takenPulls)) ∧ (¬ x7 ≤ 0 → vp_in (x1 + x7) n_fewest ∧ ∀ x8_63 : Int32, x8_63 = ((1 : Int32) + (f_fewest (x1 + x7).toNatClampNeg)) → (x6 ≤ x8_63 → wp_C_choose_J125 n_polygon_angles n_polygon_turns n_fewest n_polygon_xs n_handX n_polygon_ys n_handY n_takenLengths n_takenPulls c_polygon_count f_polygon_angles f_polygon_turns f_polygon_xs f_polygon_ys f_fewest f_handX f_handY f_takenLengths f_takenPulls x1 x2 x4 x5 x6 x7 back47 post) ∧ (¬ x6 ≤ x8_63 → (¬ x7 = (1 : Int32) → ∃ Q89 : Int32 → ((Nat → Int32) × (Nat → Int32)) → Prop, wp_C_leastPull n_polygon_xs n_handX n_polygon_ys n_handY c_polygon_count f_polygon_xs f_handX f_polygon_ys f_handY x2 x7 x4 Q89 ∧ ∀ (r89 : Int32) (u89_0 : Nat → Int32) (u89_1 : Nat → Int32), Q89 r89 (u89_0, u89_1) → wp_C_choose_J92 n_polygon_angles n_polygon_turns n_fewest n_polygon_xs n_handX n_polygon_ys n_handY n_takenLengths n_takenPulls c_polygon_count f_polygon_angles f_polygon_turns f_polygon_xs f_polygon_ys f_fewest u89_0 u89_1 f_takenLengths f_takenPulls x1 x2 x4 x5 x6 x7 x8_63 r89 back47 post) ∧ (x7 = (1 : Int32) → wp_C_choose_J92 n_polygon_angles n_polygon_turns n_fewest n_polygon_xs n_handX n_polygon_ys n_handY n_takenLengths n_takenPulls c_polygon_count f_polygon_angles f_polygon_turns f_polygon_xs f_polygon_ys f_fewest f_handX f_handY f_takenLengths f_takenPulls x1 x2 x4 x5 x6 x7 x8_63 x5 back47 post)))
def wp_C_choose_J32 (n_polygon_angles n_polygon_turns n_fewest n_polygon_xs n_handX n_polygon_ys n_handY n_takenLengths n_takenPulls : Nat) (c_polygon_count : Int32) (f_polygon_angles : Nat → Int32) (f_polygon_turns : Nat → Int32) (f_polygon_xs : Nat → Int32) (f_polygon_ys : Nat → Int32) (f_fewest : Nat → Int32) (f_handX : Nat → Int32) (f_handY : Nat → Int32) (f_takenLengths : Nat → Int32) (f_takenPulls : Nat → Int32) (x1 : Int32) (x2 : Int32) (x3 : Int32) (x4 : Int32) (y0 : Int32) (post : ((Nat → Int32) × (Nat → Int32) × (Nat → Int32) × (Nat → Int32) × (Nat → Int32)) → Prop) : Prop :=
  ∃ Q42 : Int32 → Unit → Prop, wp_C_joinable n_polygon_turns n_polygon_angles c_polygon_count f_polygon_turns f_polygon_angles x1 x2 x3 Q42 ∧ ∀ (r42 : Int32), Q42 r42 () → lpW (fun b z => wp_C_choose_L47 n_polygon_angles n_polygon_turns n_fewest n_polygon_xs n_handX n_polygon_ys n_handY n_takenLengths n_takenPulls c_polygon_count f_polygon_angles f_polygon_turns f_polygon_xs f_polygon_ys f_fewest x1 x2 x4 y0 post b z.1 z.2.1 z.2.2.1 z.2.2.2.1 z.2.2.2.2.1 z.2.2.2.2.2) ((2147483647 : Int32), r42, f_handX, f_handY, f_takenLengths, f_takenPulls)
def wp_C_choose (n_polygon_angles n_polygon_turns n_fewest n_polygon_xs n_handX n_polygon_ys n_handY n_takenLengths n_takenPulls : Nat) (c_polygon_count : Int32) (f_polygon_angles : Nat → Int32) (f_polygon_turns : Nat → Int32) (f_fewest : Nat → Int32) (f_polygon_xs : Nat → Int32) (f_handX : Nat → Int32) (f_polygon_ys : Nat → Int32) (f_handY : Nat → Int32) (f_takenLengths : Nat → Int32) (f_takenPulls : Nat → Int32) (x1 : Int32) (x2 : Int32) (x3 : Int32) (x4 : Int32) (post : ((Nat → Int32) × (Nat → Int32) × (Nat → Int32) × (Nat → Int32) × (Nat → Int32)) → Prop) : Prop :=
  vp_in x2 n_polygon_angles ∧ ((f_polygon_angles x2.toNatClampNeg) < x3 → vp_in x2 n_polygon_angles ∧ wp_C_choose_J32 n_polygon_angles n_polygon_turns n_fewest n_polygon_xs n_handX n_polygon_ys n_handY n_takenLengths n_takenPulls c_polygon_count f_polygon_angles f_polygon_turns f_polygon_xs f_polygon_ys f_fewest f_handX f_handY f_takenLengths f_takenPulls x1 x2 x3 x4 ((8 : Int32) + ((f_polygon_angles x2.toNatClampNeg) / (8 : Int32))) post) ∧ (¬ (f_polygon_angles x2.toNatClampNeg) < x3 → wp_C_choose_J32 n_polygon_angles n_polygon_turns n_fewest n_polygon_xs n_handX n_polygon_ys n_handY n_takenLengths n_takenPulls c_polygon_count f_polygon_angles f_polygon_turns f_polygon_xs f_polygon_ys f_fewest f_handX f_handY f_takenLengths f_takenPulls x1 x2 x3 x4 (0 : Int32) post)
abbrev cw_C_choose (cI : ClassId) (a_this a_polygon a_polygon_angles a_polygon_turns a_fewest a_polygon_xs a_handX a_polygon_ys a_handY a_takenLengths a_takenPulls a_firsts a_lengths a_pulls a_polygon_outlines a_polygon_costs a_polygon_rest a_polygon_restByTwo a_polygon_points : Nat) (n_polygon_angles n_polygon_turns n_fewest n_polygon_xs n_handX n_polygon_ys n_handY n_takenLengths n_takenPulls : Nat) (c_count : Int32) (c_polygon_count : Int32) (c_polygon_cost : Int32) (f_polygon_angles : Nat → Int32) (f_polygon_turns : Nat → Int32) (f_fewest : Nat → Int32) (f_polygon_xs : Nat → Int32) (f_handX : Nat → Int32) (f_polygon_ys : Nat → Int32) (f_handY : Nat → Int32) (f_takenLengths : Nat → Int32) (f_takenPulls : Nat → Int32) : va_W := [(a_this, .inr (4, [.ref a_polygon, .ref a_fewest, .ref a_takenLengths, .ref a_takenPulls, .ref a_firsts, .ref a_lengths, .ref a_pulls, .ref a_handX, .ref a_handY, .int c_count])), (a_polygon, .inr (3, [.ref a_polygon_outlines, .ref a_polygon_costs, .ref a_polygon_rest, .ref a_polygon_restByTwo, .ref a_polygon_points, .ref a_polygon_xs, .ref a_polygon_ys, .ref a_polygon_angles, .ref a_polygon_turns, .int c_polygon_count, .int c_polygon_cost])), (a_polygon_angles, .inl (cI, n_polygon_angles, .inl f_polygon_angles)), (a_polygon_turns, .inl (cI, n_polygon_turns, .inl f_polygon_turns)), (a_fewest, .inl (cI, n_fewest, .inl f_fewest)), (a_polygon_xs, .inl (cI, n_polygon_xs, .inl f_polygon_xs)), (a_handX, .inl (cI, n_handX, .inl f_handX)), (a_polygon_ys, .inl (cI, n_polygon_ys, .inl f_polygon_ys)), (a_handY, .inl (cI, n_handY, .inl f_handY)), (a_takenLengths, .inl (cI, n_takenLengths, .inl f_takenLengths)), (a_takenPulls, .inl (cI, n_takenPulls, .inl f_takenPulls))]
abbrev qq_C_choose (dC : Nat → ClassId) (dI : Nat → Nat → Nat) (cI cB cJ cZ : ClassId) (a_this a_polygon a_polygon_angles a_polygon_turns a_fewest a_polygon_xs a_handX a_polygon_ys a_handY a_takenLengths a_takenPulls a_firsts a_lengths a_pulls a_polygon_outlines a_polygon_costs a_polygon_rest a_polygon_restByTwo a_polygon_points : Nat) (n_polygon_angles n_polygon_turns n_fewest n_polygon_xs n_handX n_polygon_ys n_handY n_takenLengths n_takenPulls : Nat) (c_count : Int32) (c_polygon_count : Int32) (c_polygon_cost : Int32) (f_polygon_angles : Nat → Int32) (f_polygon_turns : Nat → Int32) (f_polygon_xs : Nat → Int32) (f_polygon_ys : Nat → Int32) (A : Nat → Prop) (post : ((Nat → Int32) × (Nat → Int32) × (Nat → Int32) × (Nat → Int32) × (Nat → Int32)) → Prop) : Array Value → State → Outcome → State → Prop := va_Qv post (fun u t => va_P (dC, dI) vwCl (cw_C_choose cI a_this a_polygon a_polygon_angles a_polygon_turns a_fewest a_polygon_xs a_handX a_polygon_ys a_handY a_takenLengths a_takenPulls a_firsts a_lengths a_pulls a_polygon_outlines a_polygon_costs a_polygon_rest a_polygon_restByTwo a_polygon_points n_polygon_angles n_polygon_turns n_fewest n_polygon_xs n_handX n_polygon_ys n_handY n_takenLengths n_takenPulls c_count c_polygon_count c_polygon_cost f_polygon_angles f_polygon_turns u.1 f_polygon_xs u.2.1 f_polygon_ys u.2.2.1 u.2.2.2.1 u.2.2.2.2) t.heap ∧ va_K (dC, dI) vwCl [(cI, .int), (cB, .byte), (cJ, .long), (cZ, .boolean)] t ∧ va_D A (cw_C_choose cI a_this a_polygon a_polygon_angles a_polygon_turns a_fewest a_polygon_xs a_handX a_polygon_ys a_handY a_takenLengths a_takenPulls a_firsts a_lengths a_pulls a_polygon_outlines a_polygon_costs a_polygon_rest a_polygon_restByTwo a_polygon_points n_polygon_angles n_polygon_turns n_fewest n_polygon_xs n_handX n_polygon_ys n_handY n_takenLengths n_takenPulls c_count c_polygon_count c_polygon_cost f_polygon_angles f_polygon_turns u.1 f_polygon_xs u.2.1 f_polygon_ys u.2.2.1 u.2.2.2.1 u.2.2.2.2)) A
set_option maxHeartbeats 4000000 in
set_option maxRecDepth 100000 in
theorem c_C_choose (l : Launch) (dC : Nat → ClassId) (dI : Nat → Nat → Nat) (cI cB cJ cZ : ClassId) (a_this a_polygon a_polygon_angles a_polygon_turns a_fewest a_polygon_xs a_handX a_polygon_ys a_handY a_takenLengths a_takenPulls a_firsts a_lengths a_pulls a_polygon_outlines a_polygon_costs a_polygon_rest a_polygon_restByTwo a_polygon_points : Nat) (sz : Nat) (n_polygon_angles n_polygon_turns n_fewest n_polygon_xs n_handX n_polygon_ys n_handY n_takenLengths n_takenPulls : Nat) (c_count : Int32) (c_polygon_count : Int32) (c_polygon_cost : Int32) (f_polygon_angles : Nat → Int32) (f_polygon_turns : Nat → Int32) (f_fewest : Nat → Int32) (f_polygon_xs : Nat → Int32) (f_handX : Nat → Int32) (f_polygon_ys : Nat → Int32) (f_handY : Nat → Int32) (f_takenLengths : Nat → Int32) (f_takenPulls : Nat → Int32) (x1 : Int32) (x2 : Int32) (x3 : Int32) (x4 : Int32) (post : ((Nat → Int32) × (Nat → Int32) × (Nat → Int32) × (Nat → Int32) × (Nat → Int32)) → Prop) (h : wp_C_choose n_polygon_angles n_polygon_turns n_fewest n_polygon_xs n_handX n_polygon_ys n_handY n_takenLengths n_takenPulls c_polygon_count f_polygon_angles f_polygon_turns f_fewest f_polygon_xs f_handX f_polygon_ys f_handY f_takenLengths f_takenPulls x1 x2 x3 x4 post) : Met l y_C_choose w_C_choose ({ frames := 5, cells := 0, slots := 0, locals := 122 }) (va_Pc [.ref a_this, .int x1, .int x2, .int x3, .int x4] (fun U => U.heap.size = sz ∧ va_P (dC, dI) vwCl (cw_C_choose cI a_this a_polygon a_polygon_angles a_polygon_turns a_fewest a_polygon_xs a_handX a_polygon_ys a_handY a_takenLengths a_takenPulls a_firsts a_lengths a_pulls a_polygon_outlines a_polygon_costs a_polygon_rest a_polygon_restByTwo a_polygon_points n_polygon_angles n_polygon_turns n_fewest n_polygon_xs n_handX n_polygon_ys n_handY n_takenLengths n_takenPulls c_count c_polygon_count c_polygon_cost f_polygon_angles f_polygon_turns f_fewest f_polygon_xs f_handX f_polygon_ys f_handY f_takenLengths f_takenPulls) U.heap ∧ va_K (dC, dI) vwCl [(cI, .int), (cB, .byte), (cJ, .long), (cZ, .boolean)] U ∧ va_D (fun _ => True) (cw_C_choose cI a_this a_polygon a_polygon_angles a_polygon_turns a_fewest a_polygon_xs a_handX a_polygon_ys a_handY a_takenLengths a_takenPulls a_firsts a_lengths a_pulls a_polygon_outlines a_polygon_costs a_polygon_rest a_polygon_restByTwo a_polygon_points n_polygon_angles n_polygon_turns n_fewest n_polygon_xs n_handX n_polygon_ys n_handY n_takenLengths n_takenPulls c_count c_polygon_count c_polygon_cost f_polygon_angles f_polygon_turns f_fewest f_polygon_xs f_handX f_polygon_ys f_handY f_takenLengths f_takenPulls))) (qq_C_choose dC dI cI cB cJ cZ a_this a_polygon a_polygon_angles a_polygon_turns a_fewest a_polygon_xs a_handX a_polygon_ys a_handY a_takenLengths a_takenPulls a_firsts a_lengths a_pulls a_polygon_outlines a_polygon_costs a_polygon_rest a_polygon_restByTwo a_polygon_points n_polygon_angles n_polygon_turns n_fewest n_polygon_xs n_handX n_polygon_ys n_handY n_takenLengths n_takenPulls c_count c_polygon_count c_polygon_cost f_polygon_angles f_polygon_turns f_polygon_xs f_polygon_ys (va_A (cw_C_choose cI a_this a_polygon a_polygon_angles a_polygon_turns a_fewest a_polygon_xs a_handX a_polygon_ys a_handY a_takenLengths a_takenPulls a_firsts a_lengths a_pulls a_polygon_outlines a_polygon_costs a_polygon_rest a_polygon_restByTwo a_polygon_points n_polygon_angles n_polygon_turns n_fewest n_polygon_xs n_handX n_polygon_ys n_handY n_takenLengths n_takenPulls c_count c_polygon_count c_polygon_cost f_polygon_angles f_polygon_turns f_fewest f_polygon_xs f_handX f_polygon_ys f_handY f_takenLengths f_takenPulls) sz) post) 0 0 (va_A (cw_C_choose cI a_this a_polygon a_polygon_angles a_polygon_turns a_fewest a_polygon_xs a_handX a_polygon_ys a_handY a_takenLengths a_takenPulls a_firsts a_lengths a_pulls a_polygon_outlines a_polygon_costs a_polygon_rest a_polygon_restByTwo a_polygon_points n_polygon_angles n_polygon_turns n_fewest n_polygon_xs n_handX n_polygon_ys n_handY n_takenLengths n_takenPulls c_count c_polygon_count c_polygon_cost f_polygon_angles f_polygon_turns f_fewest f_polygon_xs f_handX f_polygon_ys f_handY f_takenLengths f_takenPulls) sz) := by
  refine Met.ofW (cc := b_C_choose) (maxL := 10) (ret := none) (by decide +kernel) rfl ?_
  intro p e s m args below meth c s₁ B hml hv
  obtain ⟨rfl, hsz, hP, hK, hD0⟩ := hv
  have hx := B.exec
  have hb := B.bytes
  have hr := B.returns
  have hts : ∀ w ∈ allW, w.before _ s = true := fun w hw => atoms_spec (ws := w_C_choose) B.pre w (List.mem_cons_of_mem _ hw)
  have hown : s.vm.findClass R_C = some m.cls := findClass_of_methodNamed B.named
  have hlocks := B.notSynchronized
  subst hsz
  have hD := hD0.self (sz := s.heap.size)
  generalize hAe : va_A (cw_C_choose cI a_this a_polygon a_polygon_angles a_polygon_turns a_fewest a_polygon_xs a_handX a_polygon_ys a_handY a_takenLengths a_takenPulls a_firsts a_lengths a_pulls a_polygon_outlines a_polygon_costs a_polygon_rest a_polygon_restByTwo a_polygon_points n_polygon_angles n_polygon_turns n_fewest n_polygon_xs n_handX n_polygon_ys n_handY n_takenLengths n_takenPulls c_count c_polygon_count c_polygon_cost f_polygon_angles f_polygon_turns f_fewest f_polygon_xs f_handX f_polygon_ys f_handY f_takenLengths f_takenPulls) s.heap.size = A at hD ⊢
  have hA : ∀ q : Nat, s.heap.size ≤ q → A q := fun q h => by rw [← hAe]; exact Or.inr h
  have hS : va_S A s.heap s.heap [] := va_S.rf
  clear hD0
  generalize hQf : MQ below (qq_C_choose dC dI cI cB cJ cZ a_this a_polygon a_polygon_angles a_polygon_turns a_fewest a_polygon_xs a_handX a_polygon_ys a_handY a_takenLengths a_takenPulls a_firsts a_lengths a_pulls a_polygon_outlines a_polygon_costs a_polygon_rest a_polygon_restByTwo a_polygon_points n_polygon_angles n_polygon_turns n_fewest n_polygon_xs n_handX n_polygon_ys n_handY n_takenLengths n_takenPulls c_count c_polygon_count c_polygon_cost f_polygon_angles f_polygon_turns f_polygon_xs f_polygon_ys A post) ([.ref a_this, .int x1, .int x2, .int x3, .int x4] : List Value).toArray s 0 0 A = Qf
  have hl := lv_entry ([.ref a_this, .int x1, .int x2, .int x3, .int x4]) (n := 10) (Nat.le_of_ble_eq_true rfl)
  rw [lg_entry_eq]
  generalize (lg_sl ([.ref a_this, .int x1, .int x2, .int x3, .int x4]) ++ List.replicate (10 - (lg_sl ([.ref a_this, .int x1, .int x2, .int x3, .int x4])).length) Slot.unset).toArray = ls at hl ⊢
  have hl : lv_has ls 10 [(0, .ref a_this), (1, .int x1), (2, .int x2), (3, .int x3), (4, .int x4)] := hl
  unfold wp_C_choose at h
  have J32 : ∀ (x1_j32 : Int32) (x2_j32 : Int32) (x3_j32 : Int32) (x4_j32 : Int32) (y0_j32 : Int32) (f_fewest_j32 : Nat → Int32) (f_handX_j32 : Nat → Int32) (f_handY_j32 : Nat → Int32) (f_takenLengths_j32 : Nat → Int32) (f_takenPulls_j32 : Nat → Int32) (H : Heap) (locs : List Loc) (ls : Array Slot), wp_C_choose_J32 n_polygon_angles n_polygon_turns n_fewest n_polygon_xs n_handX n_polygon_ys n_handY n_takenLengths n_takenPulls c_polygon_count f_polygon_angles f_polygon_turns f_polygon_xs f_polygon_ys f_fewest_j32 f_handX_j32 f_handY_j32 f_takenLengths_j32 f_takenPulls_j32 x1_j32 x2_j32 x3_j32 x4_j32 y0_j32 post → va_P (dC, dI) vwCl (cw_C_choose cI a_this a_polygon a_polygon_angles a_polygon_turns a_fewest a_polygon_xs a_handX a_polygon_ys a_handY a_takenLengths a_takenPulls a_firsts a_lengths a_pulls a_polygon_outlines a_polygon_costs a_polygon_rest a_polygon_restByTwo a_polygon_points n_polygon_angles n_polygon_turns n_fewest n_polygon_xs n_handX n_polygon_ys n_handY n_takenLengths n_takenPulls c_count c_polygon_count c_polygon_cost f_polygon_angles f_polygon_turns f_fewest_j32 f_polygon_xs f_handX_j32 f_polygon_ys f_handY_j32 f_takenLengths_j32 f_takenPulls_j32) H → va_D A (cw_C_choose cI a_this a_polygon a_polygon_angles a_polygon_turns a_fewest a_polygon_xs a_handX a_polygon_ys a_handY a_takenLengths a_takenPulls a_firsts a_lengths a_pulls a_polygon_outlines a_polygon_costs a_polygon_rest a_polygon_restByTwo a_polygon_points n_polygon_angles n_polygon_turns n_fewest n_polygon_xs n_handX n_polygon_ys n_handY n_takenLengths n_takenPulls c_count c_polygon_count c_polygon_cost f_polygon_angles f_polygon_turns f_fewest_j32 f_polygon_xs f_handX_j32 f_polygon_ys f_handY_j32 f_takenLengths_j32 f_takenPulls_j32) → va_S A s.heap H locs → lv_has ls 10 [(0, .ref a_this), (1, .int x1_j32), (2, .int x2_j32), (3, .int x3_j32), (4, .int x4_j32)] → W p l e (headSpec w_C_choose ({ frames := 5, cells := 0, slots := 0, locals := 122 })).room s m ([.ref a_this, .int x1, .int x2, .int x3, .int x4] : List Value).toArray below meth c H locs 0 0 Qf (F0 m 32 ls [.int y0_j32]) := by
    intro x1_j32 x2_j32 x3_j32 x4_j32 y0_j32 f_fewest_j32 f_handX_j32 f_handY_j32 f_takenLengths_j32 f_takenPulls_j32 H locs ls h hP hD hS hl
    unfold wp_C_choose_J32 at h
    refine lv_istore (lv' := [(5, .int y0_j32), (0, .ref a_this), (1, .int x1_j32), (2, .int x2_j32), (3, .int x3_j32), (4, .int x4_j32)]) hx hb d_C_choose_32 hl (by decide) rfl (fun ls hl => ?_)
    refine lv_ldc (v := 2147483647) hx hb hown (hts _ q_578) d_C_choose_34 ?_
    refine lv_istore (lv' := [(6, .int (2147483647 : Int32)), (5, .int y0_j32), (0, .ref a_this), (1, .int x1_j32), (2, .int x2_j32), (3, .int x3_j32), (4, .int x4_j32)]) hx hb d_C_choose_36 hl (by decide) rfl (fun ls hl => ?_)
    refine lv_aload_n hx hb d_C_choose_38 rfl (lv_at hl 2 rfl) ?_
    refine lv_iload_n hx hb d_C_choose_39 rfl (lv_at hl 3 rfl) ?_
    refine lv_iload_n hx hb d_C_choose_40 rfl (lv_at hl 4 rfl) ?_
    refine lv_iload_n hx hb d_C_choose_41 rfl (lv_at hl 5 rfl) ?_
    obtain ⟨Q42, hq42, h⟩ := h
    have hPc := hP.sub (ws' := (cw_C_joinable cI a_this a_polygon a_polygon_turns a_polygon_angles a_fewest a_takenLengths a_takenPulls a_firsts a_lengths a_pulls a_handX a_handY a_polygon_outlines a_polygon_costs a_polygon_rest a_polygon_restByTwo a_polygon_points a_polygon_xs a_polygon_ys n_polygon_turns n_polygon_angles c_count c_polygon_count c_polygon_cost f_polygon_turns f_polygon_angles)) [0, 1, 3, 2] rfl
    have hDc := hD.sub (ws' := (cw_C_joinable cI a_this a_polygon a_polygon_turns a_polygon_angles a_fewest a_takenLengths a_takenPulls a_firsts a_lengths a_pulls a_handX a_handY a_polygon_outlines a_polygon_costs a_polygon_rest a_polygon_restByTwo a_polygon_points a_polygon_xs a_polygon_ys n_polygon_turns n_polygon_angles c_count c_polygon_count c_polygon_cost f_polygon_turns f_polygon_angles)) [0, 1, 3, 2] (by decide) rfl
    have hFc := va_free (wc := (cw_C_joinable cI a_this a_polygon a_polygon_turns a_polygon_angles a_fewest a_takenLengths a_takenPulls a_firsts a_lengths a_pulls a_handX a_handY a_polygon_outlines a_polygon_costs a_polygon_rest a_polygon_restByTwo a_polygon_points a_polygon_xs a_polygon_ys n_polygon_turns n_polygon_angles c_count c_polygon_count c_polygon_cost f_polygon_turns f_polygon_angles)) hD hS hA [0, 1, 3, 2] rfl
    refine va_calli (va_runV (As := [.int x1_j32, .int x2_j32, .int x3_j32]) (rest := []) ⟨hx, hb, hml, hown, hts⟩ (c_C_joinable l dC dI cI cB cJ cZ a_this a_polygon a_polygon_turns a_polygon_angles a_fewest a_takenLengths a_takenPulls a_firsts a_lengths a_pulls a_handX a_handY a_polygon_outlines a_polygon_costs a_polygon_rest a_polygon_restByTwo a_polygon_points a_polygon_xs a_polygon_ys H.size n_polygon_turns n_polygon_angles c_count c_polygon_count c_polygon_cost f_polygon_turns f_polygon_angles x1_j32 x2_j32 x3_j32 Q42 hq42) (cwV 3 hts (goodV q_579 q_581 q_p23 q_6 q_582) rfl rfl rfl (by decide +kernel) ⟨Nat.le_of_ble_eq_true rfl, Nat.le_of_ble_eq_true rfl⟩) ⟨fun a U g mk q => by obtain ⟨q0, q1, qP, qK, qD⟩ := q; exact ⟨q0, q1, qP, va_K.moved (u := U) (U := U.calling g mk a) (Vm.Alike.refl U.vm) qK, qD⟩, va_recv hK hPc (ci := 4) (q0 := 0) rfl rfl, fun U hU hW => ⟨rfl, by rw [hU], by rw [hU]; exact hPc, va_K.moved hW.alike hK, hDc.weaken (fun _ _ _ _ => trivial)⟩⟩ rfl rfl hl.1 rfl (lv_room (Nat.le_of_ble_eq_true rfl)) d_C_choose_42 ⟨Nat.le_of_ble_eq_true rfl, Nat.le_of_ble_eq_true rfl⟩) hS (fun q _ h => hFc q h) hFc (fun r42 u42 t H1 locs ht hvm hw hB hz1 hk1 hS => ?_)
    cases u42
    obtain ⟨hP1, -, hD1⟩ := hB
    rw [ht] at hP1
    have h := h r42 hw
    obtain ⟨hP, hD⟩ := va_join (wr := [(a_fewest, .inl (cI, n_fewest, .inl f_fewest_j32)), (a_polygon_xs, .inl (cI, n_polygon_xs, .inl f_polygon_xs)), (a_handX, .inl (cI, n_handX, .inl f_handX_j32)), (a_polygon_ys, .inl (cI, n_polygon_ys, .inl f_polygon_ys)), (a_handY, .inl (cI, n_handY, .inl f_handY_j32)), (a_takenLengths, .inl (cI, n_takenLengths, .inl f_takenLengths_j32)), (a_takenPulls, .inl (cI, n_takenPulls, .inl f_takenPulls_j32))]) (w1 := (cw_C_joinable cI a_this a_polygon a_polygon_turns a_polygon_angles a_fewest a_takenLengths a_takenPulls a_firsts a_lengths a_pulls a_handX a_handY a_polygon_outlines a_polygon_costs a_polygon_rest a_polygon_restByTwo a_polygon_points a_polygon_xs a_polygon_ys n_polygon_turns n_polygon_angles c_count c_polygon_count c_polygon_cost f_polygon_turns f_polygon_angles)) hP hD [0, 1, 3, 2] [4, 5, 6, 7, 8, 9, 10] rfl rfl (by decide) (by decide) hk1 hFc hP1 hD1
    clear hP1 hD1 hk1 hPc hDc hFc
    generalize H1 = H at hP hS ⊢
    have hP : va_P (dC, dI) vwCl (cw_C_choose cI a_this a_polygon a_polygon_angles a_polygon_turns a_fewest a_polygon_xs a_handX a_polygon_ys a_handY a_takenLengths a_takenPulls a_firsts a_lengths a_pulls a_polygon_outlines a_polygon_costs a_polygon_rest a_polygon_restByTwo a_polygon_points n_polygon_angles n_polygon_turns n_fewest n_polygon_xs n_handX n_polygon_ys n_handY n_takenLengths n_takenPulls c_count c_polygon_count c_polygon_cost f_polygon_angles f_polygon_turns f_fewest_j32 f_polygon_xs f_handX_j32 f_polygon_ys f_handY_j32 f_takenLengths_j32 f_takenPulls_j32) H := hP.sub [7, 8, 10, 9, 0, 1, 2, 3, 4, 5, 6] rfl
    have hD : va_D A (cw_C_choose cI a_this a_polygon a_polygon_angles a_polygon_turns a_fewest a_polygon_xs a_handX a_polygon_ys a_handY a_takenLengths a_takenPulls a_firsts a_lengths a_pulls a_polygon_outlines a_polygon_costs a_polygon_rest a_polygon_restByTwo a_polygon_points n_polygon_angles n_polygon_turns n_fewest n_polygon_xs n_handX n_polygon_ys n_handY n_takenLengths n_takenPulls c_count c_polygon_count c_polygon_cost f_polygon_angles f_polygon_turns f_fewest_j32 f_polygon_xs f_handX_j32 f_polygon_ys f_handY_j32 f_takenLengths_j32 f_takenPulls_j32) := hD.sub [7, 8, 10, 9, 0, 1, 2, 3, 4, 5, 6] (by decide) rfl
    refine lv_istore (lv' := [(7, .int r42), (6, .int (2147483647 : Int32)), (5, .int y0_j32), (0, .ref a_this), (1, .int x1_j32), (2, .int x2_j32), (3, .int x3_j32), (4, .int x4_j32)]) hx hb d_C_choose_45 hl (by decide) rfl (fun ls hl => ?_)
    refine lpW_ind (Wp := fun z => ∀ (H : Heap) (locs : List Loc) (ls : Array Slot), va_P (dC, dI) vwCl (cw_C_choose cI a_this a_polygon a_polygon_angles a_polygon_turns a_fewest a_polygon_xs a_handX a_polygon_ys a_handY a_takenLengths a_takenPulls a_firsts a_lengths a_pulls a_polygon_outlines a_polygon_costs a_polygon_rest a_polygon_restByTwo a_polygon_points n_polygon_angles n_polygon_turns n_fewest n_polygon_xs n_handX n_polygon_ys n_handY n_takenLengths n_takenPulls c_count c_polygon_count c_polygon_cost f_polygon_angles f_polygon_turns f_fewest_j32 f_polygon_xs z.2.2.1 f_polygon_ys z.2.2.2.1 z.2.2.2.2.1 z.2.2.2.2.2) H → va_D A (cw_C_choose cI a_this a_polygon a_polygon_angles a_polygon_turns a_fewest a_polygon_xs a_handX a_polygon_ys a_handY a_takenLengths a_takenPulls a_firsts a_lengths a_pulls a_polygon_outlines a_polygon_costs a_polygon_rest a_polygon_restByTwo a_polygon_points n_polygon_angles n_polygon_turns n_fewest n_polygon_xs n_handX n_polygon_ys n_handY n_takenLengths n_takenPulls c_count c_polygon_count c_polygon_cost f_polygon_angles f_polygon_turns f_fewest_j32 f_polygon_xs z.2.2.1 f_polygon_ys z.2.2.2.1 z.2.2.2.2.1 z.2.2.2.2.2) → va_S A s.heap H locs → lv_has ls 10 [(0, .ref a_this), (1, .int x1_j32), (2, .int x2_j32), (4, .int x4_j32), (5, .int y0_j32), (6, .int z.1), (7, .int z.2.1)] → W p l e (headSpec w_C_choose ({ frames := 5, cells := 0, slots := 0, locals := 122 })).room s m ([.ref a_this, .int x1, .int x2, .int x3, .int x4] : List Value).toArray below meth c H locs 0 0 Qf (F0 m 47 ls [])) h ?_ _ _ _ hP hD hS (lv_sub hl [3, 4, 5, 7, 2, 1, 0] rfl)
    rintro ⟨x6_l47, x7_l47, f_handX_l47, f_handY_l47, f_takenLengths_l47, f_takenPulls_l47⟩ back47 h hb47 H locs ls hP hD hS hl
    have h : wp_C_choose_L47 n_polygon_angles n_polygon_turns n_fewest n_polygon_xs n_handX n_polygon_ys n_handY n_takenLengths n_takenPulls c_polygon_count f_polygon_angles f_polygon_turns f_polygon_xs f_polygon_ys f_fewest_j32 x1_j32 x2_j32 x4_j32 y0_j32 post back47 x6_l47 x7_l47 f_handX_l47 f_handY_l47 f_takenLengths_l47 f_takenPulls_l47 := h
    have hP : va_P (dC, dI) vwCl (cw_C_choose cI a_this a_polygon a_polygon_angles a_polygon_turns a_fewest a_polygon_xs a_handX a_polygon_ys a_handY a_takenLengths a_takenPulls a_firsts a_lengths a_pulls a_polygon_outlines a_polygon_costs a_polygon_rest a_polygon_restByTwo a_polygon_points n_polygon_angles n_polygon_turns n_fewest n_polygon_xs n_handX n_polygon_ys n_handY n_takenLengths n_takenPulls c_count c_polygon_count c_polygon_cost f_polygon_angles f_polygon_turns f_fewest_j32 f_polygon_xs f_handX_l47 f_polygon_ys f_handY_l47 f_takenLengths_l47 f_takenPulls_l47) H := hP
    have hD : va_D A (cw_C_choose cI a_this a_polygon a_polygon_angles a_polygon_turns a_fewest a_polygon_xs a_handX a_polygon_ys a_handY a_takenLengths a_takenPulls a_firsts a_lengths a_pulls a_polygon_outlines a_polygon_costs a_polygon_rest a_polygon_restByTwo a_polygon_points n_polygon_angles n_polygon_turns n_fewest n_polygon_xs n_handX n_polygon_ys n_handY n_takenLengths n_takenPulls c_count c_polygon_count c_polygon_cost f_polygon_angles f_polygon_turns f_fewest_j32 f_polygon_xs f_handX_l47 f_polygon_ys f_handY_l47 f_takenLengths_l47 f_takenPulls_l47) := hD
    have hl : lv_has ls 10 [(0, .ref a_this), (1, .int x1_j32), (2, .int x2_j32), (4, .int x4_j32), (5, .int y0_j32), (6, .int x6_l47), (7, .int x7_l47)] := hl
    unfold wp_C_choose_L47 at h
    have J125 : ∀ (x6_j125 : Int32) (x7_j125 : Int32) (f_handX_j125 : Nat → Int32) (f_handY_j125 : Nat → Int32) (f_takenLengths_j125 : Nat → Int32) (f_takenPulls_j125 : Nat → Int32) (H : Heap) (locs : List Loc) (ls : Array Slot), wp_C_choose_J125 n_polygon_angles n_polygon_turns n_fewest n_polygon_xs n_handX n_polygon_ys n_handY n_takenLengths n_takenPulls c_polygon_count f_polygon_angles f_polygon_turns f_polygon_xs f_polygon_ys f_fewest_j32 f_handX_j125 f_handY_j125 f_takenLengths_j125 f_takenPulls_j125 x1_j32 x2_j32 x4_j32 y0_j32 x6_j125 x7_j125 back47 post → va_P (dC, dI) vwCl (cw_C_choose cI a_this a_polygon a_polygon_angles a_polygon_turns a_fewest a_polygon_xs a_handX a_polygon_ys a_handY a_takenLengths a_takenPulls a_firsts a_lengths a_pulls a_polygon_outlines a_polygon_costs a_polygon_rest a_polygon_restByTwo a_polygon_points n_polygon_angles n_polygon_turns n_fewest n_polygon_xs n_handX n_polygon_ys n_handY n_takenLengths n_takenPulls c_count c_polygon_count c_polygon_cost f_polygon_angles f_polygon_turns f_fewest_j32 f_polygon_xs f_handX_j125 f_polygon_ys f_handY_j125 f_takenLengths_j125 f_takenPulls_j125) H → va_D A (cw_C_choose cI a_this a_polygon a_polygon_angles a_polygon_turns a_fewest a_polygon_xs a_handX a_polygon_ys a_handY a_takenLengths a_takenPulls a_firsts a_lengths a_pulls a_polygon_outlines a_polygon_costs a_polygon_rest a_polygon_restByTwo a_polygon_points n_polygon_angles n_polygon_turns n_fewest n_polygon_xs n_handX n_polygon_ys n_handY n_takenLengths n_takenPulls c_count c_polygon_count c_polygon_cost f_polygon_angles f_polygon_turns f_fewest_j32 f_polygon_xs f_handX_j125 f_polygon_ys f_handY_j125 f_takenLengths_j125 f_takenPulls_j125) → va_S A s.heap H locs → lv_has ls 10 [(0, .ref a_this), (1, .int x1_j32), (2, .int x2_j32), (4, .int x4_j32), (5, .int y0_j32), (6, .int x6_j125), (7, .int x7_j125)] → W p l e (headSpec w_C_choose ({ frames := 5, cells := 0, slots := 0, locals := 122 })).room s m ([.ref a_this, .int x1, .int x2, .int x3, .int x4] : List Value).toArray below meth c H locs 0 0 Qf (F0 m 125 ls []) := by
      intro x6_j125 x7_j125 f_handX_j125 f_handY_j125 f_takenLengths_j125 f_takenPulls_j125 H locs ls h hP hD hS hl
      unfold wp_C_choose_J125 at h
      obtain ⟨x7_125, e_x7_125⟩ : ∃ y : Int32, y = x7_j125 + (-1 : Int32) := ⟨_, rfl⟩
      have h := h x7_125 e_x7_125
      refine lv_iinc (v := x7_125) (lv' := [(7, .int x7_125), (0, .ref a_this), (1, .int x1_j32), (2, .int x2_j32), (4, .int x4_j32), (5, .int y0_j32), (6, .int x6_j125)]) hx hb d_C_choose_125 hl (k := 6) rfl (by rw [e_x7_125]; rfl) (by decide) rfl (fun ls hl => ?_)
      refine lv_goto (tgt := 47) hx hb d_C_choose_128 (by decide) ?_
      exact hb47 _ h _ _ _ hP hD hS (lv_sub hl [1, 2, 3, 4, 5, 6, 0] rfl)
    have J105 : ∀ (x7_j105 : Int32) (x8_j105 : Int32) (x9_j105 : Int32) (f_handX_j105 : Nat → Int32) (f_handY_j105 : Nat → Int32) (f_takenLengths_j105 : Nat → Int32) (f_takenPulls_j105 : Nat → Int32) (H : Heap) (locs : List Loc) (ls : Array Slot), wp_C_choose_J105 n_polygon_angles n_polygon_turns n_fewest n_polygon_xs n_handX n_polygon_ys n_handY n_takenLengths n_takenPulls c_polygon_count f_polygon_angles f_polygon_turns f_polygon_xs f_polygon_ys f_fewest_j32 f_handX_j105 f_handY_j105 f_takenLengths_j105 f_takenPulls_j105 x1_j32 x2_j32 x4_j32 y0_j32 x7_j105 x8_j105 x9_j105 back47 post → va_P (dC, dI) vwCl (cw_C_choose cI a_this a_polygon a_polygon_angles a_polygon_turns a_fewest a_polygon_xs a_handX a_polygon_ys a_handY a_takenLengths a_takenPulls a_firsts a_lengths a_pulls a_polygon_outlines a_polygon_costs a_polygon_rest a_polygon_restByTwo a_polygon_points n_polygon_angles n_polygon_turns n_fewest n_polygon_xs n_handX n_polygon_ys n_handY n_takenLengths n_takenPulls c_count c_polygon_count c_polygon_cost f_polygon_angles f_polygon_turns f_fewest_j32 f_polygon_xs f_handX_j105 f_polygon_ys f_handY_j105 f_takenLengths_j105 f_takenPulls_j105) H → va_D A (cw_C_choose cI a_this a_polygon a_polygon_angles a_polygon_turns a_fewest a_polygon_xs a_handX a_polygon_ys a_handY a_takenLengths a_takenPulls a_firsts a_lengths a_pulls a_polygon_outlines a_polygon_costs a_polygon_rest a_polygon_restByTwo a_polygon_points n_polygon_angles n_polygon_turns n_fewest n_polygon_xs n_handX n_polygon_ys n_handY n_takenLengths n_takenPulls c_count c_polygon_count c_polygon_cost f_polygon_angles f_polygon_turns f_fewest_j32 f_polygon_xs f_handX_j105 f_polygon_ys f_handY_j105 f_takenLengths_j105 f_takenPulls_j105) → va_S A s.heap H locs → lv_has ls 10 [(0, .ref a_this), (1, .int x1_j32), (2, .int x2_j32), (4, .int x4_j32), (5, .int y0_j32), (7, .int x7_j105), (8, .int x8_j105), (9, .int x9_j105)] → W p l e (headSpec w_C_choose ({ frames := 5, cells := 0, slots := 0, locals := 122 })).room s m ([.ref a_this, .int x1, .int x2, .int x3, .int x4] : List Value).toArray below meth c H locs 0 0 Qf (F0 m 105 ls []) := by
      intro x7_j105 x8_j105 x9_j105 f_handX_j105 f_handY_j105 f_takenLengths_j105 f_takenPulls_j105 H locs ls h hP hD hS hl
      unfold wp_C_choose_J105 at h
      refine lv_aload_n hx hb d_C_choose_105 rfl (lv_at hl 0 rfl) ?_
      refine va_get (D := (dC, dI)) (ci := 4) (v := .ref a_takenLengths) (C := R_C) (T := F_C) (N := 10) hx hb hts i_C_in hown hK hP 0 rfl rfl 2 (by decide) (hts _ q_161) (fun _ h9 => h9) rfl d_C_choose_106 ?_
      refine lv_iload_n hx hb d_C_choose_109 rfl (lv_at hl 1 rfl) ?_
      refine lv_iload hx hb d_C_choose_110 (lv_at hl 5 rfl) ?_
      obtain ⟨hin, h⟩ := h
      refine va_iast hx hb hK hP hD hS 9 0 rfl rfl hin d_C_choose_112 (fun H locs hP hD hS => ?_)
      obtain ⟨f112, e_f112⟩ : ∃ y : Nat → Int32, y = upd f_takenLengths_j105 x1_j32.toNatClampNeg x7_j105 := ⟨_, rfl⟩
      have h := h f112 e_f112
      have hP : va_P (dC, dI) vwCl (cw_C_choose cI a_this a_polygon a_polygon_angles a_polygon_turns a_fewest a_polygon_xs a_handX a_polygon_ys a_handY a_takenLengths a_takenPulls a_firsts a_lengths a_pulls a_polygon_outlines a_polygon_costs a_polygon_rest a_polygon_restByTwo a_polygon_points n_polygon_angles n_polygon_turns n_fewest n_polygon_xs n_handX n_polygon_ys n_handY n_takenLengths n_takenPulls c_count c_polygon_count c_polygon_cost f_polygon_angles f_polygon_turns f_fewest_j32 f_polygon_xs f_handX_j105 f_polygon_ys f_handY_j105 f112 f_takenPulls_j105) H := by rw [e_f112]; exact hP
      have hD : va_D A (cw_C_choose cI a_this a_polygon a_polygon_angles a_polygon_turns a_fewest a_polygon_xs a_handX a_polygon_ys a_handY a_takenLengths a_takenPulls a_firsts a_lengths a_pulls a_polygon_outlines a_polygon_costs a_polygon_rest a_polygon_restByTwo a_polygon_points n_polygon_angles n_polygon_turns n_fewest n_polygon_xs n_handX n_polygon_ys n_handY n_takenLengths n_takenPulls c_count c_polygon_count c_polygon_cost f_polygon_angles f_polygon_turns f_fewest_j32 f_polygon_xs f_handX_j105 f_polygon_ys f_handY_j105 f112 f_takenPulls_j105) := by rw [e_f112]; exact hD
      refine lv_aload_n hx hb d_C_choose_113 rfl (lv_at hl 0 rfl) ?_
      refine va_get (D := (dC, dI)) (ci := 4) (v := .ref a_takenPulls) (C := R_C) (T := F_C) (N := 10) hx hb hts i_C_in hown hK hP 0 rfl rfl 3 (by decide) (hts _ q_162) (fun _ h9 => h9) rfl d_C_choose_114 ?_
      refine lv_iload_n hx hb d_C_choose_117 rfl (lv_at hl 1 rfl) ?_
      refine lv_iload hx hb d_C_choose_118 (lv_at hl 7 rfl) ?_
      obtain ⟨hin, h⟩ := h
      refine va_iast hx hb hK hP hD hS 10 0 rfl rfl hin d_C_choose_120 (fun H locs hP hD hS => ?_)
      obtain ⟨f120, e_f120⟩ : ∃ y : Nat → Int32, y = upd f_takenPulls_j105 x1_j32.toNatClampNeg x9_j105 := ⟨_, rfl⟩
      have h := h f120 e_f120
      have hP : va_P (dC, dI) vwCl (cw_C_choose cI a_this a_polygon a_polygon_angles a_polygon_turns a_fewest a_polygon_xs a_handX a_polygon_ys a_handY a_takenLengths a_takenPulls a_firsts a_lengths a_pulls a_polygon_outlines a_polygon_costs a_polygon_rest a_polygon_restByTwo a_polygon_points n_polygon_angles n_polygon_turns n_fewest n_polygon_xs n_handX n_polygon_ys n_handY n_takenLengths n_takenPulls c_count c_polygon_count c_polygon_cost f_polygon_angles f_polygon_turns f_fewest_j32 f_polygon_xs f_handX_j105 f_polygon_ys f_handY_j105 f112 f120) H := by rw [e_f120]; exact hP
      have hD : va_D A (cw_C_choose cI a_this a_polygon a_polygon_angles a_polygon_turns a_fewest a_polygon_xs a_handX a_polygon_ys a_handY a_takenLengths a_takenPulls a_firsts a_lengths a_pulls a_polygon_outlines a_polygon_costs a_polygon_rest a_polygon_restByTwo a_polygon_points n_polygon_angles n_polygon_turns n_fewest n_polygon_xs n_handX n_polygon_ys n_handY n_takenLengths n_takenPulls c_count c_polygon_count c_polygon_cost f_polygon_angles f_polygon_turns f_fewest_j32 f_polygon_xs f_handX_j105 f_polygon_ys f_handY_j105 f112 f120) := by rw [e_f120]; exact hD
      refine lv_iload hx hb d_C_choose_121 (lv_at hl 6 rfl) ?_
      refine lv_istore (lv' := [(6, .int x8_j105), (0, .ref a_this), (1, .int x1_j32), (2, .int x2_j32), (4, .int x4_j32), (5, .int y0_j32), (7, .int x7_j105), (8, .int x8_j105), (9, .int x9_j105)]) hx hb d_C_choose_123 hl (by decide) rfl (fun ls hl => ?_)
      exact J125 x8_j105 x7_j105 f_handX_j105 f_handY_j105 f112 f120 _ _ _ h hP hD hS (lv_sub hl [1, 2, 3, 4, 5, 0, 6] rfl)
    have J92 : ∀ (x6_j92 : Int32) (x7_j92 : Int32) (x8_j92 : Int32) (y0_j92 : Int32) (f_handX_j92 : Nat → Int32) (f_handY_j92 : Nat → Int32) (f_takenLengths_j92 : Nat → Int32) (f_takenPulls_j92 : Nat → Int32) (H : Heap) (locs : List Loc) (ls : Array Slot), wp_C_choose_J92 n_polygon_angles n_polygon_turns n_fewest n_polygon_xs n_handX n_polygon_ys n_handY n_takenLengths n_takenPulls c_polygon_count f_polygon_angles f_polygon_turns f_polygon_xs f_polygon_ys f_fewest_j32 f_handX_j92 f_handY_j92 f_takenLengths_j92 f_takenPulls_j92 x1_j32 x2_j32 x4_j32 y0_j32 x6_j92 x7_j92 x8_j92 y0_j92 back47 post → va_P (dC, dI) vwCl (cw_C_choose cI a_this a_polygon a_polygon_angles a_polygon_turns a_fewest a_polygon_xs a_handX a_polygon_ys a_handY a_takenLengths a_takenPulls a_firsts a_lengths a_pulls a_polygon_outlines a_polygon_costs a_polygon_rest a_polygon_restByTwo a_polygon_points n_polygon_angles n_polygon_turns n_fewest n_polygon_xs n_handX n_polygon_ys n_handY n_takenLengths n_takenPulls c_count c_polygon_count c_polygon_cost f_polygon_angles f_polygon_turns f_fewest_j32 f_polygon_xs f_handX_j92 f_polygon_ys f_handY_j92 f_takenLengths_j92 f_takenPulls_j92) H → va_D A (cw_C_choose cI a_this a_polygon a_polygon_angles a_polygon_turns a_fewest a_polygon_xs a_handX a_polygon_ys a_handY a_takenLengths a_takenPulls a_firsts a_lengths a_pulls a_polygon_outlines a_polygon_costs a_polygon_rest a_polygon_restByTwo a_polygon_points n_polygon_angles n_polygon_turns n_fewest n_polygon_xs n_handX n_polygon_ys n_handY n_takenLengths n_takenPulls c_count c_polygon_count c_polygon_cost f_polygon_angles f_polygon_turns f_fewest_j32 f_polygon_xs f_handX_j92 f_polygon_ys f_handY_j92 f_takenLengths_j92 f_takenPulls_j92) → va_S A s.heap H locs → lv_has ls 10 [(0, .ref a_this), (1, .int x1_j32), (2, .int x2_j32), (4, .int x4_j32), (5, .int y0_j32), (6, .int x6_j92), (7, .int x7_j92), (8, .int x8_j92)] → W p l e (headSpec w_C_choose ({ frames := 5, cells := 0, slots := 0, locals := 122 })).room s m ([.ref a_this, .int x1, .int x2, .int x3, .int x4] : List Value).toArray below meth c H locs 0 0 Qf (F0 m 92 ls [.int y0_j92]) := by
      intro x6_j92 x7_j92 x8_j92 y0_j92 f_handX_j92 f_handY_j92 f_takenLengths_j92 f_takenPulls_j92 H locs ls h hP hD hS hl
      unfold wp_C_choose_J92 at h
      refine lv_istore (lv' := [(9, .int y0_j92), (0, .ref a_this), (1, .int x1_j32), (2, .int x2_j32), (4, .int x4_j32), (5, .int y0_j32), (6, .int x6_j92), (7, .int x7_j92), (8, .int x8_j92)]) hx hb d_C_choose_92 hl (by decide) rfl (fun ls hl => ?_)
      refine lv_iload hx hb d_C_choose_94 (lv_at hl 7 rfl) ?_
      refine lv_iconst (v := 1) hx hb d_C_choose_96 (by decide) ?_
      refine lv_icmp_eq (tgt := 105) hx hb d_C_choose_97 (by decide) (fun cc_ => ?_) (fun cc_ => ?_)
      · have h := h.1 cc_
        exact J105 x7_j92 x8_j92 y0_j92 f_handX_j92 f_handY_j92 f_takenLengths_j92 f_takenPulls_j92 _ _ _ h hP hD hS (lv_sub hl [1, 2, 3, 4, 5, 7, 8, 0] rfl)
      · have h := h.2 cc_
        refine lv_iload hx hb d_C_choose_100 (lv_at hl 0 rfl) ?_
        refine lv_if_le (tgt := 125) hx hb d_C_choose_102 (by decide) (fun cc_ => ?_) (fun cc_ => ?_)
        · have h := h.1 cc_
          exact J125 x6_j92 x7_j92 f_handX_j92 f_handY_j92 f_takenLengths_j92 f_takenPulls_j92 _ _ _ h hP hD hS (lv_sub hl [1, 2, 3, 4, 5, 6, 7] rfl)
        · have h := h.2 cc_
          exact J105 x7_j92 x8_j92 y0_j92 f_handX_j92 f_handY_j92 f_takenLengths_j92 f_takenPulls_j92 _ _ _ h hP hD hS (lv_sub hl [1, 2, 3, 4, 5, 7, 8, 0] rfl)
    refine lv_iload hx hb d_C_choose_47 (lv_at hl 6 rfl) ?_
    refine lv_if_le (tgt := 131) hx hb d_C_choose_49 (by decide) (fun cc_ => ?_) (fun cc_ => ?_)
    · have h := h.1 cc_
      refine lv_aload_n hx hb d_C_choose_131 rfl (lv_at hl 0 rfl) ?_
      refine va_get (D := (dC, dI)) (ci := 4) (v := .ref a_fewest) (C := R_C) (T := F_C) (N := 10) hx hb hts i_C_in hown hK hP 0 rfl rfl 1 (by decide) (hts _ q_160) (fun _ h9 => h9) rfl d_C_choose_132 ?_
      refine lv_iload_n hx hb d_C_choose_135 rfl (lv_at hl 1 rfl) ?_
      refine lv_iload hx hb d_C_choose_136 (lv_at hl 5 rfl) ?_
      obtain ⟨hin, h⟩ := h
      refine va_iast hx hb hK hP hD hS 4 0 rfl rfl hin d_C_choose_138 (fun H locs hP hD hS => ?_)
      obtain ⟨f138, e_f138⟩ : ∃ y : Nat → Int32, y = upd f_fewest_j32 x1_j32.toNatClampNeg x6_l47 := ⟨_, rfl⟩
      have h := h f138 e_f138
      have hP : va_P (dC, dI) vwCl (cw_C_choose cI a_this a_polygon a_polygon_angles a_polygon_turns a_fewest a_polygon_xs a_handX a_polygon_ys a_handY a_takenLengths a_takenPulls a_firsts a_lengths a_pulls a_polygon_outlines a_polygon_costs a_polygon_rest a_polygon_restByTwo a_polygon_points n_polygon_angles n_polygon_turns n_fewest n_polygon_xs n_handX n_polygon_ys n_handY n_takenLengths n_takenPulls c_count c_polygon_count c_polygon_cost f_polygon_angles f_polygon_turns f138 f_polygon_xs f_handX_l47 f_polygon_ys f_handY_l47 f_takenLengths_l47 f_takenPulls_l47) H := by rw [e_f138]; exact hP
      have hD : va_D A (cw_C_choose cI a_this a_polygon a_polygon_angles a_polygon_turns a_fewest a_polygon_xs a_handX a_polygon_ys a_handY a_takenLengths a_takenPulls a_firsts a_lengths a_pulls a_polygon_outlines a_polygon_costs a_polygon_rest a_polygon_restByTwo a_polygon_points n_polygon_angles n_polygon_turns n_fewest n_polygon_xs n_handX n_polygon_ys n_handY n_takenLengths n_takenPulls c_count c_polygon_count c_polygon_cost f_polygon_angles f_polygon_turns f138 f_polygon_xs f_handX_l47 f_polygon_ys f_handY_l47 f_takenLengths_l47 f_takenPulls_l47) := by rw [e_f138]; exact hD
      subst hQf
      exact W.vret hx hb hr (fun t ht hW => ⟨⟨(f138, f_handX_l47, f_handY_l47, f_takenLengths_l47, f_takenPulls_l47), rfl, h, by rw [ht]; exact hP, va_K.moved hW.alike hK, hD⟩, hS.F ht⟩) hS.2.2 d_C_choose_139
    · have h := h.2 cc_
      refine lv_iconst (v := 1) hx hb d_C_choose_52 (by decide) ?_
      refine lv_aload_n hx hb d_C_choose_53 rfl (lv_at hl 0 rfl) ?_
      refine va_get (D := (dC, dI)) (ci := 4) (v := .ref a_fewest) (C := R_C) (T := F_C) (N := 10) hx hb hts i_C_in hown hK hP 0 rfl rfl 1 (by decide) (hts _ q_160) (fun _ h9 => h9) rfl d_C_choose_54 ?_
      refine lv_iload_n hx hb d_C_choose_57 rfl (lv_at hl 1 rfl) ?_
      refine lv_iload hx hb d_C_choose_58 (lv_at hl 6 rfl) ?_
      refine lv_iadd hx hb d_C_choose_60 ?_
      obtain ⟨hin, h⟩ := h
      refine va_iald hx hb hK hP 4 0 rfl rfl hin d_C_choose_61 ?_
      refine lv_iadd hx hb d_C_choose_62 ?_
      refine lv_topi (fun x8_63 e_x8_63 => ?_)
      have h := h x8_63 e_x8_63
      refine lv_istore (lv' := [(8, .int x8_63), (0, .ref a_this), (1, .int x1_j32), (2, .int x2_j32), (4, .int x4_j32), (5, .int y0_j32), (6, .int x6_l47), (7, .int x7_l47)]) hx hb d_C_choose_63 hl (by decide) rfl (fun ls hl => ?_)
      refine lv_iload hx hb d_C_choose_65 (lv_at hl 0 rfl) ?_
      refine lv_iload hx hb d_C_choose_67 (lv_at hl 6 rfl) ?_
      refine lv_icmp_ge (tgt := 125) hx hb d_C_choose_69 (by decide) (fun cc_ => ?_) (fun cc_ => ?_)
      · have h := h.1 cc_
        exact J125 x6_l47 x7_l47 f_handX_l47 f_handY_l47 f_takenLengths_l47 f_takenPulls_l47 _ _ _ h hP hD hS (lv_sub hl [1, 2, 3, 4, 5, 6, 7] rfl)
      · have h := h.2 cc_
        refine lv_iload hx hb d_C_choose_72 (lv_at hl 7 rfl) ?_
        refine lv_iconst (v := 1) hx hb d_C_choose_74 (by decide) ?_
        refine lv_icmp_ne (tgt := 83) hx hb d_C_choose_75 (by decide) (fun cc_ => ?_) (fun cc_ => ?_)
        · have h := h.1 cc_
          refine lv_aload_n hx hb d_C_choose_83 rfl (lv_at hl 1 rfl) ?_
          refine lv_iload_n hx hb d_C_choose_84 rfl (lv_at hl 3 rfl) ?_
          refine lv_iload hx hb d_C_choose_85 (lv_at hl 7 rfl) ?_
          refine lv_iload hx hb d_C_choose_87 (lv_at hl 4 rfl) ?_
          obtain ⟨Q89, hq89, h⟩ := h
          have hPc := hP.sub (ws' := (cw_C_leastPull cI a_this a_polygon a_polygon_xs a_handX a_polygon_ys a_handY a_fewest a_takenLengths a_takenPulls a_firsts a_lengths a_pulls a_polygon_outlines a_polygon_costs a_polygon_rest a_polygon_restByTwo a_polygon_points a_polygon_angles a_polygon_turns n_polygon_xs n_handX n_polygon_ys n_handY c_count c_polygon_count c_polygon_cost f_polygon_xs f_handX_l47 f_polygon_ys f_handY_l47)) [0, 1, 5, 6, 7, 8] rfl
          have hDc := hD.sub (ws' := (cw_C_leastPull cI a_this a_polygon a_polygon_xs a_handX a_polygon_ys a_handY a_fewest a_takenLengths a_takenPulls a_firsts a_lengths a_pulls a_polygon_outlines a_polygon_costs a_polygon_rest a_polygon_restByTwo a_polygon_points a_polygon_angles a_polygon_turns n_polygon_xs n_handX n_polygon_ys n_handY c_count c_polygon_count c_polygon_cost f_polygon_xs f_handX_l47 f_polygon_ys f_handY_l47)) [0, 1, 5, 6, 7, 8] (by decide) rfl
          have hFc := va_free (wc := (cw_C_leastPull cI a_this a_polygon a_polygon_xs a_handX a_polygon_ys a_handY a_fewest a_takenLengths a_takenPulls a_firsts a_lengths a_pulls a_polygon_outlines a_polygon_costs a_polygon_rest a_polygon_restByTwo a_polygon_points a_polygon_angles a_polygon_turns n_polygon_xs n_handX n_polygon_ys n_handY c_count c_polygon_count c_polygon_cost f_polygon_xs f_handX_l47 f_polygon_ys f_handY_l47)) hD hS hA [0, 1, 5, 6, 7, 8] rfl
          refine va_calli (va_runV (As := [.int x2_j32, .int x7_l47, .int x4_j32]) (rest := []) ⟨hx, hb, hml, hown, hts⟩ (c_C_leastPull l dC dI cI cB cJ cZ a_this a_polygon a_polygon_xs a_handX a_polygon_ys a_handY a_fewest a_takenLengths a_takenPulls a_firsts a_lengths a_pulls a_polygon_outlines a_polygon_costs a_polygon_rest a_polygon_restByTwo a_polygon_points a_polygon_angles a_polygon_turns H.size n_polygon_xs n_handX n_polygon_ys n_handY c_count c_polygon_count c_polygon_cost f_polygon_xs f_handX_l47 f_polygon_ys f_handY_l47 x2_j32 x7_l47 x4_j32 Q89 hq89) (cwV 3 hts (goodV q_584 q_586 q_p24 q_6 q_587) rfl rfl rfl (by decide +kernel) ⟨Nat.le_of_ble_eq_true rfl, Nat.le_of_ble_eq_true rfl⟩) ⟨fun a U g mk q => by obtain ⟨q0, q1, qP, qK, qD⟩ := q; exact ⟨q0, q1, qP, va_K.moved (u := U) (U := U.calling g mk a) (Vm.Alike.refl U.vm) qK, qD⟩, va_recv hK hPc (ci := 4) (q0 := 0) rfl rfl, fun U hU hW => ⟨rfl, by rw [hU], by rw [hU]; exact hPc, va_K.moved hW.alike hK, hDc.weaken (fun _ _ _ _ => trivial)⟩⟩ rfl rfl hl.1 rfl (lv_room (Nat.le_of_ble_eq_true rfl)) d_C_choose_89 ⟨Nat.le_of_ble_eq_true rfl, Nat.le_of_ble_eq_true rfl⟩) hS (fun q _ h => hFc q h) hFc (fun r89 u89 t H1 locs ht hvm hw hB hz1 hk1 hS => ?_)
          obtain ⟨u89_0, u89_1⟩ := u89
          obtain ⟨hP1, -, hD1⟩ := hB
          rw [ht] at hP1
          have h := h r89 u89_0 u89_1 hw
          obtain ⟨hP, hD⟩ := va_join (wr := [(a_polygon_angles, .inl (cI, n_polygon_angles, .inl f_polygon_angles)), (a_polygon_turns, .inl (cI, n_polygon_turns, .inl f_polygon_turns)), (a_fewest, .inl (cI, n_fewest, .inl f_fewest_j32)), (a_takenLengths, .inl (cI, n_takenLengths, .inl f_takenLengths_l47)), (a_takenPulls, .inl (cI, n_takenPulls, .inl f_takenPulls_l47))]) (w1 := (cw_C_leastPull cI a_this a_polygon a_polygon_xs a_handX a_polygon_ys a_handY a_fewest a_takenLengths a_takenPulls a_firsts a_lengths a_pulls a_polygon_outlines a_polygon_costs a_polygon_rest a_polygon_restByTwo a_polygon_points a_polygon_angles a_polygon_turns n_polygon_xs n_handX n_polygon_ys n_handY c_count c_polygon_count c_polygon_cost f_polygon_xs u89_0 f_polygon_ys u89_1)) hP hD [0, 1, 5, 6, 7, 8] [2, 3, 4, 9, 10] rfl rfl (by decide) (by decide) hk1 hFc hP1 hD1
          clear hP1 hD1 hk1 hPc hDc hFc
          generalize H1 = H at hP hS ⊢
          have hP : va_P (dC, dI) vwCl (cw_C_choose cI a_this a_polygon a_polygon_angles a_polygon_turns a_fewest a_polygon_xs a_handX a_polygon_ys a_handY a_takenLengths a_takenPulls a_firsts a_lengths a_pulls a_polygon_outlines a_polygon_costs a_polygon_rest a_polygon_restByTwo a_polygon_points n_polygon_angles n_polygon_turns n_fewest n_polygon_xs n_handX n_polygon_ys n_handY n_takenLengths n_takenPulls c_count c_polygon_count c_polygon_cost f_polygon_angles f_polygon_turns f_fewest_j32 f_polygon_xs u89_0 f_polygon_ys u89_1 f_takenLengths_l47 f_takenPulls_l47) H := hP.sub [5, 6, 0, 1, 2, 7, 8, 9, 10, 3, 4] rfl
          have hD : va_D A (cw_C_choose cI a_this a_polygon a_polygon_angles a_polygon_turns a_fewest a_polygon_xs a_handX a_polygon_ys a_handY a_takenLengths a_takenPulls a_firsts a_lengths a_pulls a_polygon_outlines a_polygon_costs a_polygon_rest a_polygon_restByTwo a_polygon_points n_polygon_angles n_polygon_turns n_fewest n_polygon_xs n_handX n_polygon_ys n_handY n_takenLengths n_takenPulls c_count c_polygon_count c_polygon_cost f_polygon_angles f_polygon_turns f_fewest_j32 f_polygon_xs u89_0 f_polygon_ys u89_1 f_takenLengths_l47 f_takenPulls_l47) := hD.sub [5, 6, 0, 1, 2, 7, 8, 9, 10, 3, 4] (by decide) rfl
          exact J92 x6_l47 x7_l47 x8_63 r89 u89_0 u89_1 f_takenLengths_l47 f_takenPulls_l47 _ _ _ h hP hD hS (lv_sub hl [1, 2, 3, 4, 5, 6, 7, 0] rfl)
        · have h := h.2 cc_
          refine lv_iload hx hb d_C_choose_78 (lv_at hl 5 rfl) ?_
          refine lv_goto (tgt := 92) hx hb d_C_choose_80 (by decide) ?_
          exact J92 x6_l47 x7_l47 x8_63 y0_j32 f_handX_l47 f_handY_l47 f_takenLengths_l47 f_takenPulls_l47 _ _ _ h hP hD hS (lv_sub hl [1, 2, 3, 4, 5, 6, 7, 0] rfl)
  refine lv_aload_n hx hb d_C_choose_0 rfl (lv_at hl 0 rfl) ?_
  refine va_get (D := (dC, dI)) (ci := 4) (v := .ref a_polygon) (C := R_C) (T := F_C) (N := 10) hx hb hts i_C_in hown hK hP 0 rfl rfl 0 (by decide) (hts _ q_159) (fun _ h9 => h9) rfl d_C_choose_1 ?_
  refine va_get (D := (dC, dI)) (ci := 3) (v := .ref a_polygon_angles) (C := R_G) (T := F_G) (N := 11) hx hb hts i_G_in hown hK hP 1 rfl rfl 7 (by decide) (hts _ q_120) (fun _ h9 => h9) rfl d_C_choose_4 ?_
  refine lv_iload_n hx hb d_C_choose_7 rfl (lv_at hl 2 rfl) ?_
  obtain ⟨hin, h⟩ := h
  refine va_iald hx hb hK hP 2 0 rfl rfl hin d_C_choose_8 ?_
  refine lv_iload_n hx hb d_C_choose_9 rfl (lv_at hl 3 rfl) ?_
  refine lv_icmp_lt (tgt := 17) hx hb d_C_choose_10 (by decide) (fun cc_ => ?_) (fun cc_ => ?_)
  · have h := h.1 cc_
    refine lv_bipush (v := 8) hx hb d_C_choose_17 (by decide) ?_
    refine lv_aload_n hx hb d_C_choose_19 rfl (lv_at hl 0 rfl) ?_
    refine va_get (D := (dC, dI)) (ci := 4) (v := .ref a_polygon) (C := R_C) (T := F_C) (N := 10) hx hb hts i_C_in hown hK hP 0 rfl rfl 0 (by decide) (hts _ q_159) (fun _ h9 => h9) rfl d_C_choose_20 ?_
    refine va_get (D := (dC, dI)) (ci := 3) (v := .ref a_polygon_angles) (C := R_G) (T := F_G) (N := 11) hx hb hts i_G_in hown hK hP 1 rfl rfl 7 (by decide) (hts _ q_120) (fun _ h9 => h9) rfl d_C_choose_23 ?_
    refine lv_iload_n hx hb d_C_choose_26 rfl (lv_at hl 2 rfl) ?_
    obtain ⟨hin, h⟩ := h
    refine va_iald hx hb hK hP 2 0 rfl rfl hin d_C_choose_27 ?_
    refine lv_bipush (v := 8) hx hb d_C_choose_28 (by decide) ?_
    refine lv_idiv hx hb d_C_choose_30 (by decide) ?_
    refine lv_iadd hx hb d_C_choose_31 ?_
    exact J32 x1 x2 x3 x4 ((8 : Int32) + ((f_polygon_angles x2.toNatClampNeg) / (8 : Int32))) f_fewest f_handX f_handY f_takenLengths f_takenPulls _ _ _ h hP hD hS (lv_sub hl [0, 1, 2, 3, 4] rfl)
  · have h := h.2 cc_
    refine lv_iconst (v := 0) hx hb d_C_choose_13 (by decide) ?_
    refine lv_goto (tgt := 32) hx hb d_C_choose_14 (by decide) ?_
    exact J32 x1 x2 x3 x4 (0 : Int32) f_fewest f_handX f_handY f_takenLengths f_takenPulls _ _ _ h hP hD hS (lv_sub hl [0, 1, 2, 3, 4] rfl)
def wp_C_make_L67 (n_polygon_angles n_fewest n_firsts n_takenLengths n_lengths n_takenPulls n_pulls n_polygon_turns n_polygon_xs n_handX n_polygon_ys n_handY : Nat) (c_polygon_count : Int32) (f_polygon_angles : Nat → Int32) (f_polygon_turns : Nat → Int32) (f_polygon_xs : Nat → Int32) (f_polygon_ys : Nat → Int32) (f_fewest : Nat → Int32) (f_takenLengths : Nat → Int32) (f_takenPulls : Nat → Int32) (f_handX : Nat → Int32) (f_handY : Nat → Int32) (x3 : Int32) (post : Int32 → (Int32 × (Nat → Int32) × (Nat → Int32) × (Nat → Int32) × (Nat → Int32) × (Nat → Int32) × (Nat → Int32) × (Nat → Int32) × (Nat → Int32)) → Prop) (back67 : (Int32 × Int32 × (Nat → Int32) × (Nat → Int32) × (Nat → Int32)) → Prop) (x4 : Int32) (c_count : Int32) (f_firsts : Nat → Int32) (f_lengths : Nat → Int32) (f_pulls : Nat → Int32) : Prop :=
  (c_polygon_count ≤ x4 → post c_count (c_count, f_fewest, f_firsts, f_takenLengths, f_lengths, f_takenPulls, f_pulls, f_handX, f_handY)) ∧ (¬ c_polygon_count ≤ x4 → ∃ Q94 : Int32 → Unit → Prop, wp_G_cornerBeside c_polygon_count x3 x4 Q94 ∧ ∀ (r94 : Int32), Q94 r94 () → vp_in c_count n_firsts ∧ ∀ f97 : Nat → Int32, f97 = upd f_firsts c_count.toNatClampNeg r94 → vp_in x4 n_takenLengths ∧ vp_in c_count n_lengths ∧ ∀ f113 : Nat → Int32, f113 = upd f_lengths c_count.toNatClampNeg (f_takenLengths x4.toNatClampNeg) → vp_in x4 n_takenPulls ∧ vp_in c_count n_pulls ∧ ∀ f129 : Nat → Int32, f129 = upd f_pulls c_count.toNatClampNeg (f_takenPulls x4.toNatClampNeg) → ∀ v137 : Int32, v137 = (c_count + (1 : Int32)) → vp_in x4 n_takenLengths ∧ ∀ x4_154 : Int32, x4_154 = (x4 + (jmax (1 : Int32) (f_takenLengths x4.toNatClampNeg))) → back67 (x4_154, v137, f97, f113, f129))
def wp_C_make_L30 (n_polygon_angles n_fewest n_firsts n_takenLengths n_lengths n_takenPulls n_pulls n_polygon_turns n_polygon_xs n_handX n_polygon_ys n_handY : Nat) (c_polygon_count : Int32) (f_polygon_angles : Nat → Int32) (f_polygon_turns : Nat → Int32) (f_polygon_xs : Nat → Int32) (f_polygon_ys : Nat → Int32) (c_count : Int32) (f_firsts : Nat → Int32) (f_lengths : Nat → Int32) (f_pulls : Nat → Int32) (x1 : Int32) (x2 : Int32) (x3 : Int32) (post : Int32 → (Int32 × (Nat → Int32) × (Nat → Int32) × (Nat → Int32) × (Nat → Int32) × (Nat → Int32) × (Nat → Int32) × (Nat → Int32) × (Nat → Int32)) → Prop) (back30 : (Int32 × (Nat → Int32) × (Nat → Int32) × (Nat → Int32) × (Nat → Int32) × (Nat → Int32)) → Prop) (x4 : Int32) (f_fewest : Nat → Int32) (f_takenLengths : Nat → Int32) (f_takenPulls : Nat → Int32) (f_handX : Nat → Int32) (f_handY : Nat → Int32) : Prop :=
  (x4 < 0 → lpW (fun b z => wp_C_make_L67 n_polygon_angles n_fewest n_firsts n_takenLengths n_lengths n_takenPulls n_pulls n_polygon_turns n_polygon_xs n_handX n_polygon_ys n_handY c_polygon_count f_polygon_angles f_polygon_turns f_polygon_xs f_polygon_ys f_fewest f_takenLengths f_takenPulls f_handX f_handY x3 post b z.1 z.2.1 z.2.2.1 z.2.2.2.1 z.2.2.2.2) ((0 : Int32), (0 : Int32), f_firsts, f_lengths, f_pulls)) ∧ (¬ x4 < 0 → ∃ Q45 : Int32 → Unit → Prop, wp_G_cornerBeside c_polygon_count x3 x4 Q45 ∧ ∀ (r45 : Int32), Q45 r45 () → ∃ Q50 : ((Nat → Int32) × (Nat → Int32) × (Nat → Int32) × (Nat → Int32) × (Nat → Int32)) → Prop, wp_C_choose n_polygon_angles n_polygon_turns n_fewest n_polygon_xs n_handX n_polygon_ys n_handY n_takenLengths n_takenPulls c_polygon_count f_polygon_angles f_polygon_turns f_fewest f_polygon_xs f_handX f_polygon_ys f_handY f_takenLengths f_takenPulls x4 r45 x1 x2 Q50 ∧ ∀ (u50_0 : Nat → Int32) (u50_1 : Nat → Int32) (u50_2 : Nat → Int32) (u50_3 : Nat → Int32) (u50_4 : Nat → Int32), Q50 (u50_0, u50_1, u50_2, u50_3, u50_4) → ∀ x4_53 : Int32, x4_53 = x4 + (-1 : Int32) → back30 (x4_53, u50_0, u50_3, u50_4, u50_1, u50_2))
def wp_C_make (n_polygon_angles n_fewest n_firsts n_takenLengths n_lengths n_takenPulls n_pulls n_polygon_turns n_polygon_xs n_handX n_polygon_ys n_handY : Nat) (c_count : Int32) (c_polygon_count : Int32) (f_polygon_angles : Nat → Int32) (f_fewest : Nat → Int32) (f_firsts : Nat → Int32) (f_takenLengths : Nat → Int32) (f_lengths : Nat → Int32) (f_takenPulls : Nat → Int32) (f_pulls : Nat → Int32) (f_polygon_turns : Nat → Int32) (f_polygon_xs : Nat → Int32) (f_handX : Nat → Int32) (f_polygon_ys : Nat → Int32) (f_handY : Nat → Int32) (x1 : Int32) (x2 : Int32) (post : Int32 → (Int32 × (Nat → Int32) × (Nat → Int32) × (Nat → Int32) × (Nat → Int32) × (Nat → Int32) × (Nat → Int32) × (Nat → Int32) × (Nat → Int32)) → Prop) : Prop :=
  ∃ Q2 : Int32 → Unit → Prop, wp_C_firstSharp n_polygon_angles c_polygon_count f_polygon_angles x1 Q2 ∧ ∀ (r2 : Int32), Q2 r2 () → vp_in c_polygon_count n_fewest ∧ ∀ f18 : Nat → Int32, f18 = upd f_fewest c_polygon_count.toNatClampNeg (0 : Int32) → ∀ x4_28 : Int32, x4_28 = (c_polygon_count - (1 : Int32)) → lpW (fun b z => wp_C_make_L30 n_polygon_angles n_fewest n_firsts n_takenLengths n_lengths n_takenPulls n_pulls n_polygon_turns n_polygon_xs n_handX n_polygon_ys n_handY c_polygon_count f_polygon_angles f_polygon_turns f_polygon_xs f_polygon_ys c_count f_firsts f_lengths f_pulls x1 x2 r2 post b z.1 z.2.1 z.2.2.1 z.2.2.2.1 z.2.2.2.2.1 z.2.2.2.2.2) (x4_28, f18, f_takenLengths, f_takenPulls, f_handX, f_handY)
abbrev cw_C_make (cI : ClassId) (a_this a_polygon a_polygon_angles a_fewest a_firsts a_takenLengths a_lengths a_takenPulls a_pulls a_polygon_turns a_polygon_xs a_handX a_polygon_ys a_handY a_polygon_outlines a_polygon_costs a_polygon_rest a_polygon_restByTwo a_polygon_points : Nat) (n_polygon_angles n_fewest n_firsts n_takenLengths n_lengths n_takenPulls n_pulls n_polygon_turns n_polygon_xs n_handX n_polygon_ys n_handY : Nat) (c_count : Int32) (c_polygon_count : Int32) (c_polygon_cost : Int32) (f_polygon_angles : Nat → Int32) (f_fewest : Nat → Int32) (f_firsts : Nat → Int32) (f_takenLengths : Nat → Int32) (f_lengths : Nat → Int32) (f_takenPulls : Nat → Int32) (f_pulls : Nat → Int32) (f_polygon_turns : Nat → Int32) (f_polygon_xs : Nat → Int32) (f_handX : Nat → Int32) (f_polygon_ys : Nat → Int32) (f_handY : Nat → Int32) : va_W := [(a_this, .inr (4, [.ref a_polygon, .ref a_fewest, .ref a_takenLengths, .ref a_takenPulls, .ref a_firsts, .ref a_lengths, .ref a_pulls, .ref a_handX, .ref a_handY, .int c_count])), (a_polygon, .inr (3, [.ref a_polygon_outlines, .ref a_polygon_costs, .ref a_polygon_rest, .ref a_polygon_restByTwo, .ref a_polygon_points, .ref a_polygon_xs, .ref a_polygon_ys, .ref a_polygon_angles, .ref a_polygon_turns, .int c_polygon_count, .int c_polygon_cost])), (a_polygon_angles, .inl (cI, n_polygon_angles, .inl f_polygon_angles)), (a_fewest, .inl (cI, n_fewest, .inl f_fewest)), (a_firsts, .inl (cI, n_firsts, .inl f_firsts)), (a_takenLengths, .inl (cI, n_takenLengths, .inl f_takenLengths)), (a_lengths, .inl (cI, n_lengths, .inl f_lengths)), (a_takenPulls, .inl (cI, n_takenPulls, .inl f_takenPulls)), (a_pulls, .inl (cI, n_pulls, .inl f_pulls)), (a_polygon_turns, .inl (cI, n_polygon_turns, .inl f_polygon_turns)), (a_polygon_xs, .inl (cI, n_polygon_xs, .inl f_polygon_xs)), (a_handX, .inl (cI, n_handX, .inl f_handX)), (a_polygon_ys, .inl (cI, n_polygon_ys, .inl f_polygon_ys)), (a_handY, .inl (cI, n_handY, .inl f_handY))]
abbrev qq_C_make (dC : Nat → ClassId) (dI : Nat → Nat → Nat) (cI cB cJ cZ : ClassId) (a_this a_polygon a_polygon_angles a_fewest a_firsts a_takenLengths a_lengths a_takenPulls a_pulls a_polygon_turns a_polygon_xs a_handX a_polygon_ys a_handY a_polygon_outlines a_polygon_costs a_polygon_rest a_polygon_restByTwo a_polygon_points : Nat) (n_polygon_angles n_fewest n_firsts n_takenLengths n_lengths n_takenPulls n_pulls n_polygon_turns n_polygon_xs n_handX n_polygon_ys n_handY : Nat) (c_polygon_count : Int32) (c_polygon_cost : Int32) (f_polygon_angles : Nat → Int32) (f_polygon_turns : Nat → Int32) (f_polygon_xs : Nat → Int32) (f_polygon_ys : Nat → Int32) (A : Nat → Prop) (post : Int32 → (Int32 × (Nat → Int32) × (Nat → Int32) × (Nat → Int32) × (Nat → Int32) × (Nat → Int32) × (Nat → Int32) × (Nat → Int32) × (Nat → Int32)) → Prop) : Array Value → State → Outcome → State → Prop := va_Qi post (fun u t => va_P (dC, dI) vwCl (cw_C_make cI a_this a_polygon a_polygon_angles a_fewest a_firsts a_takenLengths a_lengths a_takenPulls a_pulls a_polygon_turns a_polygon_xs a_handX a_polygon_ys a_handY a_polygon_outlines a_polygon_costs a_polygon_rest a_polygon_restByTwo a_polygon_points n_polygon_angles n_fewest n_firsts n_takenLengths n_lengths n_takenPulls n_pulls n_polygon_turns n_polygon_xs n_handX n_polygon_ys n_handY u.1 c_polygon_count c_polygon_cost f_polygon_angles u.2.1 u.2.2.1 u.2.2.2.1 u.2.2.2.2.1 u.2.2.2.2.2.1 u.2.2.2.2.2.2.1 f_polygon_turns f_polygon_xs u.2.2.2.2.2.2.2.1 f_polygon_ys u.2.2.2.2.2.2.2.2) t.heap ∧ va_K (dC, dI) vwCl [(cI, .int), (cB, .byte), (cJ, .long), (cZ, .boolean)] t ∧ va_D A (cw_C_make cI a_this a_polygon a_polygon_angles a_fewest a_firsts a_takenLengths a_lengths a_takenPulls a_pulls a_polygon_turns a_polygon_xs a_handX a_polygon_ys a_handY a_polygon_outlines a_polygon_costs a_polygon_rest a_polygon_restByTwo a_polygon_points n_polygon_angles n_fewest n_firsts n_takenLengths n_lengths n_takenPulls n_pulls n_polygon_turns n_polygon_xs n_handX n_polygon_ys n_handY u.1 c_polygon_count c_polygon_cost f_polygon_angles u.2.1 u.2.2.1 u.2.2.2.1 u.2.2.2.2.1 u.2.2.2.2.2.1 u.2.2.2.2.2.2.1 f_polygon_turns f_polygon_xs u.2.2.2.2.2.2.2.1 f_polygon_ys u.2.2.2.2.2.2.2.2)) A
set_option maxHeartbeats 4000000 in
set_option maxRecDepth 100000 in
theorem c_C_make (l : Launch) (dC : Nat → ClassId) (dI : Nat → Nat → Nat) (cI cB cJ cZ : ClassId) (a_this a_polygon a_polygon_angles a_fewest a_firsts a_takenLengths a_lengths a_takenPulls a_pulls a_polygon_turns a_polygon_xs a_handX a_polygon_ys a_handY a_polygon_outlines a_polygon_costs a_polygon_rest a_polygon_restByTwo a_polygon_points : Nat) (sz : Nat) (n_polygon_angles n_fewest n_firsts n_takenLengths n_lengths n_takenPulls n_pulls n_polygon_turns n_polygon_xs n_handX n_polygon_ys n_handY : Nat) (c_count : Int32) (c_polygon_count : Int32) (c_polygon_cost : Int32) (f_polygon_angles : Nat → Int32) (f_fewest : Nat → Int32) (f_firsts : Nat → Int32) (f_takenLengths : Nat → Int32) (f_lengths : Nat → Int32) (f_takenPulls : Nat → Int32) (f_pulls : Nat → Int32) (f_polygon_turns : Nat → Int32) (f_polygon_xs : Nat → Int32) (f_handX : Nat → Int32) (f_polygon_ys : Nat → Int32) (f_handY : Nat → Int32) (x1 : Int32) (x2 : Int32) (post : Int32 → (Int32 × (Nat → Int32) × (Nat → Int32) × (Nat → Int32) × (Nat → Int32) × (Nat → Int32) × (Nat → Int32) × (Nat → Int32) × (Nat → Int32)) → Prop) (h : wp_C_make n_polygon_angles n_fewest n_firsts n_takenLengths n_lengths n_takenPulls n_pulls n_polygon_turns n_polygon_xs n_handX n_polygon_ys n_handY c_count c_polygon_count f_polygon_angles f_fewest f_firsts f_takenLengths f_lengths f_takenPulls f_pulls f_polygon_turns f_polygon_xs f_handX f_polygon_ys f_handY x1 x2 post) : Met l y_C_make w_C_make ({ frames := 6, cells := 0, slots := 0, locals := 151 }) (va_Pc [.ref a_this, .int x1, .int x2] (fun U => U.heap.size = sz ∧ va_P (dC, dI) vwCl (cw_C_make cI a_this a_polygon a_polygon_angles a_fewest a_firsts a_takenLengths a_lengths a_takenPulls a_pulls a_polygon_turns a_polygon_xs a_handX a_polygon_ys a_handY a_polygon_outlines a_polygon_costs a_polygon_rest a_polygon_restByTwo a_polygon_points n_polygon_angles n_fewest n_firsts n_takenLengths n_lengths n_takenPulls n_pulls n_polygon_turns n_polygon_xs n_handX n_polygon_ys n_handY c_count c_polygon_count c_polygon_cost f_polygon_angles f_fewest f_firsts f_takenLengths f_lengths f_takenPulls f_pulls f_polygon_turns f_polygon_xs f_handX f_polygon_ys f_handY) U.heap ∧ va_K (dC, dI) vwCl [(cI, .int), (cB, .byte), (cJ, .long), (cZ, .boolean)] U ∧ va_D (fun _ => True) (cw_C_make cI a_this a_polygon a_polygon_angles a_fewest a_firsts a_takenLengths a_lengths a_takenPulls a_pulls a_polygon_turns a_polygon_xs a_handX a_polygon_ys a_handY a_polygon_outlines a_polygon_costs a_polygon_rest a_polygon_restByTwo a_polygon_points n_polygon_angles n_fewest n_firsts n_takenLengths n_lengths n_takenPulls n_pulls n_polygon_turns n_polygon_xs n_handX n_polygon_ys n_handY c_count c_polygon_count c_polygon_cost f_polygon_angles f_fewest f_firsts f_takenLengths f_lengths f_takenPulls f_pulls f_polygon_turns f_polygon_xs f_handX f_polygon_ys f_handY))) (qq_C_make dC dI cI cB cJ cZ a_this a_polygon a_polygon_angles a_fewest a_firsts a_takenLengths a_lengths a_takenPulls a_pulls a_polygon_turns a_polygon_xs a_handX a_polygon_ys a_handY a_polygon_outlines a_polygon_costs a_polygon_rest a_polygon_restByTwo a_polygon_points n_polygon_angles n_fewest n_firsts n_takenLengths n_lengths n_takenPulls n_pulls n_polygon_turns n_polygon_xs n_handX n_polygon_ys n_handY c_polygon_count c_polygon_cost f_polygon_angles f_polygon_turns f_polygon_xs f_polygon_ys (va_A (cw_C_make cI a_this a_polygon a_polygon_angles a_fewest a_firsts a_takenLengths a_lengths a_takenPulls a_pulls a_polygon_turns a_polygon_xs a_handX a_polygon_ys a_handY a_polygon_outlines a_polygon_costs a_polygon_rest a_polygon_restByTwo a_polygon_points n_polygon_angles n_fewest n_firsts n_takenLengths n_lengths n_takenPulls n_pulls n_polygon_turns n_polygon_xs n_handX n_polygon_ys n_handY c_count c_polygon_count c_polygon_cost f_polygon_angles f_fewest f_firsts f_takenLengths f_lengths f_takenPulls f_pulls f_polygon_turns f_polygon_xs f_handX f_polygon_ys f_handY) sz) post) 0 0 (va_A (cw_C_make cI a_this a_polygon a_polygon_angles a_fewest a_firsts a_takenLengths a_lengths a_takenPulls a_pulls a_polygon_turns a_polygon_xs a_handX a_polygon_ys a_handY a_polygon_outlines a_polygon_costs a_polygon_rest a_polygon_restByTwo a_polygon_points n_polygon_angles n_fewest n_firsts n_takenLengths n_lengths n_takenPulls n_pulls n_polygon_turns n_polygon_xs n_handX n_polygon_ys n_handY c_count c_polygon_count c_polygon_cost f_polygon_angles f_fewest f_firsts f_takenLengths f_lengths f_takenPulls f_pulls f_polygon_turns f_polygon_xs f_handX f_polygon_ys f_handY) sz) := by
  refine Met.ofW (cc := b_C_make) (maxL := 5) (ret := (some .int)) (by decide +kernel) rfl ?_
  intro p e s m args below meth c s₁ B hml hv
  obtain ⟨rfl, hsz, hP, hK, hD0⟩ := hv
  have hx := B.exec
  have hb := B.bytes
  have hr := B.returns
  have hts : ∀ w ∈ allW, w.before _ s = true := fun w hw => atoms_spec (ws := w_C_make) B.pre w (List.mem_cons_of_mem _ hw)
  have hown : s.vm.findClass R_C = some m.cls := findClass_of_methodNamed B.named
  have hlocks := B.notSynchronized
  subst hsz
  have hD := hD0.self (sz := s.heap.size)
  generalize hAe : va_A (cw_C_make cI a_this a_polygon a_polygon_angles a_fewest a_firsts a_takenLengths a_lengths a_takenPulls a_pulls a_polygon_turns a_polygon_xs a_handX a_polygon_ys a_handY a_polygon_outlines a_polygon_costs a_polygon_rest a_polygon_restByTwo a_polygon_points n_polygon_angles n_fewest n_firsts n_takenLengths n_lengths n_takenPulls n_pulls n_polygon_turns n_polygon_xs n_handX n_polygon_ys n_handY c_count c_polygon_count c_polygon_cost f_polygon_angles f_fewest f_firsts f_takenLengths f_lengths f_takenPulls f_pulls f_polygon_turns f_polygon_xs f_handX f_polygon_ys f_handY) s.heap.size = A at hD ⊢
  have hA : ∀ q : Nat, s.heap.size ≤ q → A q := fun q h => by rw [← hAe]; exact Or.inr h
  have hS : va_S A s.heap s.heap [] := va_S.rf
  clear hD0
  generalize hQf : MQ below (qq_C_make dC dI cI cB cJ cZ a_this a_polygon a_polygon_angles a_fewest a_firsts a_takenLengths a_lengths a_takenPulls a_pulls a_polygon_turns a_polygon_xs a_handX a_polygon_ys a_handY a_polygon_outlines a_polygon_costs a_polygon_rest a_polygon_restByTwo a_polygon_points n_polygon_angles n_fewest n_firsts n_takenLengths n_lengths n_takenPulls n_pulls n_polygon_turns n_polygon_xs n_handX n_polygon_ys n_handY c_polygon_count c_polygon_cost f_polygon_angles f_polygon_turns f_polygon_xs f_polygon_ys A post) ([.ref a_this, .int x1, .int x2] : List Value).toArray s 0 0 A = Qf
  have hl := lv_entry ([.ref a_this, .int x1, .int x2]) (n := 5) (Nat.le_of_ble_eq_true rfl)
  rw [lg_entry_eq]
  generalize (lg_sl ([.ref a_this, .int x1, .int x2]) ++ List.replicate (5 - (lg_sl ([.ref a_this, .int x1, .int x2])).length) Slot.unset).toArray = ls at hl ⊢
  have hl : lv_has ls 5 [(0, .ref a_this), (1, .int x1), (2, .int x2)] := hl
  unfold wp_C_make at h
  refine lv_aload_n hx hb d_C_make_0 rfl (lv_at hl 0 rfl) ?_
  refine lv_iload_n hx hb d_C_make_1 rfl (lv_at hl 1 rfl) ?_
  obtain ⟨Q2, hq2, h⟩ := h
  have hPc := hP.sub (ws' := (cw_C_firstSharp cI a_this a_polygon a_polygon_angles a_fewest a_takenLengths a_takenPulls a_firsts a_lengths a_pulls a_handX a_handY a_polygon_outlines a_polygon_costs a_polygon_rest a_polygon_restByTwo a_polygon_points a_polygon_xs a_polygon_ys a_polygon_turns n_polygon_angles c_count c_polygon_count c_polygon_cost f_polygon_angles)) [0, 1, 2] rfl
  have hDc := hD.sub (ws' := (cw_C_firstSharp cI a_this a_polygon a_polygon_angles a_fewest a_takenLengths a_takenPulls a_firsts a_lengths a_pulls a_handX a_handY a_polygon_outlines a_polygon_costs a_polygon_rest a_polygon_restByTwo a_polygon_points a_polygon_xs a_polygon_ys a_polygon_turns n_polygon_angles c_count c_polygon_count c_polygon_cost f_polygon_angles)) [0, 1, 2] (by decide) rfl
  have hFc := va_free (wc := (cw_C_firstSharp cI a_this a_polygon a_polygon_angles a_fewest a_takenLengths a_takenPulls a_firsts a_lengths a_pulls a_handX a_handY a_polygon_outlines a_polygon_costs a_polygon_rest a_polygon_restByTwo a_polygon_points a_polygon_xs a_polygon_ys a_polygon_turns n_polygon_angles c_count c_polygon_count c_polygon_cost f_polygon_angles)) hD hS hA [0, 1, 2] rfl
  refine va_calli (va_runV (As := [.int x1]) (rest := []) ⟨hx, hb, hml, hown, hts⟩ (c_C_firstSharp l dC dI cI cB cJ cZ a_this a_polygon a_polygon_angles a_fewest a_takenLengths a_takenPulls a_firsts a_lengths a_pulls a_handX a_handY a_polygon_outlines a_polygon_costs a_polygon_rest a_polygon_restByTwo a_polygon_points a_polygon_xs a_polygon_ys a_polygon_turns s.heap.size n_polygon_angles c_count c_polygon_count c_polygon_cost f_polygon_angles x1 Q2 hq2) (cwV 1 hts (goodV q_569 q_571 q_p21 q_6 q_572) rfl rfl rfl (by decide +kernel) ⟨Nat.le_of_ble_eq_true rfl, Nat.le_of_ble_eq_true rfl⟩) ⟨fun a U g mk q => by obtain ⟨q0, q1, qP, qK, qD⟩ := q; exact ⟨q0, q1, qP, va_K.moved (u := U) (U := U.calling g mk a) (Vm.Alike.refl U.vm) qK, qD⟩, va_recv hK hPc (ci := 4) (q0 := 0) rfl rfl, fun U hU hW => ⟨rfl, by rw [hU], by rw [hU]; exact hPc, va_K.moved hW.alike hK, hDc.weaken (fun _ _ _ _ => trivial)⟩⟩ rfl rfl hl.1 rfl (lv_room (Nat.le_of_ble_eq_true rfl)) d_C_make_2 ⟨Nat.le_of_ble_eq_true rfl, Nat.le_of_ble_eq_true rfl⟩) hS (fun q _ h => hFc q h) hFc (fun r2 u2 t H1 locs ht hvm hw hB hz1 hk1 hS => ?_)
  cases u2
  obtain ⟨hP1, -, hD1⟩ := hB
  rw [ht] at hP1
  have h := h r2 hw
  obtain ⟨hP, hD⟩ := va_join (wr := [(a_fewest, .inl (cI, n_fewest, .inl f_fewest)), (a_firsts, .inl (cI, n_firsts, .inl f_firsts)), (a_takenLengths, .inl (cI, n_takenLengths, .inl f_takenLengths)), (a_lengths, .inl (cI, n_lengths, .inl f_lengths)), (a_takenPulls, .inl (cI, n_takenPulls, .inl f_takenPulls)), (a_pulls, .inl (cI, n_pulls, .inl f_pulls)), (a_polygon_turns, .inl (cI, n_polygon_turns, .inl f_polygon_turns)), (a_polygon_xs, .inl (cI, n_polygon_xs, .inl f_polygon_xs)), (a_handX, .inl (cI, n_handX, .inl f_handX)), (a_polygon_ys, .inl (cI, n_polygon_ys, .inl f_polygon_ys)), (a_handY, .inl (cI, n_handY, .inl f_handY))]) (w1 := (cw_C_firstSharp cI a_this a_polygon a_polygon_angles a_fewest a_takenLengths a_takenPulls a_firsts a_lengths a_pulls a_handX a_handY a_polygon_outlines a_polygon_costs a_polygon_rest a_polygon_restByTwo a_polygon_points a_polygon_xs a_polygon_ys a_polygon_turns n_polygon_angles c_count c_polygon_count c_polygon_cost f_polygon_angles)) hP hD [0, 1, 2] [3, 4, 5, 6, 7, 8, 9, 10, 11, 12, 13] rfl rfl (by decide) (by decide) hk1 hFc hP1 hD1
  clear hP1 hD1 hk1 hPc hDc hFc
  generalize H1 = H at hP hS ⊢
  have hP : va_P (dC, dI) vwCl (cw_C_make cI a_this a_polygon a_polygon_angles a_fewest a_firsts a_takenLengths a_lengths a_takenPulls a_pulls a_polygon_turns a_polygon_xs a_handX a_polygon_ys a_handY a_polygon_outlines a_polygon_costs a_polygon_rest a_polygon_restByTwo a_polygon_points n_polygon_angles n_fewest n_firsts n_takenLengths n_lengths n_takenPulls n_pulls n_polygon_turns n_polygon_xs n_handX n_polygon_ys n_handY c_count c_polygon_count c_polygon_cost f_polygon_angles f_fewest f_firsts f_takenLengths f_lengths f_takenPulls f_pulls f_polygon_turns f_polygon_xs f_handX f_polygon_ys f_handY) H := hP.sub [11, 12, 13, 0, 1, 2, 3, 4, 5, 6, 7, 8, 9, 10] rfl
  have hD : va_D A (cw_C_make cI a_this a_polygon a_polygon_angles a_fewest a_firsts a_takenLengths a_lengths a_takenPulls a_pulls a_polygon_turns a_polygon_xs a_handX a_polygon_ys a_handY a_polygon_outlines a_polygon_costs a_polygon_rest a_polygon_restByTwo a_polygon_points n_polygon_angles n_fewest n_firsts n_takenLengths n_lengths n_takenPulls n_pulls n_polygon_turns n_polygon_xs n_handX n_polygon_ys n_handY c_count c_polygon_count c_polygon_cost f_polygon_angles f_fewest f_firsts f_takenLengths f_lengths f_takenPulls f_pulls f_polygon_turns f_polygon_xs f_handX f_polygon_ys f_handY) := hD.sub [11, 12, 13, 0, 1, 2, 3, 4, 5, 6, 7, 8, 9, 10] (by decide) rfl
  refine lv_istore_n (lv' := [(3, .int r2), (0, .ref a_this), (1, .int x1), (2, .int x2)]) hx hb d_C_make_5 rfl hl (by decide) rfl (fun ls hl => ?_)
  refine lv_aload_n hx hb d_C_make_6 rfl (lv_at hl 1 rfl) ?_
  refine va_get (D := (dC, dI)) (ci := 4) (v := .ref a_fewest) (C := R_C) (T := F_C) (N := 10) hx hb hts i_C_in hown hK hP 0 rfl rfl 1 (by decide) (hts _ q_160) (fun _ h9 => h9) rfl d_C_make_7 ?_
  refine lv_aload_n hx hb d_C_make_10 rfl (lv_at hl 1 rfl) ?_
  refine va_get (D := (dC, dI)) (ci := 4) (v := .ref a_polygon) (C := R_C) (T := F_C) (N := 10) hx hb hts i_C_in hown hK hP 0 rfl rfl 0 (by decide) (hts _ q_159) (fun _ h9 => h9) rfl d_C_make_11 ?_
  refine va_get (D := (dC, dI)) (ci := 3) (v := .int c_polygon_count) (C := R_G) (T := F_G) (N := 11) hx hb hts i_G_in hown hK hP 1 rfl rfl 9 (by decide) (hts _ q_126) (fun _ h9 => h9) rfl d_C_make_14 ?_
  refine lv_iconst (v := 0) hx hb d_C_make_17 (by decide) ?_
  obtain ⟨hin, h⟩ := h
  refine va_iast hx hb hK hP hD hS 3 0 rfl rfl hin d_C_make_18 (fun H locs hP hD hS => ?_)
  obtain ⟨f18, e_f18⟩ : ∃ y : Nat → Int32, y = upd f_fewest c_polygon_count.toNatClampNeg (0 : Int32) := ⟨_, rfl⟩
  have h := h f18 e_f18
  have hP : va_P (dC, dI) vwCl (cw_C_make cI a_this a_polygon a_polygon_angles a_fewest a_firsts a_takenLengths a_lengths a_takenPulls a_pulls a_polygon_turns a_polygon_xs a_handX a_polygon_ys a_handY a_polygon_outlines a_polygon_costs a_polygon_rest a_polygon_restByTwo a_polygon_points n_polygon_angles n_fewest n_firsts n_takenLengths n_lengths n_takenPulls n_pulls n_polygon_turns n_polygon_xs n_handX n_polygon_ys n_handY c_count c_polygon_count c_polygon_cost f_polygon_angles f18 f_firsts f_takenLengths f_lengths f_takenPulls f_pulls f_polygon_turns f_polygon_xs f_handX f_polygon_ys f_handY) H := by rw [e_f18]; exact hP
  have hD : va_D A (cw_C_make cI a_this a_polygon a_polygon_angles a_fewest a_firsts a_takenLengths a_lengths a_takenPulls a_pulls a_polygon_turns a_polygon_xs a_handX a_polygon_ys a_handY a_polygon_outlines a_polygon_costs a_polygon_rest a_polygon_restByTwo a_polygon_points n_polygon_angles n_fewest n_firsts n_takenLengths n_lengths n_takenPulls n_pulls n_polygon_turns n_polygon_xs n_handX n_polygon_ys n_handY c_count c_polygon_count c_polygon_cost f_polygon_angles f18 f_firsts f_takenLengths f_lengths f_takenPulls f_pulls f_polygon_turns f_polygon_xs f_handX f_polygon_ys f_handY) := by rw [e_f18]; exact hD
  refine lv_aload_n hx hb d_C_make_19 rfl (lv_at hl 1 rfl) ?_
  refine va_get (D := (dC, dI)) (ci := 4) (v := .ref a_polygon) (C := R_C) (T := F_C) (N := 10) hx hb hts i_C_in hown hK hP 0 rfl rfl 0 (by decide) (hts _ q_159) (fun _ h9 => h9) rfl d_C_make_20 ?_
  refine va_get (D := (dC, dI)) (ci := 3) (v := .int c_polygon_count) (C := R_G) (T := F_G) (N := 11) hx hb hts i_G_in hown hK hP 1 rfl rfl 9 (by decide) (hts _ q_126) (fun _ h9 => h9) rfl d_C_make_23 ?_
  refine lv_iconst (v := 1) hx hb d_C_make_26 (by decide) ?_
  refine lv_isub hx hb d_C_make_27 ?_
  refine lv_topi (fun x4_28 e_x4_28 => ?_)
  have h := h x4_28 e_x4_28
  refine lv_istore (lv' := [(4, .int x4_28), (3, .int r2), (0, .ref a_this), (1, .int x1), (2, .int x2)]) hx hb d_C_make_28 hl (by decide) rfl (fun ls hl => ?_)
  refine lpW_ind (Wp := fun z => ∀ (H : Heap) (locs : List Loc) (ls : Array Slot), va_P (dC, dI) vwCl (cw_C_make cI a_this a_polygon a_polygon_angles a_fewest a_firsts a_takenLengths a_lengths a_takenPulls a_pulls a_polygon_turns a_polygon_xs a_handX a_polygon_ys a_handY a_polygon_outlines a_polygon_costs a_polygon_rest a_polygon_restByTwo a_polygon_points n_polygon_angles n_fewest n_firsts n_takenLengths n_lengths n_takenPulls n_pulls n_polygon_turns n_polygon_xs n_handX n_polygon_ys n_handY c_count c_polygon_count c_polygon_cost f_polygon_angles z.2.1 f_firsts z.2.2.1 f_lengths z.2.2.2.1 f_pulls f_polygon_turns f_polygon_xs z.2.2.2.2.1 f_polygon_ys z.2.2.2.2.2) H → va_D A (cw_C_make cI a_this a_polygon a_polygon_angles a_fewest a_firsts a_takenLengths a_lengths a_takenPulls a_pulls a_polygon_turns a_polygon_xs a_handX a_polygon_ys a_handY a_polygon_outlines a_polygon_costs a_polygon_rest a_polygon_restByTwo a_polygon_points n_polygon_angles n_fewest n_firsts n_takenLengths n_lengths n_takenPulls n_pulls n_polygon_turns n_polygon_xs n_handX n_polygon_ys n_handY c_count c_polygon_count c_polygon_cost f_polygon_angles z.2.1 f_firsts z.2.2.1 f_lengths z.2.2.2.1 f_pulls f_polygon_turns f_polygon_xs z.2.2.2.2.1 f_polygon_ys z.2.2.2.2.2) → va_S A s.heap H locs → lv_has ls 5 [(0, .ref a_this), (1, .int x1), (2, .int x2), (3, .int r2), (4, .int z.1)] → W p l e (headSpec w_C_make ({ frames := 6, cells := 0, slots := 0, locals := 151 })).room s m ([.ref a_this, .int x1, .int x2] : List Value).toArray below meth c H locs 0 0 Qf (F0 m 30 ls [])) h ?_ _ _ _ hP hD hS (lv_sub hl [2, 3, 4, 1, 0] rfl)
  rintro ⟨x4_l30, f_fewest_l30, f_takenLengths_l30, f_takenPulls_l30, f_handX_l30, f_handY_l30⟩ back30 h hb30 H locs ls hP hD hS hl
  have h : wp_C_make_L30 n_polygon_angles n_fewest n_firsts n_takenLengths n_lengths n_takenPulls n_pulls n_polygon_turns n_polygon_xs n_handX n_polygon_ys n_handY c_polygon_count f_polygon_angles f_polygon_turns f_polygon_xs f_polygon_ys c_count f_firsts f_lengths f_pulls x1 x2 r2 post back30 x4_l30 f_fewest_l30 f_takenLengths_l30 f_takenPulls_l30 f_handX_l30 f_handY_l30 := h
  have hP : va_P (dC, dI) vwCl (cw_C_make cI a_this a_polygon a_polygon_angles a_fewest a_firsts a_takenLengths a_lengths a_takenPulls a_pulls a_polygon_turns a_polygon_xs a_handX a_polygon_ys a_handY a_polygon_outlines a_polygon_costs a_polygon_rest a_polygon_restByTwo a_polygon_points n_polygon_angles n_fewest n_firsts n_takenLengths n_lengths n_takenPulls n_pulls n_polygon_turns n_polygon_xs n_handX n_polygon_ys n_handY c_count c_polygon_count c_polygon_cost f_polygon_angles f_fewest_l30 f_firsts f_takenLengths_l30 f_lengths f_takenPulls_l30 f_pulls f_polygon_turns f_polygon_xs f_handX_l30 f_polygon_ys f_handY_l30) H := hP
  have hD : va_D A (cw_C_make cI a_this a_polygon a_polygon_angles a_fewest a_firsts a_takenLengths a_lengths a_takenPulls a_pulls a_polygon_turns a_polygon_xs a_handX a_polygon_ys a_handY a_polygon_outlines a_polygon_costs a_polygon_rest a_polygon_restByTwo a_polygon_points n_polygon_angles n_fewest n_firsts n_takenLengths n_lengths n_takenPulls n_pulls n_polygon_turns n_polygon_xs n_handX n_polygon_ys n_handY c_count c_polygon_count c_polygon_cost f_polygon_angles f_fewest_l30 f_firsts f_takenLengths_l30 f_lengths f_takenPulls_l30 f_pulls f_polygon_turns f_polygon_xs f_handX_l30 f_polygon_ys f_handY_l30) := hD
  have hl : lv_has ls 5 [(0, .ref a_this), (1, .int x1), (2, .int x2), (3, .int r2), (4, .int x4_l30)] := hl
  unfold wp_C_make_L30 at h
  refine lv_iload hx hb d_C_make_30 (lv_at hl 4 rfl) ?_
  refine lv_if_lt (tgt := 59) hx hb d_C_make_32 (by decide) (fun cc_ => ?_) (fun cc_ => ?_)
  · have h := h.1 cc_
    refine lv_aload_n hx hb d_C_make_59 rfl (lv_at hl 0 rfl) ?_
    refine lv_iconst (v := 0) hx hb d_C_make_60 (by decide) ?_
    refine va_put (D := (dC, dI)) (ci := 4) (v := .int (0 : Int32)) (ty := .int) (C := R_C) (T := F_C) (N := 10) hx hb hts i_C_in t_C t_C_ok n_C_ne hown hK hP hD hS 0 rfl rfl 9 (by decide) (hts _ q_171) (fun _ h9 => h9) rfl (by decide +kernel) (by rfl) (by rfl) (Nat.le_of_ble_eq_true rfl) d_C_make_61 (fun H locs hP hD hS => ?_)
    have hP : va_P (dC, dI) vwCl (cw_C_make cI a_this a_polygon a_polygon_angles a_fewest a_firsts a_takenLengths a_lengths a_takenPulls a_pulls a_polygon_turns a_polygon_xs a_handX a_polygon_ys a_handY a_polygon_outlines a_polygon_costs a_polygon_rest a_polygon_restByTwo a_polygon_points n_polygon_angles n_fewest n_firsts n_takenLengths n_lengths n_takenPulls n_pulls n_polygon_turns n_polygon_xs n_handX n_polygon_ys n_handY (0 : Int32) c_polygon_count c_polygon_cost f_polygon_angles f_fewest_l30 f_firsts f_takenLengths_l30 f_lengths f_takenPulls_l30 f_pulls f_polygon_turns f_polygon_xs f_handX_l30 f_polygon_ys f_handY_l30) H := hP
    have hD : va_D A (cw_C_make cI a_this a_polygon a_polygon_angles a_fewest a_firsts a_takenLengths a_lengths a_takenPulls a_pulls a_polygon_turns a_polygon_xs a_handX a_polygon_ys a_handY a_polygon_outlines a_polygon_costs a_polygon_rest a_polygon_restByTwo a_polygon_points n_polygon_angles n_fewest n_firsts n_takenLengths n_lengths n_takenPulls n_pulls n_polygon_turns n_polygon_xs n_handX n_polygon_ys n_handY (0 : Int32) c_polygon_count c_polygon_cost f_polygon_angles f_fewest_l30 f_firsts f_takenLengths_l30 f_lengths f_takenPulls_l30 f_pulls f_polygon_turns f_polygon_xs f_handX_l30 f_polygon_ys f_handY_l30) := hD
    refine lv_iconst (v := 0) hx hb d_C_make_64 (by decide) ?_
    refine lv_istore (lv' := [(4, .int (0 : Int32)), (0, .ref a_this), (1, .int x1), (2, .int x2), (3, .int r2)]) hx hb d_C_make_65 hl (by decide) rfl (fun ls hl => ?_)
    refine lpW_ind (Wp := fun z => ∀ (H : Heap) (locs : List Loc) (ls : Array Slot), va_P (dC, dI) vwCl (cw_C_make cI a_this a_polygon a_polygon_angles a_fewest a_firsts a_takenLengths a_lengths a_takenPulls a_pulls a_polygon_turns a_polygon_xs a_handX a_polygon_ys a_handY a_polygon_outlines a_polygon_costs a_polygon_rest a_polygon_restByTwo a_polygon_points n_polygon_angles n_fewest n_firsts n_takenLengths n_lengths n_takenPulls n_pulls n_polygon_turns n_polygon_xs n_handX n_polygon_ys n_handY z.2.1 c_polygon_count c_polygon_cost f_polygon_angles f_fewest_l30 z.2.2.1 f_takenLengths_l30 z.2.2.2.1 f_takenPulls_l30 z.2.2.2.2 f_polygon_turns f_polygon_xs f_handX_l30 f_polygon_ys f_handY_l30) H → va_D A (cw_C_make cI a_this a_polygon a_polygon_angles a_fewest a_firsts a_takenLengths a_lengths a_takenPulls a_pulls a_polygon_turns a_polygon_xs a_handX a_polygon_ys a_handY a_polygon_outlines a_polygon_costs a_polygon_rest a_polygon_restByTwo a_polygon_points n_polygon_angles n_fewest n_firsts n_takenLengths n_lengths n_takenPulls n_pulls n_polygon_turns n_polygon_xs n_handX n_polygon_ys n_handY z.2.1 c_polygon_count c_polygon_cost f_polygon_angles f_fewest_l30 z.2.2.1 f_takenLengths_l30 z.2.2.2.1 f_takenPulls_l30 z.2.2.2.2 f_polygon_turns f_polygon_xs f_handX_l30 f_polygon_ys f_handY_l30) → va_S A s.heap H locs → lv_has ls 5 [(0, .ref a_this), (3, .int r2), (4, .int z.1)] → W p l e (headSpec w_C_make ({ frames := 6, cells := 0, slots := 0, locals := 151 })).room s m ([.ref a_this, .int x1, .int x2] : List Value).toArray below meth c H locs 0 0 Qf (F0 m 67 ls [])) h ?_ _ _ _ hP hD hS (lv_sub hl [1, 4, 0] rfl)
    rintro ⟨x4_l67, c_count_l67, f_firsts_l67, f_lengths_l67, f_pulls_l67⟩ back67 h hb67 H locs ls hP hD hS hl
    have h : wp_C_make_L67 n_polygon_angles n_fewest n_firsts n_takenLengths n_lengths n_takenPulls n_pulls n_polygon_turns n_polygon_xs n_handX n_polygon_ys n_handY c_polygon_count f_polygon_angles f_polygon_turns f_polygon_xs f_polygon_ys f_fewest_l30 f_takenLengths_l30 f_takenPulls_l30 f_handX_l30 f_handY_l30 r2 post back67 x4_l67 c_count_l67 f_firsts_l67 f_lengths_l67 f_pulls_l67 := h
    have hP : va_P (dC, dI) vwCl (cw_C_make cI a_this a_polygon a_polygon_angles a_fewest a_firsts a_takenLengths a_lengths a_takenPulls a_pulls a_polygon_turns a_polygon_xs a_handX a_polygon_ys a_handY a_polygon_outlines a_polygon_costs a_polygon_rest a_polygon_restByTwo a_polygon_points n_polygon_angles n_fewest n_firsts n_takenLengths n_lengths n_takenPulls n_pulls n_polygon_turns n_polygon_xs n_handX n_polygon_ys n_handY c_count_l67 c_polygon_count c_polygon_cost f_polygon_angles f_fewest_l30 f_firsts_l67 f_takenLengths_l30 f_lengths_l67 f_takenPulls_l30 f_pulls_l67 f_polygon_turns f_polygon_xs f_handX_l30 f_polygon_ys f_handY_l30) H := hP
    have hD : va_D A (cw_C_make cI a_this a_polygon a_polygon_angles a_fewest a_firsts a_takenLengths a_lengths a_takenPulls a_pulls a_polygon_turns a_polygon_xs a_handX a_polygon_ys a_handY a_polygon_outlines a_polygon_costs a_polygon_rest a_polygon_restByTwo a_polygon_points n_polygon_angles n_fewest n_firsts n_takenLengths n_lengths n_takenPulls n_pulls n_polygon_turns n_polygon_xs n_handX n_polygon_ys n_handY c_count_l67 c_polygon_count c_polygon_cost f_polygon_angles f_fewest_l30 f_firsts_l67 f_takenLengths_l30 f_lengths_l67 f_takenPulls_l30 f_pulls_l67 f_polygon_turns f_polygon_xs f_handX_l30 f_polygon_ys f_handY_l30) := hD
    have hl : lv_has ls 5 [(0, .ref a_this), (3, .int r2), (4, .int x4_l67)] := hl
    unfold wp_C_make_L67 at h
    refine lv_iload hx hb d_C_make_67 (lv_at hl 2 rfl) ?_
    refine lv_aload_n hx hb d_C_make_69 rfl (lv_at hl 0 rfl) ?_
    refine va_get (D := (dC, dI)) (ci := 4) (v := .ref a_polygon) (C := R_C) (T := F_C) (N := 10) hx hb hts i_C_in hown hK hP 0 rfl rfl 0 (by decide) (hts _ q_159) (fun _ h9 => h9) rfl d_C_make_70 ?_
    refine va_get (D := (dC, dI)) (ci := 3) (v := .int c_polygon_count) (C := R_G) (T := F_G) (N := 11) hx hb hts i_G_in hown hK hP 1 rfl rfl 9 (by decide) (hts _ q_126) (fun _ h9 => h9) rfl d_C_make_73 ?_
    refine lv_icmp_ge (tgt := 159) hx hb d_C_make_76 (by decide) (fun cc_ => ?_) (fun cc_ => ?_)
    · have h := h.1 cc_
      refine lv_aload_n hx hb d_C_make_159 rfl (lv_at hl 0 rfl) ?_
      refine va_get (D := (dC, dI)) (ci := 4) (v := .int c_count_l67) (C := R_C) (T := F_C) (N := 10) hx hb hts i_C_in hown hK hP 0 rfl rfl 9 (by decide) (hts _ q_171) (fun _ h9 => h9) rfl d_C_make_160 ?_
      subst hQf
      exact W.iret (v := c_count_l67) hx hb hr (fun t ht hW => ⟨⟨c_count_l67, (c_count_l67, f_fewest_l30, f_firsts_l67, f_takenLengths_l30, f_lengths_l67, f_takenPulls_l30, f_pulls_l67, f_handX_l30, f_handY_l30), rfl, h, by rw [ht]; exact hP, va_K.moved hW.alike hK, hD⟩, hS.F ht⟩) hS.2.2 d_C_make_163
    · have h := h.2 cc_
      refine lv_aload_n hx hb d_C_make_79 rfl (lv_at hl 0 rfl) ?_
      refine va_get (D := (dC, dI)) (ci := 4) (v := .ref a_firsts) (C := R_C) (T := F_C) (N := 10) hx hb hts i_C_in hown hK hP 0 rfl rfl 4 (by decide) (hts _ q_163) (fun _ h9 => h9) rfl d_C_make_80 ?_
      refine lv_aload_n hx hb d_C_make_83 rfl (lv_at hl 0 rfl) ?_
      refine va_get (D := (dC, dI)) (ci := 4) (v := .int c_count_l67) (C := R_C) (T := F_C) (N := 10) hx hb hts i_C_in hown hK hP 0 rfl rfl 9 (by decide) (hts _ q_171) (fun _ h9 => h9) rfl d_C_make_84 ?_
      refine lv_aload_n hx hb d_C_make_87 rfl (lv_at hl 0 rfl) ?_
      refine va_get (D := (dC, dI)) (ci := 4) (v := .ref a_polygon) (C := R_C) (T := F_C) (N := 10) hx hb hts i_C_in hown hK hP 0 rfl rfl 0 (by decide) (hts _ q_159) (fun _ h9 => h9) rfl d_C_make_88 ?_
      refine lv_iload_n hx hb d_C_make_91 rfl (lv_at hl 1 rfl) ?_
      refine lv_iload hx hb d_C_make_92 (lv_at hl 2 rfl) ?_
      obtain ⟨Q94, hq94, h⟩ := h
      have hPc := hP.sub (ws' := (cw_G_cornerBeside a_polygon a_polygon_outlines a_polygon_costs a_polygon_rest a_polygon_restByTwo a_polygon_points a_polygon_xs a_polygon_ys a_polygon_angles a_polygon_turns c_polygon_count c_polygon_cost)) [1] rfl
      have hDc := hD.sub (ws' := (cw_G_cornerBeside a_polygon a_polygon_outlines a_polygon_costs a_polygon_rest a_polygon_restByTwo a_polygon_points a_polygon_xs a_polygon_ys a_polygon_angles a_polygon_turns c_polygon_count c_polygon_cost)) [1] (by decide) rfl
      have hFc := va_free (wc := (cw_G_cornerBeside a_polygon a_polygon_outlines a_polygon_costs a_polygon_rest a_polygon_restByTwo a_polygon_points a_polygon_xs a_polygon_ys a_polygon_angles a_polygon_turns c_polygon_count c_polygon_cost)) hD hS hA [1] rfl
      refine va_calli (va_runV (As := [.int r2, .int x4_l67]) (rest := [.int c_count_l67, .ref a_firsts]) ⟨hx, hb, hml, hown, hts⟩ (c_G_cornerBeside l dC dI cI cB cJ cZ a_polygon a_polygon_outlines a_polygon_costs a_polygon_rest a_polygon_restByTwo a_polygon_points a_polygon_xs a_polygon_ys a_polygon_angles a_polygon_turns H.size c_polygon_count c_polygon_cost r2 x4_l67 Q94 hq94) (cwV 2 hts (goodV q_573 q_535 q_536 q_5 q_537) rfl rfl rfl (by decide +kernel) ⟨Nat.le_of_ble_eq_true rfl, Nat.le_of_ble_eq_true rfl⟩) ⟨fun a U g mk q => by obtain ⟨q0, q1, qP, qK, qD⟩ := q; exact ⟨q0, q1, qP, va_K.moved (u := U) (U := U.calling g mk a) (Vm.Alike.refl U.vm) qK, qD⟩, va_recv hK hPc (ci := 3) (q0 := 0) rfl rfl, fun U hU hW => ⟨rfl, by rw [hU], by rw [hU]; exact hPc, va_K.moved hW.alike hK, hDc.weaken (fun _ _ _ _ => trivial)⟩⟩ rfl rfl hl.1 rfl (lv_room (Nat.le_of_ble_eq_true rfl)) d_C_make_94 ⟨Nat.le_of_ble_eq_true rfl, Nat.le_of_ble_eq_true rfl⟩) hS (fun q _ h => hFc q h) hFc (fun r94 u94 t H1 locs ht hvm hw hB hz1 hk1 hS => ?_)
      cases u94
      obtain ⟨hP1, -, hD1⟩ := hB
      rw [ht] at hP1
      have h := h r94 hw
      obtain ⟨hP, hD⟩ := va_join (wr := [(a_this, .inr (4, [.ref a_polygon, .ref a_fewest, .ref a_takenLengths, .ref a_takenPulls, .ref a_firsts, .ref a_lengths, .ref a_pulls, .ref a_handX, .ref a_handY, .int c_count_l67])), (a_polygon_angles, .inl (cI, n_polygon_angles, .inl f_polygon_angles)), (a_fewest, .inl (cI, n_fewest, .inl f_fewest_l30)), (a_firsts, .inl (cI, n_firsts, .inl f_firsts_l67)), (a_takenLengths, .inl (cI, n_takenLengths, .inl f_takenLengths_l30)), (a_lengths, .inl (cI, n_lengths, .inl f_lengths_l67)), (a_takenPulls, .inl (cI, n_takenPulls, .inl f_takenPulls_l30)), (a_pulls, .inl (cI, n_pulls, .inl f_pulls_l67)), (a_polygon_turns, .inl (cI, n_polygon_turns, .inl f_polygon_turns)), (a_polygon_xs, .inl (cI, n_polygon_xs, .inl f_polygon_xs)), (a_handX, .inl (cI, n_handX, .inl f_handX_l30)), (a_polygon_ys, .inl (cI, n_polygon_ys, .inl f_polygon_ys)), (a_handY, .inl (cI, n_handY, .inl f_handY_l30))]) (w1 := (cw_G_cornerBeside a_polygon a_polygon_outlines a_polygon_costs a_polygon_rest a_polygon_restByTwo a_polygon_points a_polygon_xs a_polygon_ys a_polygon_angles a_polygon_turns c_polygon_count c_polygon_cost)) hP hD [1] [0, 2, 3, 4, 5, 6, 7, 8, 9, 10, 11, 12, 13] rfl rfl (by decide) (by decide) hk1 hFc hP1 hD1
      clear hP1 hD1 hk1 hPc hDc hFc
      generalize H1 = H at hP hS ⊢
      have hP : va_P (dC, dI) vwCl (cw_C_make cI a_this a_polygon a_polygon_angles a_fewest a_firsts a_takenLengths a_lengths a_takenPulls a_pulls a_polygon_turns a_polygon_xs a_handX a_polygon_ys a_handY a_polygon_outlines a_polygon_costs a_polygon_rest a_polygon_restByTwo a_polygon_points n_polygon_angles n_fewest n_firsts n_takenLengths n_lengths n_takenPulls n_pulls n_polygon_turns n_polygon_xs n_handX n_polygon_ys n_handY c_count_l67 c_polygon_count c_polygon_cost f_polygon_angles f_fewest_l30 f_firsts_l67 f_takenLengths_l30 f_lengths_l67 f_takenPulls_l30 f_pulls_l67 f_polygon_turns f_polygon_xs f_handX_l30 f_polygon_ys f_handY_l30) H := hP.sub [0, 13, 1, 2, 3, 4, 5, 6, 7, 8, 9, 10, 11, 12] rfl
      have hD : va_D A (cw_C_make cI a_this a_polygon a_polygon_angles a_fewest a_firsts a_takenLengths a_lengths a_takenPulls a_pulls a_polygon_turns a_polygon_xs a_handX a_polygon_ys a_handY a_polygon_outlines a_polygon_costs a_polygon_rest a_polygon_restByTwo a_polygon_points n_polygon_angles n_fewest n_firsts n_takenLengths n_lengths n_takenPulls n_pulls n_polygon_turns n_polygon_xs n_handX n_polygon_ys n_handY c_count_l67 c_polygon_count c_polygon_cost f_polygon_angles f_fewest_l30 f_firsts_l67 f_takenLengths_l30 f_lengths_l67 f_takenPulls_l30 f_pulls_l67 f_polygon_turns f_polygon_xs f_handX_l30 f_polygon_ys f_handY_l30) := hD.sub [0, 13, 1, 2, 3, 4, 5, 6, 7, 8, 9, 10, 11, 12] (by decide) rfl
      obtain ⟨hin, h⟩ := h
      refine va_iast hx hb hK hP hD hS 4 0 rfl rfl hin d_C_make_97 (fun H locs hP hD hS => ?_)
      obtain ⟨f97, e_f97⟩ : ∃ y : Nat → Int32, y = upd f_firsts_l67 c_count_l67.toNatClampNeg r94 := ⟨_, rfl⟩
      have h := h f97 e_f97
      have hP : va_P (dC, dI) vwCl (cw_C_make cI a_this a_polygon a_polygon_angles a_fewest a_firsts a_takenLengths a_lengths a_takenPulls a_pulls a_polygon_turns a_polygon_xs a_handX a_polygon_ys a_handY a_polygon_outlines a_polygon_costs a_polygon_rest a_polygon_restByTwo a_polygon_points n_polygon_angles n_fewest n_firsts n_takenLengths n_lengths n_takenPulls n_pulls n_polygon_turns n_polygon_xs n_handX n_polygon_ys n_handY c_count_l67 c_polygon_count c_polygon_cost f_polygon_angles f_fewest_l30 f97 f_takenLengths_l30 f_lengths_l67 f_takenPulls_l30 f_pulls_l67 f_polygon_turns f_polygon_xs f_handX_l30 f_polygon_ys f_handY_l30) H := by rw [e_f97]; exact hP
      have hD : va_D A (cw_C_make cI a_this a_polygon a_polygon_angles a_fewest a_firsts a_takenLengths a_lengths a_takenPulls a_pulls a_polygon_turns a_polygon_xs a_handX a_polygon_ys a_handY a_polygon_outlines a_polygon_costs a_polygon_rest a_polygon_restByTwo a_polygon_points n_polygon_angles n_fewest n_firsts n_takenLengths n_lengths n_takenPulls n_pulls n_polygon_turns n_polygon_xs n_handX n_polygon_ys n_handY c_count_l67 c_polygon_count c_polygon_cost f_polygon_angles f_fewest_l30 f97 f_takenLengths_l30 f_lengths_l67 f_takenPulls_l30 f_pulls_l67 f_polygon_turns f_polygon_xs f_handX_l30 f_polygon_ys f_handY_l30) := by rw [e_f97]; exact hD
      refine lv_aload_n hx hb d_C_make_98 rfl (lv_at hl 0 rfl) ?_
      refine va_get (D := (dC, dI)) (ci := 4) (v := .ref a_lengths) (C := R_C) (T := F_C) (N := 10) hx hb hts i_C_in hown hK hP 0 rfl rfl 5 (by decide) (hts _ q_165) (fun _ h9 => h9) rfl d_C_make_99 ?_
      refine lv_aload_n hx hb d_C_make_102 rfl (lv_at hl 0 rfl) ?_
      refine va_get (D := (dC, dI)) (ci := 4) (v := .int c_count_l67) (C := R_C) (T := F_C) (N := 10) hx hb hts i_C_in hown hK hP 0 rfl rfl 9 (by decide) (hts _ q_171) (fun _ h9 => h9) rfl d_C_make_103 ?_
      refine lv_aload_n hx hb d_C_make_106 rfl (lv_at hl 0 rfl) ?_
      refine va_get (D := (dC, dI)) (ci := 4) (v := .ref a_takenLengths) (C := R_C) (T := F_C) (N := 10) hx hb hts i_C_in hown hK hP 0 rfl rfl 2 (by decide) (hts _ q_161) (fun _ h9 => h9) rfl d_C_make_107 ?_
      refine lv_iload hx hb d_C_make_110 (lv_at hl 2 rfl) ?_
      obtain ⟨hin, h⟩ := h
      refine va_iald hx hb hK hP 5 0 rfl rfl hin d_C_make_112 ?_
      obtain ⟨hin, h⟩ := h
      refine va_iast hx hb hK hP hD hS 6 0 rfl rfl hin d_C_make_113 (fun H locs hP hD hS => ?_)
      obtain ⟨f113, e_f113⟩ : ∃ y : Nat → Int32, y = upd f_lengths_l67 c_count_l67.toNatClampNeg (f_takenLengths_l30 x4_l67.toNatClampNeg) := ⟨_, rfl⟩
      have h := h f113 e_f113
      have hP : va_P (dC, dI) vwCl (cw_C_make cI a_this a_polygon a_polygon_angles a_fewest a_firsts a_takenLengths a_lengths a_takenPulls a_pulls a_polygon_turns a_polygon_xs a_handX a_polygon_ys a_handY a_polygon_outlines a_polygon_costs a_polygon_rest a_polygon_restByTwo a_polygon_points n_polygon_angles n_fewest n_firsts n_takenLengths n_lengths n_takenPulls n_pulls n_polygon_turns n_polygon_xs n_handX n_polygon_ys n_handY c_count_l67 c_polygon_count c_polygon_cost f_polygon_angles f_fewest_l30 f97 f_takenLengths_l30 f113 f_takenPulls_l30 f_pulls_l67 f_polygon_turns f_polygon_xs f_handX_l30 f_polygon_ys f_handY_l30) H := by rw [e_f113]; exact hP
      have hD : va_D A (cw_C_make cI a_this a_polygon a_polygon_angles a_fewest a_firsts a_takenLengths a_lengths a_takenPulls a_pulls a_polygon_turns a_polygon_xs a_handX a_polygon_ys a_handY a_polygon_outlines a_polygon_costs a_polygon_rest a_polygon_restByTwo a_polygon_points n_polygon_angles n_fewest n_firsts n_takenLengths n_lengths n_takenPulls n_pulls n_polygon_turns n_polygon_xs n_handX n_polygon_ys n_handY c_count_l67 c_polygon_count c_polygon_cost f_polygon_angles f_fewest_l30 f97 f_takenLengths_l30 f113 f_takenPulls_l30 f_pulls_l67 f_polygon_turns f_polygon_xs f_handX_l30 f_polygon_ys f_handY_l30) := by rw [e_f113]; exact hD
      refine lv_aload_n hx hb d_C_make_114 rfl (lv_at hl 0 rfl) ?_
      refine va_get (D := (dC, dI)) (ci := 4) (v := .ref a_pulls) (C := R_C) (T := F_C) (N := 10) hx hb hts i_C_in hown hK hP 0 rfl rfl 6 (by decide) (hts _ q_167) (fun _ h9 => h9) rfl d_C_make_115 ?_
      refine lv_aload_n hx hb d_C_make_118 rfl (lv_at hl 0 rfl) ?_
      refine va_get (D := (dC, dI)) (ci := 4) (v := .int c_count_l67) (C := R_C) (T := F_C) (N := 10) hx hb hts i_C_in hown hK hP 0 rfl rfl 9 (by decide) (hts _ q_171) (fun _ h9 => h9) rfl d_C_make_119 ?_
      refine lv_aload_n hx hb d_C_make_122 rfl (lv_at hl 0 rfl) ?_
      refine va_get (D := (dC, dI)) (ci := 4) (v := .ref a_takenPulls) (C := R_C) (T := F_C) (N := 10) hx hb hts i_C_in hown hK hP 0 rfl rfl 3 (by decide) (hts _ q_162) (fun _ h9 => h9) rfl d_C_make_123 ?_
      refine lv_iload hx hb d_C_make_126 (lv_at hl 2 rfl) ?_
      obtain ⟨hin, h⟩ := h
      refine va_iald hx hb hK hP 7 0 rfl rfl hin d_C_make_128 ?_
      obtain ⟨hin, h⟩ := h
      refine va_iast hx hb hK hP hD hS 8 0 rfl rfl hin d_C_make_129 (fun H locs hP hD hS => ?_)
      obtain ⟨f129, e_f129⟩ : ∃ y : Nat → Int32, y = upd f_pulls_l67 c_count_l67.toNatClampNeg (f_takenPulls_l30 x4_l67.toNatClampNeg) := ⟨_, rfl⟩
      have h := h f129 e_f129
      have hP : va_P (dC, dI) vwCl (cw_C_make cI a_this a_polygon a_polygon_angles a_fewest a_firsts a_takenLengths a_lengths a_takenPulls a_pulls a_polygon_turns a_polygon_xs a_handX a_polygon_ys a_handY a_polygon_outlines a_polygon_costs a_polygon_rest a_polygon_restByTwo a_polygon_points n_polygon_angles n_fewest n_firsts n_takenLengths n_lengths n_takenPulls n_pulls n_polygon_turns n_polygon_xs n_handX n_polygon_ys n_handY c_count_l67 c_polygon_count c_polygon_cost f_polygon_angles f_fewest_l30 f97 f_takenLengths_l30 f113 f_takenPulls_l30 f129 f_polygon_turns f_polygon_xs f_handX_l30 f_polygon_ys f_handY_l30) H := by rw [e_f129]; exact hP
      have hD : va_D A (cw_C_make cI a_this a_polygon a_polygon_angles a_fewest a_firsts a_takenLengths a_lengths a_takenPulls a_pulls a_polygon_turns a_polygon_xs a_handX a_polygon_ys a_handY a_polygon_outlines a_polygon_costs a_polygon_rest a_polygon_restByTwo a_polygon_points n_polygon_angles n_fewest n_firsts n_takenLengths n_lengths n_takenPulls n_pulls n_polygon_turns n_polygon_xs n_handX n_polygon_ys n_handY c_count_l67 c_polygon_count c_polygon_cost f_polygon_angles f_fewest_l30 f97 f_takenLengths_l30 f113 f_takenPulls_l30 f129 f_polygon_turns f_polygon_xs f_handX_l30 f_polygon_ys f_handY_l30) := by rw [e_f129]; exact hD
      refine lv_aload_n hx hb d_C_make_130 rfl (lv_at hl 0 rfl) ?_
      refine lv_dup hx hb d_C_make_131 rfl ?_
      refine va_get (D := (dC, dI)) (ci := 4) (v := .int c_count_l67) (C := R_C) (T := F_C) (N := 10) hx hb hts i_C_in hown hK hP 0 rfl rfl 9 (by decide) (hts _ q_171) (fun _ h9 => h9) rfl d_C_make_132 ?_
      refine lv_iconst (v := 1) hx hb d_C_make_135 (by decide) ?_
      refine lv_iadd hx hb d_C_make_136 ?_
      refine lv_topi (fun v137 e_v137 => ?_)
      have h := h v137 e_v137
      refine va_put (D := (dC, dI)) (ci := 4) (v := .int v137) (ty := .int) (C := R_C) (T := F_C) (N := 10) hx hb hts i_C_in t_C t_C_ok n_C_ne hown hK hP hD hS 0 rfl rfl 9 (by decide) (hts _ q_171) (fun _ h9 => h9) rfl (by decide +kernel) (by rfl) (by rfl) (Nat.le_of_ble_eq_true rfl) d_C_make_137 (fun H locs hP hD hS => ?_)
      have hP : va_P (dC, dI) vwCl (cw_C_make cI a_this a_polygon a_polygon_angles a_fewest a_firsts a_takenLengths a_lengths a_takenPulls a_pulls a_polygon_turns a_polygon_xs a_handX a_polygon_ys a_handY a_polygon_outlines a_polygon_costs a_polygon_rest a_polygon_restByTwo a_polygon_points n_polygon_angles n_fewest n_firsts n_takenLengths n_lengths n_takenPulls n_pulls n_polygon_turns n_polygon_xs n_handX n_polygon_ys n_handY v137 c_polygon_count c_polygon_cost f_polygon_angles f_fewest_l30 f97 f_takenLengths_l30 f113 f_takenPulls_l30 f129 f_polygon_turns f_polygon_xs f_handX_l30 f_polygon_ys f_handY_l30) H := hP
      have hD : va_D A (cw_C_make cI a_this a_polygon a_polygon_angles a_fewest a_firsts a_takenLengths a_lengths a_takenPulls a_pulls a_polygon_turns a_polygon_xs a_handX a_polygon_ys a_handY a_polygon_outlines a_polygon_costs a_polygon_rest a_polygon_restByTwo a_polygon_points n_polygon_angles n_fewest n_firsts n_takenLengths n_lengths n_takenPulls n_pulls n_polygon_turns n_polygon_xs n_handX n_polygon_ys n_handY v137 c_polygon_count c_polygon_cost f_polygon_angles f_fewest_l30 f97 f_takenLengths_l30 f113 f_takenPulls_l30 f129 f_polygon_turns f_polygon_xs f_handX_l30 f_polygon_ys f_handY_l30) := hD
      refine lv_iload hx hb d_C_make_140 (lv_at hl 2 rfl) ?_
      refine lv_iconst (v := 1) hx hb d_C_make_142 (by decide) ?_
      refine lv_aload_n hx hb d_C_make_143 rfl (lv_at hl 0 rfl) ?_
      refine va_get (D := (dC, dI)) (ci := 4) (v := .ref a_takenLengths) (C := R_C) (T := F_C) (N := 10) hx hb hts i_C_in hown hK hP 0 rfl rfl 2 (by decide) (hts _ q_161) (fun _ h9 => h9) rfl d_C_make_144 ?_
      refine lv_iload hx hb d_C_make_147 (lv_at hl 2 rfl) ?_
      obtain ⟨hin, h⟩ := h
      refine va_iald hx hb hK hP 5 0 rfl rfl hin d_C_make_149 ?_
      refine va_mmax hx hb (hml.trans hl.1.symm) hown (hts _ q_612) (hts _ q_34) (hts _ q_3) (hts _ q_35) (Nat.le_of_ble_eq_true rfl) (Nat.le_of_ble_eq_true rfl) (Nat.zero_le _) (Nat.zero_le _) d_C_make_150 ?_
      refine W.eq (g2 := F0 m 153 ls [.int (jmax (1 : Int32) (f_takenLengths_l30 x4_l67.toNatClampNeg)), .int x4_l67]) rfl ?_
      refine lv_iadd hx hb d_C_make_153 ?_
      refine lv_topi (fun x4_154 e_x4_154 => ?_)
      have h := h x4_154 e_x4_154
      refine lv_istore (lv' := [(4, .int x4_154), (0, .ref a_this), (3, .int r2)]) hx hb d_C_make_154 hl (by decide) rfl (fun ls hl => ?_)
      refine lv_goto (tgt := 67) hx hb d_C_make_156 (by decide) ?_
      exact hb67 _ h _ _ _ hP hD hS (lv_sub hl [1, 2, 0] rfl)
  · have h := h.2 cc_
    refine lv_aload_n hx hb d_C_make_35 rfl (lv_at hl 0 rfl) ?_
    refine lv_iload hx hb d_C_make_36 (lv_at hl 4 rfl) ?_
    refine lv_aload_n hx hb d_C_make_38 rfl (lv_at hl 0 rfl) ?_
    refine va_get (D := (dC, dI)) (ci := 4) (v := .ref a_polygon) (C := R_C) (T := F_C) (N := 10) hx hb hts i_C_in hown hK hP 0 rfl rfl 0 (by decide) (hts _ q_159) (fun _ h9 => h9) rfl d_C_make_39 ?_
    refine lv_iload_n hx hb d_C_make_42 rfl (lv_at hl 3 rfl) ?_
    refine lv_iload hx hb d_C_make_43 (lv_at hl 4 rfl) ?_
    obtain ⟨Q45, hq45, h⟩ := h
    have hPc := hP.sub (ws' := (cw_G_cornerBeside a_polygon a_polygon_outlines a_polygon_costs a_polygon_rest a_polygon_restByTwo a_polygon_points a_polygon_xs a_polygon_ys a_polygon_angles a_polygon_turns c_polygon_count c_polygon_cost)) [1] rfl
    have hDc := hD.sub (ws' := (cw_G_cornerBeside a_polygon a_polygon_outlines a_polygon_costs a_polygon_rest a_polygon_restByTwo a_polygon_points a_polygon_xs a_polygon_ys a_polygon_angles a_polygon_turns c_polygon_count c_polygon_cost)) [1] (by decide) rfl
    have hFc := va_free (wc := (cw_G_cornerBeside a_polygon a_polygon_outlines a_polygon_costs a_polygon_rest a_polygon_restByTwo a_polygon_points a_polygon_xs a_polygon_ys a_polygon_angles a_polygon_turns c_polygon_count c_polygon_cost)) hD hS hA [1] rfl
    refine va_calli (va_runV (As := [.int r2, .int x4_l30]) (rest := [.int x4_l30, .ref a_this]) ⟨hx, hb, hml, hown, hts⟩ (c_G_cornerBeside l dC dI cI cB cJ cZ a_polygon a_polygon_outlines a_polygon_costs a_polygon_rest a_polygon_restByTwo a_polygon_points a_polygon_xs a_polygon_ys a_polygon_angles a_polygon_turns H.size c_polygon_count c_polygon_cost r2 x4_l30 Q45 hq45) (cwV 2 hts (goodV q_573 q_535 q_536 q_5 q_537) rfl rfl rfl (by decide +kernel) ⟨Nat.le_of_ble_eq_true rfl, Nat.le_of_ble_eq_true rfl⟩) ⟨fun a U g mk q => by obtain ⟨q0, q1, qP, qK, qD⟩ := q; exact ⟨q0, q1, qP, va_K.moved (u := U) (U := U.calling g mk a) (Vm.Alike.refl U.vm) qK, qD⟩, va_recv hK hPc (ci := 3) (q0 := 0) rfl rfl, fun U hU hW => ⟨rfl, by rw [hU], by rw [hU]; exact hPc, va_K.moved hW.alike hK, hDc.weaken (fun _ _ _ _ => trivial)⟩⟩ rfl rfl hl.1 rfl (lv_room (Nat.le_of_ble_eq_true rfl)) d_C_make_45 ⟨Nat.le_of_ble_eq_true rfl, Nat.le_of_ble_eq_true rfl⟩) hS (fun q _ h => hFc q h) hFc (fun r45 u45 t H1 locs ht hvm hw hB hz1 hk1 hS => ?_)
    cases u45
    obtain ⟨hP1, -, hD1⟩ := hB
    rw [ht] at hP1
    have h := h r45 hw
    obtain ⟨hP, hD⟩ := va_join (wr := [(a_this, .inr (4, [.ref a_polygon, .ref a_fewest, .ref a_takenLengths, .ref a_takenPulls, .ref a_firsts, .ref a_lengths, .ref a_pulls, .ref a_handX, .ref a_handY, .int c_count])), (a_polygon_angles, .inl (cI, n_polygon_angles, .inl f_polygon_angles)), (a_fewest, .inl (cI, n_fewest, .inl f_fewest_l30)), (a_firsts, .inl (cI, n_firsts, .inl f_firsts)), (a_takenLengths, .inl (cI, n_takenLengths, .inl f_takenLengths_l30)), (a_lengths, .inl (cI, n_lengths, .inl f_lengths)), (a_takenPulls, .inl (cI, n_takenPulls, .inl f_takenPulls_l30)), (a_pulls, .inl (cI, n_pulls, .inl f_pulls)), (a_polygon_turns, .inl (cI, n_polygon_turns, .inl f_polygon_turns)), (a_polygon_xs, .inl (cI, n_polygon_xs, .inl f_polygon_xs)), (a_handX, .inl (cI, n_handX, .inl f_handX_l30)), (a_polygon_ys, .inl (cI, n_polygon_ys, .inl f_polygon_ys)), (a_handY, .inl (cI, n_handY, .inl f_handY_l30))]) (w1 := (cw_G_cornerBeside a_polygon a_polygon_outlines a_polygon_costs a_polygon_rest a_polygon_restByTwo a_polygon_points a_polygon_xs a_polygon_ys a_polygon_angles a_polygon_turns c_polygon_count c_polygon_cost)) hP hD [1] [0, 2, 3, 4, 5, 6, 7, 8, 9, 10, 11, 12, 13] rfl rfl (by decide) (by decide) hk1 hFc hP1 hD1
    clear hP1 hD1 hk1 hPc hDc hFc
    generalize H1 = H at hP hS ⊢
    have hP : va_P (dC, dI) vwCl (cw_C_make cI a_this a_polygon a_polygon_angles a_fewest a_firsts a_takenLengths a_lengths a_takenPulls a_pulls a_polygon_turns a_polygon_xs a_handX a_polygon_ys a_handY a_polygon_outlines a_polygon_costs a_polygon_rest a_polygon_restByTwo a_polygon_points n_polygon_angles n_fewest n_firsts n_takenLengths n_lengths n_takenPulls n_pulls n_polygon_turns n_polygon_xs n_handX n_polygon_ys n_handY c_count c_polygon_count c_polygon_cost f_polygon_angles f_fewest_l30 f_firsts f_takenLengths_l30 f_lengths f_takenPulls_l30 f_pulls f_polygon_turns f_polygon_xs f_handX_l30 f_polygon_ys f_handY_l30) H := hP.sub [0, 13, 1, 2, 3, 4, 5, 6, 7, 8, 9, 10, 11, 12] rfl
    have hD : va_D A (cw_C_make cI a_this a_polygon a_polygon_angles a_fewest a_firsts a_takenLengths a_lengths a_takenPulls a_pulls a_polygon_turns a_polygon_xs a_handX a_polygon_ys a_handY a_polygon_outlines a_polygon_costs a_polygon_rest a_polygon_restByTwo a_polygon_points n_polygon_angles n_fewest n_firsts n_takenLengths n_lengths n_takenPulls n_pulls n_polygon_turns n_polygon_xs n_handX n_polygon_ys n_handY c_count c_polygon_count c_polygon_cost f_polygon_angles f_fewest_l30 f_firsts f_takenLengths_l30 f_lengths f_takenPulls_l30 f_pulls f_polygon_turns f_polygon_xs f_handX_l30 f_polygon_ys f_handY_l30) := hD.sub [0, 13, 1, 2, 3, 4, 5, 6, 7, 8, 9, 10, 11, 12] (by decide) rfl
    refine lv_iload_n hx hb d_C_make_48 rfl (lv_at hl 1 rfl) ?_
    refine lv_iload_n hx hb d_C_make_49 rfl (lv_at hl 2 rfl) ?_
    obtain ⟨Q50, hq50, h⟩ := h
    have hPc := hP.sub (ws' := (cw_C_choose cI a_this a_polygon a_polygon_angles a_polygon_turns a_fewest a_polygon_xs a_handX a_polygon_ys a_handY a_takenLengths a_takenPulls a_firsts a_lengths a_pulls a_polygon_outlines a_polygon_costs a_polygon_rest a_polygon_restByTwo a_polygon_points n_polygon_angles n_polygon_turns n_fewest n_polygon_xs n_handX n_polygon_ys n_handY n_takenLengths n_takenPulls c_count c_polygon_count c_polygon_cost f_polygon_angles f_polygon_turns f_fewest_l30 f_polygon_xs f_handX_l30 f_polygon_ys f_handY_l30 f_takenLengths_l30 f_takenPulls_l30)) [0, 1, 2, 9, 3, 10, 11, 12, 13, 5, 7] rfl
    have hDc := hD.sub (ws' := (cw_C_choose cI a_this a_polygon a_polygon_angles a_polygon_turns a_fewest a_polygon_xs a_handX a_polygon_ys a_handY a_takenLengths a_takenPulls a_firsts a_lengths a_pulls a_polygon_outlines a_polygon_costs a_polygon_rest a_polygon_restByTwo a_polygon_points n_polygon_angles n_polygon_turns n_fewest n_polygon_xs n_handX n_polygon_ys n_handY n_takenLengths n_takenPulls c_count c_polygon_count c_polygon_cost f_polygon_angles f_polygon_turns f_fewest_l30 f_polygon_xs f_handX_l30 f_polygon_ys f_handY_l30 f_takenLengths_l30 f_takenPulls_l30)) [0, 1, 2, 9, 3, 10, 11, 12, 13, 5, 7] (by decide) rfl
    have hFc := va_free (wc := (cw_C_choose cI a_this a_polygon a_polygon_angles a_polygon_turns a_fewest a_polygon_xs a_handX a_polygon_ys a_handY a_takenLengths a_takenPulls a_firsts a_lengths a_pulls a_polygon_outlines a_polygon_costs a_polygon_rest a_polygon_restByTwo a_polygon_points n_polygon_angles n_polygon_turns n_fewest n_polygon_xs n_handX n_polygon_ys n_handY n_takenLengths n_takenPulls c_count c_polygon_count c_polygon_cost f_polygon_angles f_polygon_turns f_fewest_l30 f_polygon_xs f_handX_l30 f_polygon_ys f_handY_l30 f_takenLengths_l30 f_takenPulls_l30)) hD hS hA [0, 1, 2, 9, 3, 10, 11, 12, 13, 5, 7] rfl
    refine va_callv (va_runV (As := [.int x4_l30, .int r45, .int x1, .int x2]) (rest := []) ⟨hx, hb, hml, hown, hts⟩ (c_C_choose l dC dI cI cB cJ cZ a_this a_polygon a_polygon_angles a_polygon_turns a_fewest a_polygon_xs a_handX a_polygon_ys a_handY a_takenLengths a_takenPulls a_firsts a_lengths a_pulls a_polygon_outlines a_polygon_costs a_polygon_rest a_polygon_restByTwo a_polygon_points H.size n_polygon_angles n_polygon_turns n_fewest n_polygon_xs n_handX n_polygon_ys n_handY n_takenLengths n_takenPulls c_count c_polygon_count c_polygon_cost f_polygon_angles f_polygon_turns f_fewest_l30 f_polygon_xs f_handX_l30 f_polygon_ys f_handY_l30 f_takenLengths_l30 f_takenPulls_l30 x4_l30 r45 x1 x2 Q50 hq50) (cwV 4 hts (goodV q_574 q_576 q_p22 q_6 q_577) rfl rfl rfl (by decide +kernel) ⟨Nat.le_of_ble_eq_true rfl, Nat.le_of_ble_eq_true rfl⟩) ⟨fun a U g mk q => by obtain ⟨q0, q1, qP, qK, qD⟩ := q; exact ⟨q0, q1, qP, va_K.moved (u := U) (U := U.calling g mk a) (Vm.Alike.refl U.vm) qK, qD⟩, va_recv hK hPc (ci := 4) (q0 := 0) rfl rfl, fun U hU hW => ⟨rfl, by rw [hU], by rw [hU]; exact hPc, va_K.moved hW.alike hK, hDc.weaken (fun _ _ _ _ => trivial)⟩⟩ rfl rfl hl.1 rfl (lv_room (Nat.le_of_ble_eq_true rfl)) d_C_make_50 ⟨Nat.le_of_ble_eq_true rfl, Nat.le_of_ble_eq_true rfl⟩) hS (fun q _ h => hFc q h) hFc (fun u50 t H1 locs ht hvm hw hB hz1 hk1 hS => ?_)
    obtain ⟨u50_0, u50_1, u50_2, u50_3, u50_4⟩ := u50
    obtain ⟨hP1, -, hD1⟩ := hB
    rw [ht] at hP1
    have h := h u50_0 u50_1 u50_2 u50_3 u50_4 hw
    obtain ⟨hP, hD⟩ := va_join (wr := [(a_firsts, .inl (cI, n_firsts, .inl f_firsts)), (a_lengths, .inl (cI, n_lengths, .inl f_lengths)), (a_pulls, .inl (cI, n_pulls, .inl f_pulls))]) (w1 := (cw_C_choose cI a_this a_polygon a_polygon_angles a_polygon_turns a_fewest a_polygon_xs a_handX a_polygon_ys a_handY a_takenLengths a_takenPulls a_firsts a_lengths a_pulls a_polygon_outlines a_polygon_costs a_polygon_rest a_polygon_restByTwo a_polygon_points n_polygon_angles n_polygon_turns n_fewest n_polygon_xs n_handX n_polygon_ys n_handY n_takenLengths n_takenPulls c_count c_polygon_count c_polygon_cost f_polygon_angles f_polygon_turns u50_0 f_polygon_xs u50_1 f_polygon_ys u50_2 u50_3 u50_4)) hP hD [0, 1, 2, 9, 3, 10, 11, 12, 13, 5, 7] [4, 6, 8] rfl rfl (by decide) (by decide) hk1 hFc hP1 hD1
    clear hP1 hD1 hk1 hPc hDc hFc
    generalize H1 = H at hP hS ⊢
    have hP : va_P (dC, dI) vwCl (cw_C_make cI a_this a_polygon a_polygon_angles a_fewest a_firsts a_takenLengths a_lengths a_takenPulls a_pulls a_polygon_turns a_polygon_xs a_handX a_polygon_ys a_handY a_polygon_outlines a_polygon_costs a_polygon_rest a_polygon_restByTwo a_polygon_points n_polygon_angles n_fewest n_firsts n_takenLengths n_lengths n_takenPulls n_pulls n_polygon_turns n_polygon_xs n_handX n_polygon_ys n_handY c_count c_polygon_count c_polygon_cost f_polygon_angles u50_0 f_firsts u50_3 f_lengths u50_4 f_pulls f_polygon_turns f_polygon_xs u50_1 f_polygon_ys u50_2) H := hP.sub [3, 4, 5, 7, 0, 12, 1, 13, 2, 6, 8, 9, 10, 11] rfl
    have hD : va_D A (cw_C_make cI a_this a_polygon a_polygon_angles a_fewest a_firsts a_takenLengths a_lengths a_takenPulls a_pulls a_polygon_turns a_polygon_xs a_handX a_polygon_ys a_handY a_polygon_outlines a_polygon_costs a_polygon_rest a_polygon_restByTwo a_polygon_points n_polygon_angles n_fewest n_firsts n_takenLengths n_lengths n_takenPulls n_pulls n_polygon_turns n_polygon_xs n_handX n_polygon_ys n_handY c_count c_polygon_count c_polygon_cost f_polygon_angles u50_0 f_firsts u50_3 f_lengths u50_4 f_pulls f_polygon_turns f_polygon_xs u50_1 f_polygon_ys u50_2) := hD.sub [3, 4, 5, 7, 0, 12, 1, 13, 2, 6, 8, 9, 10, 11] (by decide) rfl
    obtain ⟨x4_53, e_x4_53⟩ : ∃ y : Int32, y = x4_l30 + (-1 : Int32) := ⟨_, rfl⟩
    have h := h x4_53 e_x4_53
    refine lv_iinc (v := x4_53) (lv' := [(4, .int x4_53), (0, .ref a_this), (1, .int x1), (2, .int x2), (3, .int r2)]) hx hb d_C_make_53 hl (k := 4) rfl (by rw [e_x4_53]; rfl) (by decide) rfl (fun ls hl => ?_)
    refine lv_goto (tgt := 30) hx hb d_C_make_56 (by decide) ?_
    exact hb30 _ h _ _ _ hP hD hS (lv_sub hl [1, 2, 3, 4, 0] rfl)
