def wp_C_ordinate (n_firsts n_lengths n_pulls n_polygon_xs n_handX n_polygon_ys n_handY : Nat) (f_firsts : Nat → Int32) (f_lengths : Nat → Int32) (f_pulls : Nat → Int32) (c_polygon_count : Int32) (f_polygon_xs : Nat → Int32) (f_handX : Nat → Int32) (f_polygon_ys : Nat → Int32) (f_handY : Nat → Int32) (x1 : Int32) (x2 : Int32) (post : Int32 → ((Nat → Int32) × (Nat → Int32)) → Prop) : Prop :=
  vp_in x1 n_firsts ∧ vp_in x1 n_lengths ∧ vp_in x1 n_pulls ∧ ∃ Q19 : ((Nat → Int32) × (Nat → Int32)) → Prop, wp_C_layHand n_polygon_xs n_handX n_polygon_ys n_handY c_polygon_count f_polygon_xs f_handX f_polygon_ys f_handY (f_firsts x1.toNatClampNeg) (f_lengths x1.toNatClampNeg) (f_pulls x1.toNatClampNeg) Q19 ∧ ∀ (u19_0 : Nat → Int32) (u19_1 : Nat → Int32), Q19 (u19_0, u19_1) → ∀ x3_27 : Int32, x3_27 = ((x2 >>> ((1 : Int32) &&& 31)) &&& (3 : Int32)) → (¬ (x2 &&& (1 : Int32)) = 0 → vp_in x3_27 n_handY ∧ post (u19_1 x3_27.toNatClampNeg) (u19_0, u19_1)) ∧ ((x2 &&& (1 : Int32)) = 0 → vp_in x3_27 n_handX ∧ post (u19_0 x3_27.toNatClampNeg) (u19_0, u19_1))
abbrev cw_C_ordinate (cI : ClassId) (a_this a_firsts a_lengths a_pulls a_polygon a_polygon_xs a_handX a_polygon_ys a_handY a_fewest a_takenLengths a_takenPulls a_polygon_outlines a_polygon_costs a_polygon_rest a_polygon_restByTwo a_polygon_points a_polygon_angles a_polygon_turns : Nat) (n_firsts n_lengths n_pulls n_polygon_xs n_handX n_polygon_ys n_handY : Nat) (c_count : Int32) (f_firsts : Nat → Int32) (f_lengths : Nat → Int32) (f_pulls : Nat → Int32) (c_polygon_count : Int32) (c_polygon_cost : Int32) (f_polygon_xs : Nat → Int32) (f_handX : Nat → Int32) (f_polygon_ys : Nat → Int32) (f_handY : Nat → Int32) : va_W := [(a_this, .inr (4, [.ref a_polygon, .ref a_fewest, .ref a_takenLengths, .ref a_takenPulls, .ref a_firsts, .ref a_lengths, .ref a_pulls, .ref a_handX, .ref a_handY, .int c_count])), (a_firsts, .inl (cI, n_firsts, .inl f_firsts)), (a_lengths, .inl (cI, n_lengths, .inl f_lengths)), (a_pulls, .inl (cI, n_pulls, .inl f_pulls)), (a_polygon, .inr (3, [.ref a_polygon_outlines, .ref a_polygon_costs, .ref a_polygon_rest, .ref a_polygon_restByTwo, .ref a_polygon_points, .ref a_polygon_xs, .ref a_polygon_ys, .ref a_polygon_angles, .ref a_polygon_turns, .int c_polygon_count, .int c_polygon_cost])), (a_polygon_xs, .inl (cI, n_polygon_xs, .inl f_polygon_xs)), (a_handX, .inl (cI, n_handX, .inl f_handX)), (a_polygon_ys, .inl (cI, n_polygon_ys, .inl f_polygon_ys)), (a_handY, .inl (cI, n_handY, .inl f_handY))]
abbrev qq_C_ordinate (dC : Nat → ClassId) (dI : Nat → Nat → Nat) (cI cB cJ cZ : ClassId) (a_this a_firsts a_lengths a_pulls a_polygon a_polygon_xs a_handX a_polygon_ys a_handY a_fewest a_takenLengths a_takenPulls a_polygon_outlines a_polygon_costs a_polygon_rest a_polygon_restByTwo a_polygon_points a_polygon_angles a_polygon_turns : Nat) (n_firsts n_lengths n_pulls n_polygon_xs n_handX n_polygon_ys n_handY : Nat) (c_count : Int32) (f_firsts : Nat → Int32) (f_lengths : Nat → Int32) (f_pulls : Nat → Int32) (c_polygon_count : Int32) (c_polygon_cost : Int32) (f_polygon_xs : Nat → Int32) (f_polygon_ys : Nat → Int32) (A : Nat → Prop) (post : Int32 → ((Nat → Int32) × (Nat → Int32)) → Prop) : Array Value → State → Outcome → State → Prop := va_Qi post (fun u t => va_P (dC, dI) vwCl (cw_C_ordinate cI a_this a_firsts a_lengths a_pulls a_polygon a_polygon_xs a_handX a_polygon_ys a_handY a_fewest a_takenLengths a_takenPulls a_polygon_outlines a_polygon_costs a_polygon_rest a_polygon_restByTwo a_polygon_points a_polygon_angles a_polygon_turns n_firsts n_lengths n_pulls n_polygon_xs n_handX n_polygon_ys n_handY c_count f_firsts f_lengths f_pulls c_polygon_count c_polygon_cost f_polygon_xs u.1 f_polygon_ys u.2) t.heap ∧ va_K (dC, dI) vwCl [(cI, .int), (cB, .byte), (cJ, .long), (cZ, .boolean)] t ∧ va_D A (cw_C_ordinate cI a_this a_firsts a_lengths a_pulls a_polygon a_polygon_xs a_handX a_polygon_ys a_handY a_fewest a_takenLengths a_takenPulls a_polygon_outlines a_polygon_costs a_polygon_rest a_polygon_restByTwo a_polygon_points a_polygon_angles a_polygon_turns n_firsts n_lengths n_pulls n_polygon_xs n_handX n_polygon_ys n_handY c_count f_firsts f_lengths f_pulls c_polygon_count c_polygon_cost f_polygon_xs u.1 f_polygon_ys u.2)) A
set_option maxHeartbeats 4000000 in
set_option maxRecDepth 100000 in
theorem c_C_ordinate (l : Launch) (dC : Nat → ClassId) (dI : Nat → Nat → Nat) (cI cB cJ cZ : ClassId) (a_this a_firsts a_lengths a_pulls a_polygon a_polygon_xs a_handX a_polygon_ys a_handY a_fewest a_takenLengths a_takenPulls a_polygon_outlines a_polygon_costs a_polygon_rest a_polygon_restByTwo a_polygon_points a_polygon_angles a_polygon_turns : Nat) (sz : Nat) (n_firsts n_lengths n_pulls n_polygon_xs n_handX n_polygon_ys n_handY : Nat) (c_count : Int32) (f_firsts : Nat → Int32) (f_lengths : Nat → Int32) (f_pulls : Nat → Int32) (c_polygon_count : Int32) (c_polygon_cost : Int32) (f_polygon_xs : Nat → Int32) (f_handX : Nat → Int32) (f_polygon_ys : Nat → Int32) (f_handY : Nat → Int32) (x1 : Int32) (x2 : Int32) (post : Int32 → ((Nat → Int32) × (Nat → Int32)) → Prop) (h : wp_C_ordinate n_firsts n_lengths n_pulls n_polygon_xs n_handX n_polygon_ys n_handY f_firsts f_lengths f_pulls c_polygon_count f_polygon_xs f_handX f_polygon_ys f_handY x1 x2 post) : Met l y_C_ordinate w_C_ordinate ({ frames := 3, cells := 0, slots := 0, locals := 70 }) (va_Pc [.ref a_this, .int x1, .int x2] (fun U => U.heap.size = sz ∧ va_P (dC, dI) vwCl (cw_C_ordinate cI a_this a_firsts a_lengths a_pulls a_polygon a_polygon_xs a_handX a_polygon_ys a_handY a_fewest a_takenLengths a_takenPulls a_polygon_outlines a_polygon_costs a_polygon_rest a_polygon_restByTwo a_polygon_points a_polygon_angles a_polygon_turns n_firsts n_lengths n_pulls n_polygon_xs n_handX n_polygon_ys n_handY c_count f_firsts f_lengths f_pulls c_polygon_count c_polygon_cost f_polygon_xs f_handX f_polygon_ys f_handY) U.heap ∧ va_K (dC, dI) vwCl [(cI, .int), (cB, .byte), (cJ, .long), (cZ, .boolean)] U ∧ va_D (fun _ => True) (cw_C_ordinate cI a_this a_firsts a_lengths a_pulls a_polygon a_polygon_xs a_handX a_polygon_ys a_handY a_fewest a_takenLengths a_takenPulls a_polygon_outlines a_polygon_costs a_polygon_rest a_polygon_restByTwo a_polygon_points a_polygon_angles a_polygon_turns n_firsts n_lengths n_pulls n_polygon_xs n_handX n_polygon_ys n_handY c_count f_firsts f_lengths f_pulls c_polygon_count c_polygon_cost f_polygon_xs f_handX f_polygon_ys f_handY))) (qq_C_ordinate dC dI cI cB cJ cZ a_this a_firsts a_lengths a_pulls a_polygon a_polygon_xs a_handX a_polygon_ys a_handY a_fewest a_takenLengths a_takenPulls a_polygon_outlines a_polygon_costs a_polygon_rest a_polygon_restByTwo a_polygon_points a_polygon_angles a_polygon_turns n_firsts n_lengths n_pulls n_polygon_xs n_handX n_polygon_ys n_handY c_count f_firsts f_lengths f_pulls c_polygon_count c_polygon_cost f_polygon_xs f_polygon_ys (va_A (cw_C_ordinate cI a_this a_firsts a_lengths a_pulls a_polygon a_polygon_xs a_handX a_polygon_ys a_handY a_fewest a_takenLengths a_takenPulls a_polygon_outlines a_polygon_costs a_polygon_rest a_polygon_restByTwo a_polygon_points a_polygon_angles a_polygon_turns n_firsts n_lengths n_pulls n_polygon_xs n_handX n_polygon_ys n_handY c_count f_firsts f_lengths f_pulls c_polygon_count c_polygon_cost f_polygon_xs f_handX f_polygon_ys f_handY) sz) post) 0 0 (va_A (cw_C_ordinate cI a_this a_firsts a_lengths a_pulls a_polygon a_polygon_xs a_handX a_polygon_ys a_handY a_fewest a_takenLengths a_takenPulls a_polygon_outlines a_polygon_costs a_polygon_rest a_polygon_restByTwo a_polygon_points a_polygon_angles a_polygon_turns n_firsts n_lengths n_pulls n_polygon_xs n_handX n_polygon_ys n_handY c_count f_firsts f_lengths f_pulls c_polygon_count c_polygon_cost f_polygon_xs f_handX f_polygon_ys f_handY) sz) := by
  refine Met.ofW (cc := b_C_ordinate) (maxL := 4) (ret := (some .int)) (by decide +kernel) rfl ?_
  intro p e s m args below meth c s₁ B hml hv
  obtain ⟨rfl, hsz, hP, hK, hD0⟩ := hv
  have hx := B.exec
  have hb := B.bytes
  have hr := B.returns
  have hts : ∀ w ∈ allW, w.before _ s = true := fun w hw => atoms_spec (ws := w_C_ordinate) B.pre w (List.mem_cons_of_mem _ hw)
  have hown : s.vm.findClass R_C = some m.cls := findClass_of_methodNamed B.named
  have hlocks := B.notSynchronized
  subst hsz
  have hD := hD0.self (sz := s.heap.size)
  generalize hAe : va_A (cw_C_ordinate cI a_this a_firsts a_lengths a_pulls a_polygon a_polygon_xs a_handX a_polygon_ys a_handY a_fewest a_takenLengths a_takenPulls a_polygon_outlines a_polygon_costs a_polygon_rest a_polygon_restByTwo a_polygon_points a_polygon_angles a_polygon_turns n_firsts n_lengths n_pulls n_polygon_xs n_handX n_polygon_ys n_handY c_count f_firsts f_lengths f_pulls c_polygon_count c_polygon_cost f_polygon_xs f_handX f_polygon_ys f_handY) s.heap.size = A at hD ⊢
  have hA : ∀ q : Nat, s.heap.size ≤ q → A q := fun q h => by rw [← hAe]; exact Or.inr h
  have hS : va_S A s.heap s.heap [] := va_S.rf
  clear hD0
  generalize hQf : MQ below (qq_C_ordinate dC dI cI cB cJ cZ a_this a_firsts a_lengths a_pulls a_polygon a_polygon_xs a_handX a_polygon_ys a_handY a_fewest a_takenLengths a_takenPulls a_polygon_outlines a_polygon_costs a_polygon_rest a_polygon_restByTwo a_polygon_points a_polygon_angles a_polygon_turns n_firsts n_lengths n_pulls n_polygon_xs n_handX n_polygon_ys n_handY c_count f_firsts f_lengths f_pulls c_polygon_count c_polygon_cost f_polygon_xs f_polygon_ys A post) ([.ref a_this, .int x1, .int x2] : List Value).toArray s 0 0 A = Qf
  have hl := lv_entry ([.ref a_this, .int x1, .int x2]) (n := 4) (Nat.le_of_ble_eq_true rfl)
  rw [lg_entry_eq]
  generalize (lg_sl ([.ref a_this, .int x1, .int x2]) ++ List.replicate (4 - (lg_sl ([.ref a_this, .int x1, .int x2])).length) Slot.unset).toArray = ls at hl ⊢
  have hl : lv_has ls 4 [(0, .ref a_this), (1, .int x1), (2, .int x2)] := hl
  unfold wp_C_ordinate at h
  refine lv_aload_n hx hb d_C_ordinate_0 rfl (lv_at hl 0 rfl) ?_
  refine lv_aload_n hx hb d_C_ordinate_1 rfl (lv_at hl 0 rfl) ?_
  refine va_get (D := (dC, dI)) (ci := 4) (v := .ref a_firsts) (C := R_C) (T := F_C) (N := 10) hx hb hts i_C_in hown hK hP 0 rfl rfl 4 (by decide) (hts _ q_163) (fun _ h9 => h9) rfl d_C_ordinate_2 ?_
  refine lv_iload_n hx hb d_C_ordinate_5 rfl (lv_at hl 1 rfl) ?_
  obtain ⟨hin, h⟩ := h
  refine va_iald hx hb hK hP 1 0 rfl rfl hin d_C_ordinate_6 ?_
  refine lv_aload_n hx hb d_C_ordinate_7 rfl (lv_at hl 0 rfl) ?_
  refine va_get (D := (dC, dI)) (ci := 4) (v := .ref a_lengths) (C := R_C) (T := F_C) (N := 10) hx hb hts i_C_in hown hK hP 0 rfl rfl 5 (by decide) (hts _ q_165) (fun _ h9 => h9) rfl d_C_ordinate_8 ?_
  refine lv_iload_n hx hb d_C_ordinate_11 rfl (lv_at hl 1 rfl) ?_
  obtain ⟨hin, h⟩ := h
  refine va_iald hx hb hK hP 2 0 rfl rfl hin d_C_ordinate_12 ?_
  refine lv_aload_n hx hb d_C_ordinate_13 rfl (lv_at hl 0 rfl) ?_
  refine va_get (D := (dC, dI)) (ci := 4) (v := .ref a_pulls) (C := R_C) (T := F_C) (N := 10) hx hb hts i_C_in hown hK hP 0 rfl rfl 6 (by decide) (hts _ q_167) (fun _ h9 => h9) rfl d_C_ordinate_14 ?_
  refine lv_iload_n hx hb d_C_ordinate_17 rfl (lv_at hl 1 rfl) ?_
  obtain ⟨hin, h⟩ := h
  refine va_iald hx hb hK hP 3 0 rfl rfl hin d_C_ordinate_18 ?_
  obtain ⟨Q19, hq19, h⟩ := h
  have hPc := hP.sub (ws' := (cw_C_layHand cI a_this a_polygon a_polygon_xs a_handX a_polygon_ys a_handY a_fewest a_takenLengths a_takenPulls a_firsts a_lengths a_pulls a_polygon_outlines a_polygon_costs a_polygon_rest a_polygon_restByTwo a_polygon_points a_polygon_angles a_polygon_turns n_polygon_xs n_handX n_polygon_ys n_handY c_count c_polygon_count c_polygon_cost f_polygon_xs f_handX f_polygon_ys f_handY)) [0, 4, 5, 6, 7, 8] rfl
  have hDc := hD.sub (ws' := (cw_C_layHand cI a_this a_polygon a_polygon_xs a_handX a_polygon_ys a_handY a_fewest a_takenLengths a_takenPulls a_firsts a_lengths a_pulls a_polygon_outlines a_polygon_costs a_polygon_rest a_polygon_restByTwo a_polygon_points a_polygon_angles a_polygon_turns n_polygon_xs n_handX n_polygon_ys n_handY c_count c_polygon_count c_polygon_cost f_polygon_xs f_handX f_polygon_ys f_handY)) [0, 4, 5, 6, 7, 8] (by decide) rfl
  have hFc := va_free (wc := (cw_C_layHand cI a_this a_polygon a_polygon_xs a_handX a_polygon_ys a_handY a_fewest a_takenLengths a_takenPulls a_firsts a_lengths a_pulls a_polygon_outlines a_polygon_costs a_polygon_rest a_polygon_restByTwo a_polygon_points a_polygon_angles a_polygon_turns n_polygon_xs n_handX n_polygon_ys n_handY c_count c_polygon_count c_polygon_cost f_polygon_xs f_handX f_polygon_ys f_handY)) hD hS hA [0, 4, 5, 6, 7, 8] rfl
  refine va_callv (va_runV (As := [.int (f_firsts x1.toNatClampNeg), .int (f_lengths x1.toNatClampNeg), .int (f_pulls x1.toNatClampNeg)]) (rest := []) ⟨hx, hb, hml, hown, hts⟩ (c_C_layHand l dC dI cI cB cJ cZ a_this a_polygon a_polygon_xs a_handX a_polygon_ys a_handY a_fewest a_takenLengths a_takenPulls a_firsts a_lengths a_pulls a_polygon_outlines a_polygon_costs a_polygon_rest a_polygon_restByTwo a_polygon_points a_polygon_angles a_polygon_turns s.heap.size n_polygon_xs n_handX n_polygon_ys n_handY c_count c_polygon_count c_polygon_cost f_polygon_xs f_handX f_polygon_ys f_handY (f_firsts x1.toNatClampNeg) (f_lengths x1.toNatClampNeg) (f_pulls x1.toNatClampNeg) Q19 hq19) (cwV 3 hts (goodV q_588 q_590 q_p25 q_6 q_591) rfl rfl rfl (by decide +kernel) ⟨Nat.le_of_ble_eq_true rfl, Nat.le_of_ble_eq_true rfl⟩) ⟨fun a U g mk q => by obtain ⟨q0, q1, qP, qK, qD⟩ := q; exact ⟨q0, q1, qP, va_K.moved (u := U) (U := U.calling g mk a) (Vm.Alike.refl U.vm) qK, qD⟩, va_recv hK hPc (ci := 4) (q0 := 0) rfl rfl, fun U hU hW => ⟨rfl, by rw [hU], by rw [hU]; exact hPc, va_K.moved hW.alike hK, hDc.weaken (fun _ _ _ _ => trivial)⟩⟩ rfl rfl hl.1 rfl (lv_room (Nat.le_of_ble_eq_true rfl)) d_C_ordinate_19 ⟨Nat.le_of_ble_eq_true rfl, Nat.le_of_ble_eq_true rfl⟩) hS (fun q _ h => hFc q h) hFc (fun u19 t H1 locs ht hvm hw hB hz1 hk1 hS => ?_)
  obtain ⟨u19_0, u19_1⟩ := u19
  obtain ⟨hP1, -, hD1⟩ := hB
  rw [ht] at hP1
  have h := h u19_0 u19_1 hw
  obtain ⟨hP, hD⟩ := va_join (wr := [(a_firsts, .inl (cI, n_firsts, .inl f_firsts)), (a_lengths, .inl (cI, n_lengths, .inl f_lengths)), (a_pulls, .inl (cI, n_pulls, .inl f_pulls))]) (w1 := (cw_C_layHand cI a_this a_polygon a_polygon_xs a_handX a_polygon_ys a_handY a_fewest a_takenLengths a_takenPulls a_firsts a_lengths a_pulls a_polygon_outlines a_polygon_costs a_polygon_rest a_polygon_restByTwo a_polygon_points a_polygon_angles a_polygon_turns n_polygon_xs n_handX n_polygon_ys n_handY c_count c_polygon_count c_polygon_cost f_polygon_xs u19_0 f_polygon_ys u19_1)) hP hD [0, 4, 5, 6, 7, 8] [1, 2, 3] rfl rfl (by decide) (by decide) hk1 hFc hP1 hD1
  clear hP1 hD1 hk1 hPc hDc hFc
  generalize H1 = H at hP hS ⊢
  have hP : va_P (dC, dI) vwCl (cw_C_ordinate cI a_this a_firsts a_lengths a_pulls a_polygon a_polygon_xs a_handX a_polygon_ys a_handY a_fewest a_takenLengths a_takenPulls a_polygon_outlines a_polygon_costs a_polygon_rest a_polygon_restByTwo a_polygon_points a_polygon_angles a_polygon_turns n_firsts n_lengths n_pulls n_polygon_xs n_handX n_polygon_ys n_handY c_count f_firsts f_lengths f_pulls c_polygon_count c_polygon_cost f_polygon_xs u19_0 f_polygon_ys u19_1) H := hP.sub [3, 0, 1, 2, 4, 5, 6, 7, 8] rfl
  have hD : va_D A (cw_C_ordinate cI a_this a_firsts a_lengths a_pulls a_polygon a_polygon_xs a_handX a_polygon_ys a_handY a_fewest a_takenLengths a_takenPulls a_polygon_outlines a_polygon_costs a_polygon_rest a_polygon_restByTwo a_polygon_points a_polygon_angles a_polygon_turns n_firsts n_lengths n_pulls n_polygon_xs n_handX n_polygon_ys n_handY c_count f_firsts f_lengths f_pulls c_polygon_count c_polygon_cost f_polygon_xs u19_0 f_polygon_ys u19_1) := hD.sub [3, 0, 1, 2, 4, 5, 6, 7, 8] (by decide) rfl
  refine lv_iload_n hx hb d_C_ordinate_22 rfl (lv_at hl 2 rfl) ?_
  refine lv_iconst (v := 1) hx hb d_C_ordinate_23 (by decide) ?_
  refine lv_ishr hx hb d_C_ordinate_24 ?_
  refine lv_iconst (v := 3) hx hb d_C_ordinate_25 (by decide) ?_
  refine lv_iand hx hb d_C_ordinate_26 ?_
  refine lv_topi (fun x3_27 e_x3_27 => ?_)
  have h := h x3_27 e_x3_27
  refine lv_istore_n (lv' := [(3, .int x3_27), (0, .ref a_this), (1, .int x1), (2, .int x2)]) hx hb d_C_ordinate_27 rfl hl (by decide) rfl (fun ls hl => ?_)
  refine lv_iload_n hx hb d_C_ordinate_28 rfl (lv_at hl 3 rfl) ?_
  refine lv_iconst (v := 1) hx hb d_C_ordinate_29 (by decide) ?_
  refine lv_iand hx hb d_C_ordinate_30 ?_
  refine lv_if_ne (tgt := 43) hx hb d_C_ordinate_31 (by decide) (fun cc_ => ?_) (fun cc_ => ?_)
  · have h := h.1 cc_
    refine lv_aload_n hx hb d_C_ordinate_43 rfl (lv_at hl 1 rfl) ?_
    refine va_get (D := (dC, dI)) (ci := 4) (v := .ref a_handY) (C := R_C) (T := F_C) (N := 10) hx hb hts i_C_in hown hK hP 0 rfl rfl 8 (by decide) (hts _ q_170) (fun _ h9 => h9) rfl d_C_ordinate_44 ?_
    refine lv_iload_n hx hb d_C_ordinate_47 rfl (lv_at hl 0 rfl) ?_
    obtain ⟨hin, h⟩ := h
    refine va_iald hx hb hK hP 8 0 rfl rfl hin d_C_ordinate_48 ?_
    subst hQf
    exact W.iret (v := (u19_1 x3_27.toNatClampNeg)) hx hb hr (fun t ht hW => ⟨⟨(u19_1 x3_27.toNatClampNeg), (u19_0, u19_1), rfl, h, by rw [ht]; exact hP, va_K.moved hW.alike hK, hD⟩, hS.F ht⟩) hS.2.2 d_C_ordinate_49
  · have h := h.2 cc_
    refine lv_aload_n hx hb d_C_ordinate_34 rfl (lv_at hl 1 rfl) ?_
    refine va_get (D := (dC, dI)) (ci := 4) (v := .ref a_handX) (C := R_C) (T := F_C) (N := 10) hx hb hts i_C_in hown hK hP 0 rfl rfl 7 (by decide) (hts _ q_169) (fun _ h9 => h9) rfl d_C_ordinate_35 ?_
    refine lv_iload_n hx hb d_C_ordinate_38 rfl (lv_at hl 0 rfl) ?_
    obtain ⟨hin, h⟩ := h
    refine va_iald hx hb hK hP 6 0 rfl rfl hin d_C_ordinate_39 ?_
    refine lv_goto (tgt := 49) hx hb d_C_ordinate_40 (by decide) ?_
    subst hQf
    exact W.iret (v := (u19_0 x3_27.toNatClampNeg)) hx hb hr (fun t ht hW => ⟨⟨(u19_0 x3_27.toNatClampNeg), (u19_0, u19_1), rfl, h, by rw [ht]; exact hP, va_K.moved hW.alike hK, hD⟩, hS.F ht⟩) hS.2.2 d_C_ordinate_49
def wp_C_sharpAt_J37 (n_p0 : Nat) (f_p0 : Nat → Int32) (y0 : Int32) (post : Int32 → Unit → Prop) : Prop :=
  post ((128 : Int32) * y0) ()
def wp_C_sharpAt (n_p0 : Nat) (f_p0 : Nat → Int32) (x1 : Int32) (post : Int32 → Unit → Prop) : Prop :=
  ((4 : Int32) < x1 → vp_in (1 : Int32) n_p0 ∧ vp_in (3 : Int32) n_p0 ∧ wp_C_sharpAt_J37 n_p0 f_p0 ((((8 : Int32) - x1) * (f_p0 (1 : Int32).toNatClampNeg)) + ((x1 - (4 : Int32)) * (f_p0 (3 : Int32).toNatClampNeg))) post) ∧ (¬ (4 : Int32) < x1 → vp_in (0 : Int32) n_p0 ∧ vp_in (1 : Int32) n_p0 ∧ wp_C_sharpAt_J37 n_p0 f_p0 ((((4 : Int32) - x1) * (f_p0 (0 : Int32).toNatClampNeg)) + (x1 * (f_p0 (1 : Int32).toNatClampNeg))) post)
abbrev cw_C_sharpAt (cI : ClassId) (a_p0 : Nat) (n_p0 : Nat) (f_p0 : Nat → Int32) : va_W := [(a_p0, .inl (cI, n_p0, .inl f_p0))]
abbrev qq_C_sharpAt (dC : Nat → ClassId) (dI : Nat → Nat → Nat) (cI cB cJ cZ : ClassId) (a_p0 : Nat) (n_p0 : Nat) (f_p0 : Nat → Int32) (A : Nat → Prop) (post : Int32 → Unit → Prop) : Array Value → State → Outcome → State → Prop := va_Qi post (fun _ t => va_P (dC, dI) vwCl (cw_C_sharpAt cI a_p0 n_p0 f_p0) t.heap ∧ va_K (dC, dI) vwCl [(cI, .int), (cB, .byte), (cJ, .long), (cZ, .boolean)] t ∧ va_D A (cw_C_sharpAt cI a_p0 n_p0 f_p0)) A
set_option maxHeartbeats 4000000 in
set_option maxRecDepth 100000 in
theorem c_C_sharpAt (l : Launch) (dC : Nat → ClassId) (dI : Nat → Nat → Nat) (cI cB cJ cZ : ClassId) (a_p0 : Nat) (sz : Nat) (n_p0 : Nat) (f_p0 : Nat → Int32) (x1 : Int32) (post : Int32 → Unit → Prop) (h : wp_C_sharpAt n_p0 f_p0 x1 post) : Met l y_C_sharpAt w_C_sharpAt ({ frames := 0, cells := 0, slots := 0, locals := 0 }) (va_Pc [.ref a_p0, .int x1] (fun U => U.heap.size = sz ∧ va_P (dC, dI) vwCl (cw_C_sharpAt cI a_p0 n_p0 f_p0) U.heap ∧ va_K (dC, dI) vwCl [(cI, .int), (cB, .byte), (cJ, .long), (cZ, .boolean)] U ∧ va_D (fun _ => True) (cw_C_sharpAt cI a_p0 n_p0 f_p0))) (qq_C_sharpAt dC dI cI cB cJ cZ a_p0 n_p0 f_p0 (va_A (cw_C_sharpAt cI a_p0 n_p0 f_p0) sz) post) 0 0 (va_A (cw_C_sharpAt cI a_p0 n_p0 f_p0) sz) := by
  refine Met.ofW (cc := b_C_sharpAt) (maxL := 3) (ret := (some .int)) (by decide +kernel) rfl ?_
  intro p e s m args below meth c s₁ B hml hv
  obtain ⟨rfl, hsz, hP, hK, hD0⟩ := hv
  have hx := B.exec
  have hb := B.bytes
  have hr := B.returns
  have hts : ∀ w ∈ allW, w.before _ s = true := fun w hw => atoms_spec (ws := w_C_sharpAt) B.pre w (List.mem_cons_of_mem _ hw)
  have hown : s.vm.findClass R_C = some m.cls := findClass_of_methodNamed B.named
  have hlocks := B.notSynchronized
  subst hsz
  have hD := hD0.self (sz := s.heap.size)
  generalize hAe : va_A (cw_C_sharpAt cI a_p0 n_p0 f_p0) s.heap.size = A at hD ⊢
  have hA : ∀ q : Nat, s.heap.size ≤ q → A q := fun q h => by rw [← hAe]; exact Or.inr h
  have hS : va_S A s.heap s.heap [] := va_S.rf
  clear hD0
  generalize hQf : MQ below (qq_C_sharpAt dC dI cI cB cJ cZ a_p0 n_p0 f_p0 A post) ([.ref a_p0, .int x1] : List Value).toArray s 0 0 A = Qf
  have hl := lv_entry ([.ref a_p0, .int x1]) (n := 3) (Nat.le_of_ble_eq_true rfl)
  rw [lg_entry_eq]
  generalize (lg_sl ([.ref a_p0, .int x1]) ++ List.replicate (3 - (lg_sl ([.ref a_p0, .int x1])).length) Slot.unset).toArray = ls at hl ⊢
  have hl : lv_has ls 3 [(0, .ref a_p0), (1, .int x1)] := hl
  unfold wp_C_sharpAt at h
  have J37 : ∀ (y0_j37 : Int32) (H : Heap) (locs : List Loc) (ls : Array Slot), wp_C_sharpAt_J37 n_p0 f_p0 y0_j37 post → va_P (dC, dI) vwCl (cw_C_sharpAt cI a_p0 n_p0 f_p0) H → va_D A (cw_C_sharpAt cI a_p0 n_p0 f_p0) → va_S A s.heap H locs → lv_has ls 3 [] → W p l e (headSpec w_C_sharpAt ({ frames := 0, cells := 0, slots := 0, locals := 0 })).room s m ([.ref a_p0, .int x1] : List Value).toArray below meth c H locs 0 0 Qf (F0 m 37 ls [.int y0_j37]) := by
    intro y0_j37 H locs ls h hP hD hS hl
    unfold wp_C_sharpAt_J37 at h
    refine lv_istore_n (lv' := [(2, .int y0_j37)]) hx hb d_C_sharpAt_37 rfl hl (by decide) rfl (fun ls hl => ?_)
    refine lv_sipush (v := 128) hx hb d_C_sharpAt_38 (by decide) ?_
    refine lv_iload_n hx hb d_C_sharpAt_41 rfl (lv_at hl 0 rfl) ?_
    refine lv_imul hx hb d_C_sharpAt_42 ?_
    subst hQf
    exact W.iret (v := ((128 : Int32) * y0_j37)) hx hb hr (fun t ht hW => ⟨⟨((128 : Int32) * y0_j37), (), rfl, h, by rw [ht]; exact hP, va_K.moved hW.alike hK, hD⟩, hS.F ht⟩) hS.2.2 d_C_sharpAt_43
  refine lv_iload_n hx hb d_C_sharpAt_0 rfl (lv_at hl 1 rfl) ?_
  refine lv_iconst (v := 4) hx hb d_C_sharpAt_1 (by decide) ?_
  refine lv_icmp_gt (tgt := 21) hx hb d_C_sharpAt_2 (by decide) (fun cc_ => ?_) (fun cc_ => ?_)
  · have h := h.1 cc_
    refine lv_bipush (v := 8) hx hb d_C_sharpAt_21 (by decide) ?_
    refine lv_iload_n hx hb d_C_sharpAt_23 rfl (lv_at hl 1 rfl) ?_
    refine lv_isub hx hb d_C_sharpAt_24 ?_
    refine lv_aload_n hx hb d_C_sharpAt_25 rfl (lv_at hl 0 rfl) ?_
    refine lv_iconst (v := 1) hx hb d_C_sharpAt_26 (by decide) ?_
    obtain ⟨hin, h⟩ := h
    refine va_iald hx hb hK hP 0 0 rfl rfl hin d_C_sharpAt_27 ?_
    refine lv_imul hx hb d_C_sharpAt_28 ?_
    refine lv_iload_n hx hb d_C_sharpAt_29 rfl (lv_at hl 1 rfl) ?_
    refine lv_iconst (v := 4) hx hb d_C_sharpAt_30 (by decide) ?_
    refine lv_isub hx hb d_C_sharpAt_31 ?_
    refine lv_aload_n hx hb d_C_sharpAt_32 rfl (lv_at hl 0 rfl) ?_
    refine lv_iconst (v := 3) hx hb d_C_sharpAt_33 (by decide) ?_
    obtain ⟨hin, h⟩ := h
    refine va_iald hx hb hK hP 0 0 rfl rfl hin d_C_sharpAt_34 ?_
    refine lv_imul hx hb d_C_sharpAt_35 ?_
    refine lv_iadd hx hb d_C_sharpAt_36 ?_
    exact J37 ((((8 : Int32) - x1) * (f_p0 (1 : Int32).toNatClampNeg)) + ((x1 - (4 : Int32)) * (f_p0 (3 : Int32).toNatClampNeg))) _ _ _ h hP hD hS (lv_sub hl [] rfl)
  · have h := h.2 cc_
    refine lv_iconst (v := 4) hx hb d_C_sharpAt_5 (by decide) ?_
    refine lv_iload_n hx hb d_C_sharpAt_6 rfl (lv_at hl 1 rfl) ?_
    refine lv_isub hx hb d_C_sharpAt_7 ?_
    refine lv_aload_n hx hb d_C_sharpAt_8 rfl (lv_at hl 0 rfl) ?_
    refine lv_iconst (v := 0) hx hb d_C_sharpAt_9 (by decide) ?_
    obtain ⟨hin, h⟩ := h
    refine va_iald hx hb hK hP 0 0 rfl rfl hin d_C_sharpAt_10 ?_
    refine lv_imul hx hb d_C_sharpAt_11 ?_
    refine lv_iload_n hx hb d_C_sharpAt_12 rfl (lv_at hl 1 rfl) ?_
    refine lv_aload_n hx hb d_C_sharpAt_13 rfl (lv_at hl 0 rfl) ?_
    refine lv_iconst (v := 1) hx hb d_C_sharpAt_14 (by decide) ?_
    obtain ⟨hin, h⟩ := h
    refine va_iald hx hb hK hP 0 0 rfl rfl hin d_C_sharpAt_15 ?_
    refine lv_imul hx hb d_C_sharpAt_16 ?_
    refine lv_iadd hx hb d_C_sharpAt_17 ?_
    refine lv_goto (tgt := 37) hx hb d_C_sharpAt_18 (by decide) ?_
    exact J37 ((((4 : Int32) - x1) * (f_p0 (0 : Int32).toNatClampNeg)) + (x1 * (f_p0 (1 : Int32).toNatClampNeg))) _ _ _ h hP hD hS (lv_sub hl [] rfl)
def wp_C_placeAt (n_firsts n_lengths n_pulls n_polygon_xs n_handX n_polygon_ys n_handY : Nat) (f_firsts : Nat → Int32) (f_lengths : Nat → Int32) (f_pulls : Nat → Int32) (c_polygon_count : Int32) (f_polygon_xs : Nat → Int32) (f_handX : Nat → Int32) (f_polygon_ys : Nat → Int32) (f_handY : Nat → Int32) (x1 : Int32) (x2 : Int32) (x3 : Int32) (post : Int32 → ((Nat → Int32) × (Nat → Int32)) → Prop) : Prop :=
  vp_in x1 n_firsts ∧ vp_in x1 n_lengths ∧ vp_in x1 n_pulls ∧ ∃ Q19 : ((Nat → Int32) × (Nat → Int32)) → Prop, wp_C_layHand n_polygon_xs n_handX n_polygon_ys n_handY c_polygon_count f_polygon_xs f_handX f_polygon_ys f_handY (f_firsts x1.toNatClampNeg) (f_lengths x1.toNatClampNeg) (f_pulls x1.toNatClampNeg) Q19 ∧ ∀ (u19_0 : Nat → Int32) (u19_1 : Nat → Int32), Q19 (u19_0, u19_1) → (¬ x3 = 0 → vp_in x1 n_pulls ∧ (¬ (f_pulls x1.toNatClampNeg) = 0 → ∃ Q60 : Int32 → Unit → Prop, wp_C_cubicAt n_handY u19_1 x2 Q60 ∧ ∀ (r60 : Int32), Q60 r60 () → post r60 (u19_0, u19_1)) ∧ ((f_pulls x1.toNatClampNeg) = 0 → ∃ Q51 : Int32 → Unit → Prop, wp_C_sharpAt n_handY u19_1 x2 Q51 ∧ ∀ (r51 : Int32), Q51 r51 () → post r51 (u19_0, u19_1))) ∧ (x3 = 0 → vp_in x1 n_pulls ∧ (¬ (f_pulls x1.toNatClampNeg) = 0 → ∃ Q60 : Int32 → Unit → Prop, wp_C_cubicAt n_handX u19_0 x2 Q60 ∧ ∀ (r60 : Int32), Q60 r60 () → post r60 (u19_0, u19_1)) ∧ ((f_pulls x1.toNatClampNeg) = 0 → ∃ Q51 : Int32 → Unit → Prop, wp_C_sharpAt n_handX u19_0 x2 Q51 ∧ ∀ (r51 : Int32), Q51 r51 () → post r51 (u19_0, u19_1)))
abbrev cw_C_placeAt (cI : ClassId) (a_this a_firsts a_lengths a_pulls a_polygon a_polygon_xs a_handX a_polygon_ys a_handY a_fewest a_takenLengths a_takenPulls a_polygon_outlines a_polygon_costs a_polygon_rest a_polygon_restByTwo a_polygon_points a_polygon_angles a_polygon_turns : Nat) (n_firsts n_lengths n_pulls n_polygon_xs n_handX n_polygon_ys n_handY : Nat) (c_count : Int32) (f_firsts : Nat → Int32) (f_lengths : Nat → Int32) (f_pulls : Nat → Int32) (c_polygon_count : Int32) (c_polygon_cost : Int32) (f_polygon_xs : Nat → Int32) (f_handX : Nat → Int32) (f_polygon_ys : Nat → Int32) (f_handY : Nat → Int32) : va_W := [(a_this, .inr (4, [.ref a_polygon, .ref a_fewest, .ref a_takenLengths, .ref a_takenPulls, .ref a_firsts, .ref a_lengths, .ref a_pulls, .ref a_handX, .ref a_handY, .int c_count])), (a_firsts, .inl (cI, n_firsts, .inl f_firsts)), (a_lengths, .inl (cI, n_lengths, .inl f_lengths)), (a_pulls, .inl (cI, n_pulls, .inl f_pulls)), (a_polygon, .inr (3, [.ref a_polygon_outlines, .ref a_polygon_costs, .ref a_polygon_rest, .ref a_polygon_restByTwo, .ref a_polygon_points, .ref a_polygon_xs, .ref a_polygon_ys, .ref a_polygon_angles, .ref a_polygon_turns, .int c_polygon_count, .int c_polygon_cost])), (a_polygon_xs, .inl (cI, n_polygon_xs, .inl f_polygon_xs)), (a_handX, .inl (cI, n_handX, .inl f_handX)), (a_polygon_ys, .inl (cI, n_polygon_ys, .inl f_polygon_ys)), (a_handY, .inl (cI, n_handY, .inl f_handY))]
abbrev qq_C_placeAt (dC : Nat → ClassId) (dI : Nat → Nat → Nat) (cI cB cJ cZ : ClassId) (a_this a_firsts a_lengths a_pulls a_polygon a_polygon_xs a_handX a_polygon_ys a_handY a_fewest a_takenLengths a_takenPulls a_polygon_outlines a_polygon_costs a_polygon_rest a_polygon_restByTwo a_polygon_points a_polygon_angles a_polygon_turns : Nat) (n_firsts n_lengths n_pulls n_polygon_xs n_handX n_polygon_ys n_handY : Nat) (c_count : Int32) (f_firsts : Nat → Int32) (f_lengths : Nat → Int32) (f_pulls : Nat → Int32) (c_polygon_count : Int32) (c_polygon_cost : Int32) (f_polygon_xs : Nat → Int32) (f_polygon_ys : Nat → Int32) (A : Nat → Prop) (post : Int32 → ((Nat → Int32) × (Nat → Int32)) → Prop) : Array Value → State → Outcome → State → Prop := va_Qi post (fun u t => va_P (dC, dI) vwCl (cw_C_placeAt cI a_this a_firsts a_lengths a_pulls a_polygon a_polygon_xs a_handX a_polygon_ys a_handY a_fewest a_takenLengths a_takenPulls a_polygon_outlines a_polygon_costs a_polygon_rest a_polygon_restByTwo a_polygon_points a_polygon_angles a_polygon_turns n_firsts n_lengths n_pulls n_polygon_xs n_handX n_polygon_ys n_handY c_count f_firsts f_lengths f_pulls c_polygon_count c_polygon_cost f_polygon_xs u.1 f_polygon_ys u.2) t.heap ∧ va_K (dC, dI) vwCl [(cI, .int), (cB, .byte), (cJ, .long), (cZ, .boolean)] t ∧ va_D A (cw_C_placeAt cI a_this a_firsts a_lengths a_pulls a_polygon a_polygon_xs a_handX a_polygon_ys a_handY a_fewest a_takenLengths a_takenPulls a_polygon_outlines a_polygon_costs a_polygon_rest a_polygon_restByTwo a_polygon_points a_polygon_angles a_polygon_turns n_firsts n_lengths n_pulls n_polygon_xs n_handX n_polygon_ys n_handY c_count f_firsts f_lengths f_pulls c_polygon_count c_polygon_cost f_polygon_xs u.1 f_polygon_ys u.2)) A
set_option maxHeartbeats 4000000 in
set_option maxRecDepth 100000 in
theorem c_C_placeAt (l : Launch) (dC : Nat → ClassId) (dI : Nat → Nat → Nat) (cI cB cJ cZ : ClassId) (a_this a_firsts a_lengths a_pulls a_polygon a_polygon_xs a_handX a_polygon_ys a_handY a_fewest a_takenLengths a_takenPulls a_polygon_outlines a_polygon_costs a_polygon_rest a_polygon_restByTwo a_polygon_points a_polygon_angles a_polygon_turns : Nat) (sz : Nat) (n_firsts n_lengths n_pulls n_polygon_xs n_handX n_polygon_ys n_handY : Nat) (c_count : Int32) (f_firsts : Nat → Int32) (f_lengths : Nat → Int32) (f_pulls : Nat → Int32) (c_polygon_count : Int32) (c_polygon_cost : Int32) (f_polygon_xs : Nat → Int32) (f_handX : Nat → Int32) (f_polygon_ys : Nat → Int32) (f_handY : Nat → Int32) (x1 : Int32) (x2 : Int32) (x3 : Int32) (post : Int32 → ((Nat → Int32) × (Nat → Int32)) → Prop) (h : wp_C_placeAt n_firsts n_lengths n_pulls n_polygon_xs n_handX n_polygon_ys n_handY f_firsts f_lengths f_pulls c_polygon_count f_polygon_xs f_handX f_polygon_ys f_handY x1 x2 x3 post) : Met l y_C_placeAt w_C_placeAt ({ frames := 3, cells := 0, slots := 0, locals := 70 }) (va_Pc [.ref a_this, .int x1, .int x2, .int x3] (fun U => U.heap.size = sz ∧ va_P (dC, dI) vwCl (cw_C_placeAt cI a_this a_firsts a_lengths a_pulls a_polygon a_polygon_xs a_handX a_polygon_ys a_handY a_fewest a_takenLengths a_takenPulls a_polygon_outlines a_polygon_costs a_polygon_rest a_polygon_restByTwo a_polygon_points a_polygon_angles a_polygon_turns n_firsts n_lengths n_pulls n_polygon_xs n_handX n_polygon_ys n_handY c_count f_firsts f_lengths f_pulls c_polygon_count c_polygon_cost f_polygon_xs f_handX f_polygon_ys f_handY) U.heap ∧ va_K (dC, dI) vwCl [(cI, .int), (cB, .byte), (cJ, .long), (cZ, .boolean)] U ∧ va_D (fun _ => True) (cw_C_placeAt cI a_this a_firsts a_lengths a_pulls a_polygon a_polygon_xs a_handX a_polygon_ys a_handY a_fewest a_takenLengths a_takenPulls a_polygon_outlines a_polygon_costs a_polygon_rest a_polygon_restByTwo a_polygon_points a_polygon_angles a_polygon_turns n_firsts n_lengths n_pulls n_polygon_xs n_handX n_polygon_ys n_handY c_count f_firsts f_lengths f_pulls c_polygon_count c_polygon_cost f_polygon_xs f_handX f_polygon_ys f_handY))) (qq_C_placeAt dC dI cI cB cJ cZ a_this a_firsts a_lengths a_pulls a_polygon a_polygon_xs a_handX a_polygon_ys a_handY a_fewest a_takenLengths a_takenPulls a_polygon_outlines a_polygon_costs a_polygon_rest a_polygon_restByTwo a_polygon_points a_polygon_angles a_polygon_turns n_firsts n_lengths n_pulls n_polygon_xs n_handX n_polygon_ys n_handY c_count f_firsts f_lengths f_pulls c_polygon_count c_polygon_cost f_polygon_xs f_polygon_ys (va_A (cw_C_placeAt cI a_this a_firsts a_lengths a_pulls a_polygon a_polygon_xs a_handX a_polygon_ys a_handY a_fewest a_takenLengths a_takenPulls a_polygon_outlines a_polygon_costs a_polygon_rest a_polygon_restByTwo a_polygon_points a_polygon_angles a_polygon_turns n_firsts n_lengths n_pulls n_polygon_xs n_handX n_polygon_ys n_handY c_count f_firsts f_lengths f_pulls c_polygon_count c_polygon_cost f_polygon_xs f_handX f_polygon_ys f_handY) sz) post) 0 0 (va_A (cw_C_placeAt cI a_this a_firsts a_lengths a_pulls a_polygon a_polygon_xs a_handX a_polygon_ys a_handY a_fewest a_takenLengths a_takenPulls a_polygon_outlines a_polygon_costs a_polygon_rest a_polygon_restByTwo a_polygon_points a_polygon_angles a_polygon_turns n_firsts n_lengths n_pulls n_polygon_xs n_handX n_polygon_ys n_handY c_count f_firsts f_lengths f_pulls c_polygon_count c_polygon_cost f_polygon_xs f_handX f_polygon_ys f_handY) sz) := by
  refine Met.ofW (cc := b_C_placeAt) (maxL := 5) (ret := (some .int)) (by decide +kernel) rfl ?_
  intro p e s m args below meth c s₁ B hml hv
  obtain ⟨rfl, hsz, hP, hK, hD0⟩ := hv
  have hx := B.exec
  have hb := B.bytes
  have hr := B.returns
  have hts : ∀ w ∈ allW, w.before _ s = true := fun w hw => atoms_spec (ws := w_C_placeAt) B.pre w (List.mem_cons_of_mem _ hw)
  have hown : s.vm.findClass R_C = some m.cls := findClass_of_methodNamed B.named
  have hlocks := B.notSynchronized
  subst hsz
  have hD := hD0.self (sz := s.heap.size)
  generalize hAe : va_A (cw_C_placeAt cI a_this a_firsts a_lengths a_pulls a_polygon a_polygon_xs a_handX a_polygon_ys a_handY a_fewest a_takenLengths a_takenPulls a_polygon_outlines a_polygon_costs a_polygon_rest a_polygon_restByTwo a_polygon_points a_polygon_angles a_polygon_turns n_firsts n_lengths n_pulls n_polygon_xs n_handX n_polygon_ys n_handY c_count f_firsts f_lengths f_pulls c_polygon_count c_polygon_cost f_polygon_xs f_handX f_polygon_ys f_handY) s.heap.size = A at hD ⊢
  have hA : ∀ q : Nat, s.heap.size ≤ q → A q := fun q h => by rw [← hAe]; exact Or.inr h
  have hS : va_S A s.heap s.heap [] := va_S.rf
  clear hD0
  generalize hQf : MQ below (qq_C_placeAt dC dI cI cB cJ cZ a_this a_firsts a_lengths a_pulls a_polygon a_polygon_xs a_handX a_polygon_ys a_handY a_fewest a_takenLengths a_takenPulls a_polygon_outlines a_polygon_costs a_polygon_rest a_polygon_restByTwo a_polygon_points a_polygon_angles a_polygon_turns n_firsts n_lengths n_pulls n_polygon_xs n_handX n_polygon_ys n_handY c_count f_firsts f_lengths f_pulls c_polygon_count c_polygon_cost f_polygon_xs f_polygon_ys A post) ([.ref a_this, .int x1, .int x2, .int x3] : List Value).toArray s 0 0 A = Qf
  have hl := lv_entry ([.ref a_this, .int x1, .int x2, .int x3]) (n := 5) (Nat.le_of_ble_eq_true rfl)
  rw [lg_entry_eq]
  generalize (lg_sl ([.ref a_this, .int x1, .int x2, .int x3]) ++ List.replicate (5 - (lg_sl ([.ref a_this, .int x1, .int x2, .int x3])).length) Slot.unset).toArray = ls at hl ⊢
  have hl : lv_has ls 5 [(0, .ref a_this), (1, .int x1), (2, .int x2), (3, .int x3)] := hl
  unfold wp_C_placeAt at h
  refine lv_aload_n hx hb d_C_placeAt_0 rfl (lv_at hl 0 rfl) ?_
  refine lv_aload_n hx hb d_C_placeAt_1 rfl (lv_at hl 0 rfl) ?_
  refine va_get (D := (dC, dI)) (ci := 4) (v := .ref a_firsts) (C := R_C) (T := F_C) (N := 10) hx hb hts i_C_in hown hK hP 0 rfl rfl 4 (by decide) (hts _ q_163) (fun _ h9 => h9) rfl d_C_placeAt_2 ?_
  refine lv_iload_n hx hb d_C_placeAt_5 rfl (lv_at hl 1 rfl) ?_
  obtain ⟨hin, h⟩ := h
  refine va_iald hx hb hK hP 1 0 rfl rfl hin d_C_placeAt_6 ?_
  refine lv_aload_n hx hb d_C_placeAt_7 rfl (lv_at hl 0 rfl) ?_
  refine va_get (D := (dC, dI)) (ci := 4) (v := .ref a_lengths) (C := R_C) (T := F_C) (N := 10) hx hb hts i_C_in hown hK hP 0 rfl rfl 5 (by decide) (hts _ q_165) (fun _ h9 => h9) rfl d_C_placeAt_8 ?_
  refine lv_iload_n hx hb d_C_placeAt_11 rfl (lv_at hl 1 rfl) ?_
  obtain ⟨hin, h⟩ := h
  refine va_iald hx hb hK hP 2 0 rfl rfl hin d_C_placeAt_12 ?_
  refine lv_aload_n hx hb d_C_placeAt_13 rfl (lv_at hl 0 rfl) ?_
  refine va_get (D := (dC, dI)) (ci := 4) (v := .ref a_pulls) (C := R_C) (T := F_C) (N := 10) hx hb hts i_C_in hown hK hP 0 rfl rfl 6 (by decide) (hts _ q_167) (fun _ h9 => h9) rfl d_C_placeAt_14 ?_
  refine lv_iload_n hx hb d_C_placeAt_17 rfl (lv_at hl 1 rfl) ?_
  obtain ⟨hin, h⟩ := h
  refine va_iald hx hb hK hP 3 0 rfl rfl hin d_C_placeAt_18 ?_
  obtain ⟨Q19, hq19, h⟩ := h
  have hPc := hP.sub (ws' := (cw_C_layHand cI a_this a_polygon a_polygon_xs a_handX a_polygon_ys a_handY a_fewest a_takenLengths a_takenPulls a_firsts a_lengths a_pulls a_polygon_outlines a_polygon_costs a_polygon_rest a_polygon_restByTwo a_polygon_points a_polygon_angles a_polygon_turns n_polygon_xs n_handX n_polygon_ys n_handY c_count c_polygon_count c_polygon_cost f_polygon_xs f_handX f_polygon_ys f_handY)) [0, 4, 5, 6, 7, 8] rfl
  have hDc := hD.sub (ws' := (cw_C_layHand cI a_this a_polygon a_polygon_xs a_handX a_polygon_ys a_handY a_fewest a_takenLengths a_takenPulls a_firsts a_lengths a_pulls a_polygon_outlines a_polygon_costs a_polygon_rest a_polygon_restByTwo a_polygon_points a_polygon_angles a_polygon_turns n_polygon_xs n_handX n_polygon_ys n_handY c_count c_polygon_count c_polygon_cost f_polygon_xs f_handX f_polygon_ys f_handY)) [0, 4, 5, 6, 7, 8] (by decide) rfl
  have hFc := va_free (wc := (cw_C_layHand cI a_this a_polygon a_polygon_xs a_handX a_polygon_ys a_handY a_fewest a_takenLengths a_takenPulls a_firsts a_lengths a_pulls a_polygon_outlines a_polygon_costs a_polygon_rest a_polygon_restByTwo a_polygon_points a_polygon_angles a_polygon_turns n_polygon_xs n_handX n_polygon_ys n_handY c_count c_polygon_count c_polygon_cost f_polygon_xs f_handX f_polygon_ys f_handY)) hD hS hA [0, 4, 5, 6, 7, 8] rfl
  refine va_callv (va_runV (As := [.int (f_firsts x1.toNatClampNeg), .int (f_lengths x1.toNatClampNeg), .int (f_pulls x1.toNatClampNeg)]) (rest := []) ⟨hx, hb, hml, hown, hts⟩ (c_C_layHand l dC dI cI cB cJ cZ a_this a_polygon a_polygon_xs a_handX a_polygon_ys a_handY a_fewest a_takenLengths a_takenPulls a_firsts a_lengths a_pulls a_polygon_outlines a_polygon_costs a_polygon_rest a_polygon_restByTwo a_polygon_points a_polygon_angles a_polygon_turns s.heap.size n_polygon_xs n_handX n_polygon_ys n_handY c_count c_polygon_count c_polygon_cost f_polygon_xs f_handX f_polygon_ys f_handY (f_firsts x1.toNatClampNeg) (f_lengths x1.toNatClampNeg) (f_pulls x1.toNatClampNeg) Q19 hq19) (cwV 3 hts (goodV q_588 q_590 q_p25 q_6 q_591) rfl rfl rfl (by decide +kernel) ⟨Nat.le_of_ble_eq_true rfl, Nat.le_of_ble_eq_true rfl⟩) ⟨fun a U g mk q => by obtain ⟨q0, q1, qP, qK, qD⟩ := q; exact ⟨q0, q1, qP, va_K.moved (u := U) (U := U.calling g mk a) (Vm.Alike.refl U.vm) qK, qD⟩, va_recv hK hPc (ci := 4) (q0 := 0) rfl rfl, fun U hU hW => ⟨rfl, by rw [hU], by rw [hU]; exact hPc, va_K.moved hW.alike hK, hDc.weaken (fun _ _ _ _ => trivial)⟩⟩ rfl rfl hl.1 rfl (lv_room (Nat.le_of_ble_eq_true rfl)) d_C_placeAt_19 ⟨Nat.le_of_ble_eq_true rfl, Nat.le_of_ble_eq_true rfl⟩) hS (fun q _ h => hFc q h) hFc (fun u19 t H1 locs ht hvm hw hB hz1 hk1 hS => ?_)
  obtain ⟨u19_0, u19_1⟩ := u19
  obtain ⟨hP1, -, hD1⟩ := hB
  rw [ht] at hP1
  have h := h u19_0 u19_1 hw
  obtain ⟨hP, hD⟩ := va_join (wr := [(a_firsts, .inl (cI, n_firsts, .inl f_firsts)), (a_lengths, .inl (cI, n_lengths, .inl f_lengths)), (a_pulls, .inl (cI, n_pulls, .inl f_pulls))]) (w1 := (cw_C_layHand cI a_this a_polygon a_polygon_xs a_handX a_polygon_ys a_handY a_fewest a_takenLengths a_takenPulls a_firsts a_lengths a_pulls a_polygon_outlines a_polygon_costs a_polygon_rest a_polygon_restByTwo a_polygon_points a_polygon_angles a_polygon_turns n_polygon_xs n_handX n_polygon_ys n_handY c_count c_polygon_count c_polygon_cost f_polygon_xs u19_0 f_polygon_ys u19_1)) hP hD [0, 4, 5, 6, 7, 8] [1, 2, 3] rfl rfl (by decide) (by decide) hk1 hFc hP1 hD1
  clear hP1 hD1 hk1 hPc hDc hFc
  generalize H1 = H at hP hS ⊢
  have hP : va_P (dC, dI) vwCl (cw_C_placeAt cI a_this a_firsts a_lengths a_pulls a_polygon a_polygon_xs a_handX a_polygon_ys a_handY a_fewest a_takenLengths a_takenPulls a_polygon_outlines a_polygon_costs a_polygon_rest a_polygon_restByTwo a_polygon_points a_polygon_angles a_polygon_turns n_firsts n_lengths n_pulls n_polygon_xs n_handX n_polygon_ys n_handY c_count f_firsts f_lengths f_pulls c_polygon_count c_polygon_cost f_polygon_xs u19_0 f_polygon_ys u19_1) H := hP.sub [3, 0, 1, 2, 4, 5, 6, 7, 8] rfl
  have hD : va_D A (cw_C_placeAt cI a_this a_firsts a_lengths a_pulls a_polygon a_polygon_xs a_handX a_polygon_ys a_handY a_fewest a_takenLengths a_takenPulls a_polygon_outlines a_polygon_costs a_polygon_rest a_polygon_restByTwo a_polygon_points a_polygon_angles a_polygon_turns n_firsts n_lengths n_pulls n_polygon_xs n_handX n_polygon_ys n_handY c_count f_firsts f_lengths f_pulls c_polygon_count c_polygon_cost f_polygon_xs u19_0 f_polygon_ys u19_1) := hD.sub [3, 0, 1, 2, 4, 5, 6, 7, 8] (by decide) rfl
  refine lv_iload_n hx hb d_C_placeAt_22 rfl (lv_at hl 3 rfl) ?_
  refine lv_if_ne (tgt := 33) hx hb d_C_placeAt_23 (by decide) (fun cc_ => ?_) (fun cc_ => ?_)
  · have h := h.1 cc_
    refine lv_aload_n hx hb d_C_placeAt_33 rfl (lv_at hl 0 rfl) ?_
    refine va_get (D := (dC, dI)) (ci := 4) (v := .ref a_handY) (C := R_C) (T := F_C) (N := 10) hx hb hts i_C_in hown hK hP 0 rfl rfl 8 (by decide) (hts _ q_170) (fun _ h9 => h9) rfl d_C_placeAt_34 ?_
    refine lv_astore (lv' := [(4, .ref a_handY), (0, .ref a_this), (1, .int x1), (2, .int x2), (3, .int x3)]) hx hb d_C_placeAt_37 hl (by decide) rfl (fun ls hl => ?_)
    refine lv_aload_n hx hb d_C_placeAt_39 rfl (lv_at hl 1 rfl) ?_
    refine va_get (D := (dC, dI)) (ci := 4) (v := .ref a_pulls) (C := R_C) (T := F_C) (N := 10) hx hb hts i_C_in hown hK hP 0 rfl rfl 6 (by decide) (hts _ q_167) (fun _ h9 => h9) rfl d_C_placeAt_40 ?_
    refine lv_iload_n hx hb d_C_placeAt_43 rfl (lv_at hl 2 rfl) ?_
    obtain ⟨hin, h⟩ := h
    refine va_iald hx hb hK hP 3 0 rfl rfl hin d_C_placeAt_44 ?_
    refine lv_if_ne (tgt := 57) hx hb d_C_placeAt_45 (by decide) (fun cc_ => ?_) (fun cc_ => ?_)
    · have h := h.1 cc_
      refine lv_aload hx hb d_C_placeAt_57 (lv_at hl 0 rfl) ?_
      refine lv_iload_n hx hb d_C_placeAt_59 rfl (lv_at hl 3 rfl) ?_
      obtain ⟨Q60, hq60, h⟩ := h
      have hPc := hP.sub (ws' := (cw_C_cubicAt cI a_handY n_handY u19_1)) [8] rfl
      have hDc := hD.sub (ws' := (cw_C_cubicAt cI a_handY n_handY u19_1)) [8] (by decide) rfl
      have hFc := va_free (wc := (cw_C_cubicAt cI a_handY n_handY u19_1)) hD hS hA [8] rfl
      refine va_calli (va_runS (As := [.ref a_handY, .int x2]) (rest := []) ⟨hx, hb, hml, hown, hts⟩ (c_C_cubicAt l dC dI cI cB cJ cZ a_handY H.size n_handY u19_1 x2 Q60 hq60) (va_cwS 2 hts (goodS q_599 q_600 q_6 q_601) rfl rfl rfl (by decide +kernel) ⟨Nat.le_of_ble_eq_true rfl, Nat.le_of_ble_eq_true rfl⟩) ⟨fun a U g mk q => by obtain ⟨q0, q1, qP, qK, qD⟩ := q; exact ⟨q0, q1, qP, va_K.moved (u := U) (U := U.calling g mk a) (Vm.Alike.refl U.vm) qK, qD⟩, fun U hU hW => ⟨rfl, by rw [hU], by rw [hU]; exact hPc, va_K.moved hW.alike hK, hDc.weaken (fun _ _ _ _ => trivial)⟩⟩ rfl rfl hl.1 rfl (lv_room (Nat.le_of_ble_eq_true rfl)) d_C_placeAt_60 ⟨Nat.le_of_ble_eq_true rfl, Nat.le_of_ble_eq_true rfl⟩) hS (fun q _ h => hFc q h) hFc (fun r60 u60 t H1 locs ht hvm hw hB hz1 hk1 hS => ?_)
      cases u60
      obtain ⟨hP1, -, hD1⟩ := hB
      rw [ht] at hP1
      have h := h r60 hw
      obtain ⟨hP, hD⟩ := va_join (wr := [(a_this, .inr (4, [.ref a_polygon, .ref a_fewest, .ref a_takenLengths, .ref a_takenPulls, .ref a_firsts, .ref a_lengths, .ref a_pulls, .ref a_handX, .ref a_handY, .int c_count])), (a_firsts, .inl (cI, n_firsts, .inl f_firsts)), (a_lengths, .inl (cI, n_lengths, .inl f_lengths)), (a_pulls, .inl (cI, n_pulls, .inl f_pulls)), (a_polygon, .inr (3, [.ref a_polygon_outlines, .ref a_polygon_costs, .ref a_polygon_rest, .ref a_polygon_restByTwo, .ref a_polygon_points, .ref a_polygon_xs, .ref a_polygon_ys, .ref a_polygon_angles, .ref a_polygon_turns, .int c_polygon_count, .int c_polygon_cost])), (a_polygon_xs, .inl (cI, n_polygon_xs, .inl f_polygon_xs)), (a_handX, .inl (cI, n_handX, .inl u19_0)), (a_polygon_ys, .inl (cI, n_polygon_ys, .inl f_polygon_ys))]) (w1 := (cw_C_cubicAt cI a_handY n_handY u19_1)) hP hD [8] [0, 1, 2, 3, 4, 5, 6, 7] rfl rfl (by decide) (by decide) hk1 hFc hP1 hD1
      clear hP1 hD1 hk1 hPc hDc hFc
      generalize H1 = H at hP hS ⊢
      have hP : va_P (dC, dI) vwCl (cw_C_placeAt cI a_this a_firsts a_lengths a_pulls a_polygon a_polygon_xs a_handX a_polygon_ys a_handY a_fewest a_takenLengths a_takenPulls a_polygon_outlines a_polygon_costs a_polygon_rest a_polygon_restByTwo a_polygon_points a_polygon_angles a_polygon_turns n_firsts n_lengths n_pulls n_polygon_xs n_handX n_polygon_ys n_handY c_count f_firsts f_lengths f_pulls c_polygon_count c_polygon_cost f_polygon_xs u19_0 f_polygon_ys u19_1) H := hP.sub [0, 1, 2, 3, 4, 5, 6, 7, 8] rfl
      have hD : va_D A (cw_C_placeAt cI a_this a_firsts a_lengths a_pulls a_polygon a_polygon_xs a_handX a_polygon_ys a_handY a_fewest a_takenLengths a_takenPulls a_polygon_outlines a_polygon_costs a_polygon_rest a_polygon_restByTwo a_polygon_points a_polygon_angles a_polygon_turns n_firsts n_lengths n_pulls n_polygon_xs n_handX n_polygon_ys n_handY c_count f_firsts f_lengths f_pulls c_polygon_count c_polygon_cost f_polygon_xs u19_0 f_polygon_ys u19_1) := hD.sub [0, 1, 2, 3, 4, 5, 6, 7, 8] (by decide) rfl
      subst hQf
      exact W.iret (v := r60) hx hb hr (fun t ht hW => ⟨⟨r60, (u19_0, u19_1), rfl, h, by rw [ht]; exact hP, va_K.moved hW.alike hK, hD⟩, hS.F ht⟩) hS.2.2 d_C_placeAt_63
    · have h := h.2 cc_
      refine lv_aload hx hb d_C_placeAt_48 (lv_at hl 0 rfl) ?_
      refine lv_iload_n hx hb d_C_placeAt_50 rfl (lv_at hl 3 rfl) ?_
      obtain ⟨Q51, hq51, h⟩ := h
      have hPc := hP.sub (ws' := (cw_C_sharpAt cI a_handY n_handY u19_1)) [8] rfl
      have hDc := hD.sub (ws' := (cw_C_sharpAt cI a_handY n_handY u19_1)) [8] (by decide) rfl
      have hFc := va_free (wc := (cw_C_sharpAt cI a_handY n_handY u19_1)) hD hS hA [8] rfl
      refine va_calli (va_runS (As := [.ref a_handY, .int x2]) (rest := []) ⟨hx, hb, hml, hown, hts⟩ (c_C_sharpAt l dC dI cI cB cJ cZ a_handY H.size n_handY u19_1 x2 Q51 hq51) (va_cwS 2 hts (goodS q_640 q_641 q_6 q_642) rfl rfl rfl (by decide +kernel) ⟨Nat.le_of_ble_eq_true rfl, Nat.le_of_ble_eq_true rfl⟩) ⟨fun a U g mk q => by obtain ⟨q0, q1, qP, qK, qD⟩ := q; exact ⟨q0, q1, qP, va_K.moved (u := U) (U := U.calling g mk a) (Vm.Alike.refl U.vm) qK, qD⟩, fun U hU hW => ⟨rfl, by rw [hU], by rw [hU]; exact hPc, va_K.moved hW.alike hK, hDc.weaken (fun _ _ _ _ => trivial)⟩⟩ rfl rfl hl.1 rfl (lv_room (Nat.le_of_ble_eq_true rfl)) d_C_placeAt_51 ⟨Nat.le_of_ble_eq_true rfl, Nat.le_of_ble_eq_true rfl⟩) hS (fun q _ h => hFc q h) hFc (fun r51 u51 t H1 locs ht hvm hw hB hz1 hk1 hS => ?_)
      cases u51
      obtain ⟨hP1, -, hD1⟩ := hB
      rw [ht] at hP1
      have h := h r51 hw
      obtain ⟨hP, hD⟩ := va_join (wr := [(a_this, .inr (4, [.ref a_polygon, .ref a_fewest, .ref a_takenLengths, .ref a_takenPulls, .ref a_firsts, .ref a_lengths, .ref a_pulls, .ref a_handX, .ref a_handY, .int c_count])), (a_firsts, .inl (cI, n_firsts, .inl f_firsts)), (a_lengths, .inl (cI, n_lengths, .inl f_lengths)), (a_pulls, .inl (cI, n_pulls, .inl f_pulls)), (a_polygon, .inr (3, [.ref a_polygon_outlines, .ref a_polygon_costs, .ref a_polygon_rest, .ref a_polygon_restByTwo, .ref a_polygon_points, .ref a_polygon_xs, .ref a_polygon_ys, .ref a_polygon_angles, .ref a_polygon_turns, .int c_polygon_count, .int c_polygon_cost])), (a_polygon_xs, .inl (cI, n_polygon_xs, .inl f_polygon_xs)), (a_handX, .inl (cI, n_handX, .inl u19_0)), (a_polygon_ys, .inl (cI, n_polygon_ys, .inl f_polygon_ys))]) (w1 := (cw_C_sharpAt cI a_handY n_handY u19_1)) hP hD [8] [0, 1, 2, 3, 4, 5, 6, 7] rfl rfl (by decide) (by decide) hk1 hFc hP1 hD1
      clear hP1 hD1 hk1 hPc hDc hFc
      generalize H1 = H at hP hS ⊢
      have hP : va_P (dC, dI) vwCl (cw_C_placeAt cI a_this a_firsts a_lengths a_pulls a_polygon a_polygon_xs a_handX a_polygon_ys a_handY a_fewest a_takenLengths a_takenPulls a_polygon_outlines a_polygon_costs a_polygon_rest a_polygon_restByTwo a_polygon_points a_polygon_angles a_polygon_turns n_firsts n_lengths n_pulls n_polygon_xs n_handX n_polygon_ys n_handY c_count f_firsts f_lengths f_pulls c_polygon_count c_polygon_cost f_polygon_xs u19_0 f_polygon_ys u19_1) H := hP.sub [0, 1, 2, 3, 4, 5, 6, 7, 8] rfl
      have hD : va_D A (cw_C_placeAt cI a_this a_firsts a_lengths a_pulls a_polygon a_polygon_xs a_handX a_polygon_ys a_handY a_fewest a_takenLengths a_takenPulls a_polygon_outlines a_polygon_costs a_polygon_rest a_polygon_restByTwo a_polygon_points a_polygon_angles a_polygon_turns n_firsts n_lengths n_pulls n_polygon_xs n_handX n_polygon_ys n_handY c_count f_firsts f_lengths f_pulls c_polygon_count c_polygon_cost f_polygon_xs u19_0 f_polygon_ys u19_1) := hD.sub [0, 1, 2, 3, 4, 5, 6, 7, 8] (by decide) rfl
      refine lv_goto (tgt := 63) hx hb d_C_placeAt_54 (by decide) ?_
      subst hQf
      exact W.iret (v := r51) hx hb hr (fun t ht hW => ⟨⟨r51, (u19_0, u19_1), rfl, h, by rw [ht]; exact hP, va_K.moved hW.alike hK, hD⟩, hS.F ht⟩) hS.2.2 d_C_placeAt_63
  · have h := h.2 cc_
    refine lv_aload_n hx hb d_C_placeAt_26 rfl (lv_at hl 0 rfl) ?_
    refine va_get (D := (dC, dI)) (ci := 4) (v := .ref a_handX) (C := R_C) (T := F_C) (N := 10) hx hb hts i_C_in hown hK hP 0 rfl rfl 7 (by decide) (hts _ q_169) (fun _ h9 => h9) rfl d_C_placeAt_27 ?_
    refine lv_goto (tgt := 37) hx hb d_C_placeAt_30 (by decide) ?_
    refine lv_astore (lv' := [(4, .ref a_handX), (0, .ref a_this), (1, .int x1), (2, .int x2), (3, .int x3)]) hx hb d_C_placeAt_37 hl (by decide) rfl (fun ls hl => ?_)
    refine lv_aload_n hx hb d_C_placeAt_39 rfl (lv_at hl 1 rfl) ?_
    refine va_get (D := (dC, dI)) (ci := 4) (v := .ref a_pulls) (C := R_C) (T := F_C) (N := 10) hx hb hts i_C_in hown hK hP 0 rfl rfl 6 (by decide) (hts _ q_167) (fun _ h9 => h9) rfl d_C_placeAt_40 ?_
    refine lv_iload_n hx hb d_C_placeAt_43 rfl (lv_at hl 2 rfl) ?_
    obtain ⟨hin, h⟩ := h
    refine va_iald hx hb hK hP 3 0 rfl rfl hin d_C_placeAt_44 ?_
    refine lv_if_ne (tgt := 57) hx hb d_C_placeAt_45 (by decide) (fun cc_ => ?_) (fun cc_ => ?_)
    · have h := h.1 cc_
      refine lv_aload hx hb d_C_placeAt_57 (lv_at hl 0 rfl) ?_
      refine lv_iload_n hx hb d_C_placeAt_59 rfl (lv_at hl 3 rfl) ?_
      obtain ⟨Q60, hq60, h⟩ := h
      have hPc := hP.sub (ws' := (cw_C_cubicAt cI a_handX n_handX u19_0)) [6] rfl
      have hDc := hD.sub (ws' := (cw_C_cubicAt cI a_handX n_handX u19_0)) [6] (by decide) rfl
      have hFc := va_free (wc := (cw_C_cubicAt cI a_handX n_handX u19_0)) hD hS hA [6] rfl
      refine va_calli (va_runS (As := [.ref a_handX, .int x2]) (rest := []) ⟨hx, hb, hml, hown, hts⟩ (c_C_cubicAt l dC dI cI cB cJ cZ a_handX H.size n_handX u19_0 x2 Q60 hq60) (va_cwS 2 hts (goodS q_599 q_600 q_6 q_601) rfl rfl rfl (by decide +kernel) ⟨Nat.le_of_ble_eq_true rfl, Nat.le_of_ble_eq_true rfl⟩) ⟨fun a U g mk q => by obtain ⟨q0, q1, qP, qK, qD⟩ := q; exact ⟨q0, q1, qP, va_K.moved (u := U) (U := U.calling g mk a) (Vm.Alike.refl U.vm) qK, qD⟩, fun U hU hW => ⟨rfl, by rw [hU], by rw [hU]; exact hPc, va_K.moved hW.alike hK, hDc.weaken (fun _ _ _ _ => trivial)⟩⟩ rfl rfl hl.1 rfl (lv_room (Nat.le_of_ble_eq_true rfl)) d_C_placeAt_60 ⟨Nat.le_of_ble_eq_true rfl, Nat.le_of_ble_eq_true rfl⟩) hS (fun q _ h => hFc q h) hFc (fun r60 u60 t H1 locs ht hvm hw hB hz1 hk1 hS => ?_)
      cases u60
      obtain ⟨hP1, -, hD1⟩ := hB
      rw [ht] at hP1
      have h := h r60 hw
      obtain ⟨hP, hD⟩ := va_join (wr := [(a_this, .inr (4, [.ref a_polygon, .ref a_fewest, .ref a_takenLengths, .ref a_takenPulls, .ref a_firsts, .ref a_lengths, .ref a_pulls, .ref a_handX, .ref a_handY, .int c_count])), (a_firsts, .inl (cI, n_firsts, .inl f_firsts)), (a_lengths, .inl (cI, n_lengths, .inl f_lengths)), (a_pulls, .inl (cI, n_pulls, .inl f_pulls)), (a_polygon, .inr (3, [.ref a_polygon_outlines, .ref a_polygon_costs, .ref a_polygon_rest, .ref a_polygon_restByTwo, .ref a_polygon_points, .ref a_polygon_xs, .ref a_polygon_ys, .ref a_polygon_angles, .ref a_polygon_turns, .int c_polygon_count, .int c_polygon_cost])), (a_polygon_xs, .inl (cI, n_polygon_xs, .inl f_polygon_xs)), (a_polygon_ys, .inl (cI, n_polygon_ys, .inl f_polygon_ys)), (a_handY, .inl (cI, n_handY, .inl u19_1))]) (w1 := (cw_C_cubicAt cI a_handX n_handX u19_0)) hP hD [6] [0, 1, 2, 3, 4, 5, 7, 8] rfl rfl (by decide) (by decide) hk1 hFc hP1 hD1
      clear hP1 hD1 hk1 hPc hDc hFc
      generalize H1 = H at hP hS ⊢
      have hP : va_P (dC, dI) vwCl (cw_C_placeAt cI a_this a_firsts a_lengths a_pulls a_polygon a_polygon_xs a_handX a_polygon_ys a_handY a_fewest a_takenLengths a_takenPulls a_polygon_outlines a_polygon_costs a_polygon_rest a_polygon_restByTwo a_polygon_points a_polygon_angles a_polygon_turns n_firsts n_lengths n_pulls n_polygon_xs n_handX n_polygon_ys n_handY c_count f_firsts f_lengths f_pulls c_polygon_count c_polygon_cost f_polygon_xs u19_0 f_polygon_ys u19_1) H := hP.sub [0, 1, 2, 3, 4, 5, 8, 6, 7] rfl
      have hD : va_D A (cw_C_placeAt cI a_this a_firsts a_lengths a_pulls a_polygon a_polygon_xs a_handX a_polygon_ys a_handY a_fewest a_takenLengths a_takenPulls a_polygon_outlines a_polygon_costs a_polygon_rest a_polygon_restByTwo a_polygon_points a_polygon_angles a_polygon_turns n_firsts n_lengths n_pulls n_polygon_xs n_handX n_polygon_ys n_handY c_count f_firsts f_lengths f_pulls c_polygon_count c_polygon_cost f_polygon_xs u19_0 f_polygon_ys u19_1) := hD.sub [0, 1, 2, 3, 4, 5, 8, 6, 7] (by decide) rfl
      subst hQf
      exact W.iret (v := r60) hx hb hr (fun t ht hW => ⟨⟨r60, (u19_0, u19_1), rfl, h, by rw [ht]; exact hP, va_K.moved hW.alike hK, hD⟩, hS.F ht⟩) hS.2.2 d_C_placeAt_63
    · have h := h.2 cc_
      refine lv_aload hx hb d_C_placeAt_48 (lv_at hl 0 rfl) ?_
      refine lv_iload_n hx hb d_C_placeAt_50 rfl (lv_at hl 3 rfl) ?_
      obtain ⟨Q51, hq51, h⟩ := h
      have hPc := hP.sub (ws' := (cw_C_sharpAt cI a_handX n_handX u19_0)) [6] rfl
      have hDc := hD.sub (ws' := (cw_C_sharpAt cI a_handX n_handX u19_0)) [6] (by decide) rfl
      have hFc := va_free (wc := (cw_C_sharpAt cI a_handX n_handX u19_0)) hD hS hA [6] rfl
      refine va_calli (va_runS (As := [.ref a_handX, .int x2]) (rest := []) ⟨hx, hb, hml, hown, hts⟩ (c_C_sharpAt l dC dI cI cB cJ cZ a_handX H.size n_handX u19_0 x2 Q51 hq51) (va_cwS 2 hts (goodS q_640 q_641 q_6 q_642) rfl rfl rfl (by decide +kernel) ⟨Nat.le_of_ble_eq_true rfl, Nat.le_of_ble_eq_true rfl⟩) ⟨fun a U g mk q => by obtain ⟨q0, q1, qP, qK, qD⟩ := q; exact ⟨q0, q1, qP, va_K.moved (u := U) (U := U.calling g mk a) (Vm.Alike.refl U.vm) qK, qD⟩, fun U hU hW => ⟨rfl, by rw [hU], by rw [hU]; exact hPc, va_K.moved hW.alike hK, hDc.weaken (fun _ _ _ _ => trivial)⟩⟩ rfl rfl hl.1 rfl (lv_room (Nat.le_of_ble_eq_true rfl)) d_C_placeAt_51 ⟨Nat.le_of_ble_eq_true rfl, Nat.le_of_ble_eq_true rfl⟩) hS (fun q _ h => hFc q h) hFc (fun r51 u51 t H1 locs ht hvm hw hB hz1 hk1 hS => ?_)
      cases u51
      obtain ⟨hP1, -, hD1⟩ := hB
      rw [ht] at hP1
      have h := h r51 hw
      obtain ⟨hP, hD⟩ := va_join (wr := [(a_this, .inr (4, [.ref a_polygon, .ref a_fewest, .ref a_takenLengths, .ref a_takenPulls, .ref a_firsts, .ref a_lengths, .ref a_pulls, .ref a_handX, .ref a_handY, .int c_count])), (a_firsts, .inl (cI, n_firsts, .inl f_firsts)), (a_lengths, .inl (cI, n_lengths, .inl f_lengths)), (a_pulls, .inl (cI, n_pulls, .inl f_pulls)), (a_polygon, .inr (3, [.ref a_polygon_outlines, .ref a_polygon_costs, .ref a_polygon_rest, .ref a_polygon_restByTwo, .ref a_polygon_points, .ref a_polygon_xs, .ref a_polygon_ys, .ref a_polygon_angles, .ref a_polygon_turns, .int c_polygon_count, .int c_polygon_cost])), (a_polygon_xs, .inl (cI, n_polygon_xs, .inl f_polygon_xs)), (a_polygon_ys, .inl (cI, n_polygon_ys, .inl f_polygon_ys)), (a_handY, .inl (cI, n_handY, .inl u19_1))]) (w1 := (cw_C_sharpAt cI a_handX n_handX u19_0)) hP hD [6] [0, 1, 2, 3, 4, 5, 7, 8] rfl rfl (by decide) (by decide) hk1 hFc hP1 hD1
      clear hP1 hD1 hk1 hPc hDc hFc
      generalize H1 = H at hP hS ⊢
      have hP : va_P (dC, dI) vwCl (cw_C_placeAt cI a_this a_firsts a_lengths a_pulls a_polygon a_polygon_xs a_handX a_polygon_ys a_handY a_fewest a_takenLengths a_takenPulls a_polygon_outlines a_polygon_costs a_polygon_rest a_polygon_restByTwo a_polygon_points a_polygon_angles a_polygon_turns n_firsts n_lengths n_pulls n_polygon_xs n_handX n_polygon_ys n_handY c_count f_firsts f_lengths f_pulls c_polygon_count c_polygon_cost f_polygon_xs u19_0 f_polygon_ys u19_1) H := hP.sub [0, 1, 2, 3, 4, 5, 8, 6, 7] rfl
      have hD : va_D A (cw_C_placeAt cI a_this a_firsts a_lengths a_pulls a_polygon a_polygon_xs a_handX a_polygon_ys a_handY a_fewest a_takenLengths a_takenPulls a_polygon_outlines a_polygon_costs a_polygon_rest a_polygon_restByTwo a_polygon_points a_polygon_angles a_polygon_turns n_firsts n_lengths n_pulls n_polygon_xs n_handX n_polygon_ys n_handY c_count f_firsts f_lengths f_pulls c_polygon_count c_polygon_cost f_polygon_xs u19_0 f_polygon_ys u19_1) := hD.sub [0, 1, 2, 3, 4, 5, 8, 6, 7] (by decide) rfl
      refine lv_goto (tgt := 63) hx hb d_C_placeAt_54 (by decide) ?_
      subst hQf
      exact W.iret (v := r51) hx hb hr (fun t ht hW => ⟨⟨r51, (u19_0, u19_1), rfl, h, by rw [ht]; exact hP, va_K.moved hW.alike hK, hD⟩, hS.F ht⟩) hS.2.2 d_C_placeAt_63
def wp_C_isNear (n_firsts n_lengths n_pulls n_polygon_xs n_handX n_polygon_ys n_handY : Nat) (f_firsts : Nat → Int32) (f_lengths : Nat → Int32) (f_pulls : Nat → Int32) (c_polygon_count : Int32) (f_polygon_xs : Nat → Int32) (f_handX : Nat → Int32) (f_polygon_ys : Nat → Int32) (f_handY : Nat → Int32) (x1 : Int32) (x2 : Int32) (x3 : Int32) (post : Int32 → ((Nat → Int32) × (Nat → Int32)) → Prop) : Prop :=
  vp_in x1 n_firsts ∧ vp_in x1 n_lengths ∧ ∃ Q17 : Int32 → ((Nat → Int32) × (Nat → Int32)) → Prop, wp_C_placeAt n_firsts n_lengths n_pulls n_polygon_xs n_handX n_polygon_ys n_handY f_firsts f_lengths f_pulls c_polygon_count f_polygon_xs f_handX f_polygon_ys f_handY x1 x2 (0 : Int32) Q17 ∧ ∀ (r17 : Int32) (u17_0 : Nat → Int32) (u17_1 : Nat → Int32), Q17 r17 (u17_0, u17_1) → ∃ Q24 : Int32 → ((Nat → Int32) × (Nat → Int32)) → Prop, wp_C_placeAt n_firsts n_lengths n_pulls n_polygon_xs n_handX n_polygon_ys n_handY f_firsts f_lengths f_pulls c_polygon_count f_polygon_xs u17_0 f_polygon_ys u17_1 x1 x2 (1 : Int32) Q24 ∧ ∀ (r24 : Int32) (u24_0 : Nat → Int32) (u24_1 : Nat → Int32), Q24 r24 (u24_0, u24_1) → ∃ Q28 : Int32 → Unit → Prop, wp_C_nearLines n_polygon_xs n_polygon_ys c_polygon_count f_polygon_xs f_polygon_ys (f_firsts x1.toNatClampNeg) (f_lengths x1.toNatClampNeg) r17 r24 x3 Q28 ∧ ∀ (r28 : Int32), Q28 r28 () → (r28 = 0 ∨ r28 = 1) ∧ post r28 (u24_0, u24_1)
abbrev cw_C_isNear (cI : ClassId) (a_this a_firsts a_lengths a_pulls a_polygon a_polygon_xs a_handX a_polygon_ys a_handY a_fewest a_takenLengths a_takenPulls a_polygon_outlines a_polygon_costs a_polygon_rest a_polygon_restByTwo a_polygon_points a_polygon_angles a_polygon_turns : Nat) (n_firsts n_lengths n_pulls n_polygon_xs n_handX n_polygon_ys n_handY : Nat) (c_count : Int32) (f_firsts : Nat → Int32) (f_lengths : Nat → Int32) (f_pulls : Nat → Int32) (c_polygon_count : Int32) (c_polygon_cost : Int32) (f_polygon_xs : Nat → Int32) (f_handX : Nat → Int32) (f_polygon_ys : Nat → Int32) (f_handY : Nat → Int32) : va_W := [(a_this, .inr (4, [.ref a_polygon, .ref a_fewest, .ref a_takenLengths, .ref a_takenPulls, .ref a_firsts, .ref a_lengths, .ref a_pulls, .ref a_handX, .ref a_handY, .int c_count])), (a_firsts, .inl (cI, n_firsts, .inl f_firsts)), (a_lengths, .inl (cI, n_lengths, .inl f_lengths)), (a_pulls, .inl (cI, n_pulls, .inl f_pulls)), (a_polygon, .inr (3, [.ref a_polygon_outlines, .ref a_polygon_costs, .ref a_polygon_rest, .ref a_polygon_restByTwo, .ref a_polygon_points, .ref a_polygon_xs, .ref a_polygon_ys, .ref a_polygon_angles, .ref a_polygon_turns, .int c_polygon_count, .int c_polygon_cost])), (a_polygon_xs, .inl (cI, n_polygon_xs, .inl f_polygon_xs)), (a_handX, .inl (cI, n_handX, .inl f_handX)), (a_polygon_ys, .inl (cI, n_polygon_ys, .inl f_polygon_ys)), (a_handY, .inl (cI, n_handY, .inl f_handY))]
abbrev qq_C_isNear (dC : Nat → ClassId) (dI : Nat → Nat → Nat) (cI cB cJ cZ : ClassId) (a_this a_firsts a_lengths a_pulls a_polygon a_polygon_xs a_handX a_polygon_ys a_handY a_fewest a_takenLengths a_takenPulls a_polygon_outlines a_polygon_costs a_polygon_rest a_polygon_restByTwo a_polygon_points a_polygon_angles a_polygon_turns : Nat) (n_firsts n_lengths n_pulls n_polygon_xs n_handX n_polygon_ys n_handY : Nat) (c_count : Int32) (f_firsts : Nat → Int32) (f_lengths : Nat → Int32) (f_pulls : Nat → Int32) (c_polygon_count : Int32) (c_polygon_cost : Int32) (f_polygon_xs : Nat → Int32) (f_polygon_ys : Nat → Int32) (A : Nat → Prop) (post : Int32 → ((Nat → Int32) × (Nat → Int32)) → Prop) : Array Value → State → Outcome → State → Prop := va_Qi post (fun u t => va_P (dC, dI) vwCl (cw_C_isNear cI a_this a_firsts a_lengths a_pulls a_polygon a_polygon_xs a_handX a_polygon_ys a_handY a_fewest a_takenLengths a_takenPulls a_polygon_outlines a_polygon_costs a_polygon_rest a_polygon_restByTwo a_polygon_points a_polygon_angles a_polygon_turns n_firsts n_lengths n_pulls n_polygon_xs n_handX n_polygon_ys n_handY c_count f_firsts f_lengths f_pulls c_polygon_count c_polygon_cost f_polygon_xs u.1 f_polygon_ys u.2) t.heap ∧ va_K (dC, dI) vwCl [(cI, .int), (cB, .byte), (cJ, .long), (cZ, .boolean)] t ∧ va_D A (cw_C_isNear cI a_this a_firsts a_lengths a_pulls a_polygon a_polygon_xs a_handX a_polygon_ys a_handY a_fewest a_takenLengths a_takenPulls a_polygon_outlines a_polygon_costs a_polygon_rest a_polygon_restByTwo a_polygon_points a_polygon_angles a_polygon_turns n_firsts n_lengths n_pulls n_polygon_xs n_handX n_polygon_ys n_handY c_count f_firsts f_lengths f_pulls c_polygon_count c_polygon_cost f_polygon_xs u.1 f_polygon_ys u.2)) A
set_option maxHeartbeats 4000000 in
set_option maxRecDepth 100000 in
theorem c_C_isNear (l : Launch) (dC : Nat → ClassId) (dI : Nat → Nat → Nat) (cI cB cJ cZ : ClassId) (a_this a_firsts a_lengths a_pulls a_polygon a_polygon_xs a_handX a_polygon_ys a_handY a_fewest a_takenLengths a_takenPulls a_polygon_outlines a_polygon_costs a_polygon_rest a_polygon_restByTwo a_polygon_points a_polygon_angles a_polygon_turns : Nat) (sz : Nat) (n_firsts n_lengths n_pulls n_polygon_xs n_handX n_polygon_ys n_handY : Nat) (c_count : Int32) (f_firsts : Nat → Int32) (f_lengths : Nat → Int32) (f_pulls : Nat → Int32) (c_polygon_count : Int32) (c_polygon_cost : Int32) (f_polygon_xs : Nat → Int32) (f_handX : Nat → Int32) (f_polygon_ys : Nat → Int32) (f_handY : Nat → Int32) (x1 : Int32) (x2 : Int32) (x3 : Int32) (post : Int32 → ((Nat → Int32) × (Nat → Int32)) → Prop) (h : wp_C_isNear n_firsts n_lengths n_pulls n_polygon_xs n_handX n_polygon_ys n_handY f_firsts f_lengths f_pulls c_polygon_count f_polygon_xs f_handX f_polygon_ys f_handY x1 x2 x3 post) : Met l y_C_isNear w_C_isNear ({ frames := 4, cells := 0, slots := 0, locals := 94 }) (va_Pc [.ref a_this, .int x1, .int x2, .int x3] (fun U => U.heap.size = sz ∧ va_P (dC, dI) vwCl (cw_C_isNear cI a_this a_firsts a_lengths a_pulls a_polygon a_polygon_xs a_handX a_polygon_ys a_handY a_fewest a_takenLengths a_takenPulls a_polygon_outlines a_polygon_costs a_polygon_rest a_polygon_restByTwo a_polygon_points a_polygon_angles a_polygon_turns n_firsts n_lengths n_pulls n_polygon_xs n_handX n_polygon_ys n_handY c_count f_firsts f_lengths f_pulls c_polygon_count c_polygon_cost f_polygon_xs f_handX f_polygon_ys f_handY) U.heap ∧ va_K (dC, dI) vwCl [(cI, .int), (cB, .byte), (cJ, .long), (cZ, .boolean)] U ∧ va_D (fun _ => True) (cw_C_isNear cI a_this a_firsts a_lengths a_pulls a_polygon a_polygon_xs a_handX a_polygon_ys a_handY a_fewest a_takenLengths a_takenPulls a_polygon_outlines a_polygon_costs a_polygon_rest a_polygon_restByTwo a_polygon_points a_polygon_angles a_polygon_turns n_firsts n_lengths n_pulls n_polygon_xs n_handX n_polygon_ys n_handY c_count f_firsts f_lengths f_pulls c_polygon_count c_polygon_cost f_polygon_xs f_handX f_polygon_ys f_handY))) (qq_C_isNear dC dI cI cB cJ cZ a_this a_firsts a_lengths a_pulls a_polygon a_polygon_xs a_handX a_polygon_ys a_handY a_fewest a_takenLengths a_takenPulls a_polygon_outlines a_polygon_costs a_polygon_rest a_polygon_restByTwo a_polygon_points a_polygon_angles a_polygon_turns n_firsts n_lengths n_pulls n_polygon_xs n_handX n_polygon_ys n_handY c_count f_firsts f_lengths f_pulls c_polygon_count c_polygon_cost f_polygon_xs f_polygon_ys (va_A (cw_C_isNear cI a_this a_firsts a_lengths a_pulls a_polygon a_polygon_xs a_handX a_polygon_ys a_handY a_fewest a_takenLengths a_takenPulls a_polygon_outlines a_polygon_costs a_polygon_rest a_polygon_restByTwo a_polygon_points a_polygon_angles a_polygon_turns n_firsts n_lengths n_pulls n_polygon_xs n_handX n_polygon_ys n_handY c_count f_firsts f_lengths f_pulls c_polygon_count c_polygon_cost f_polygon_xs f_handX f_polygon_ys f_handY) sz) post) 0 0 (va_A (cw_C_isNear cI a_this a_firsts a_lengths a_pulls a_polygon a_polygon_xs a_handX a_polygon_ys a_handY a_fewest a_takenLengths a_takenPulls a_polygon_outlines a_polygon_costs a_polygon_rest a_polygon_restByTwo a_polygon_points a_polygon_angles a_polygon_turns n_firsts n_lengths n_pulls n_polygon_xs n_handX n_polygon_ys n_handY c_count f_firsts f_lengths f_pulls c_polygon_count c_polygon_cost f_polygon_xs f_handX f_polygon_ys f_handY) sz) := by
  refine Met.ofW (cc := b_C_isNear) (maxL := 4) (ret := (some .boolean)) (by decide +kernel) rfl ?_
  intro p e s m args below meth c s₁ B hml hv
  obtain ⟨rfl, hsz, hP, hK, hD0⟩ := hv
  have hx := B.exec
  have hb := B.bytes
  have hr := B.returns
  have hts : ∀ w ∈ allW, w.before _ s = true := fun w hw => atoms_spec (ws := w_C_isNear) B.pre w (List.mem_cons_of_mem _ hw)
  have hown : s.vm.findClass R_C = some m.cls := findClass_of_methodNamed B.named
  have hlocks := B.notSynchronized
  subst hsz
  have hD := hD0.self (sz := s.heap.size)
  generalize hAe : va_A (cw_C_isNear cI a_this a_firsts a_lengths a_pulls a_polygon a_polygon_xs a_handX a_polygon_ys a_handY a_fewest a_takenLengths a_takenPulls a_polygon_outlines a_polygon_costs a_polygon_rest a_polygon_restByTwo a_polygon_points a_polygon_angles a_polygon_turns n_firsts n_lengths n_pulls n_polygon_xs n_handX n_polygon_ys n_handY c_count f_firsts f_lengths f_pulls c_polygon_count c_polygon_cost f_polygon_xs f_handX f_polygon_ys f_handY) s.heap.size = A at hD ⊢
  have hA : ∀ q : Nat, s.heap.size ≤ q → A q := fun q h => by rw [← hAe]; exact Or.inr h
  have hS : va_S A s.heap s.heap [] := va_S.rf
  clear hD0
  generalize hQf : MQ below (qq_C_isNear dC dI cI cB cJ cZ a_this a_firsts a_lengths a_pulls a_polygon a_polygon_xs a_handX a_polygon_ys a_handY a_fewest a_takenLengths a_takenPulls a_polygon_outlines a_polygon_costs a_polygon_rest a_polygon_restByTwo a_polygon_points a_polygon_angles a_polygon_turns n_firsts n_lengths n_pulls n_polygon_xs n_handX n_polygon_ys n_handY c_count f_firsts f_lengths f_pulls c_polygon_count c_polygon_cost f_polygon_xs f_polygon_ys A post) ([.ref a_this, .int x1, .int x2, .int x3] : List Value).toArray s 0 0 A = Qf
  have hl := lv_entry ([.ref a_this, .int x1, .int x2, .int x3]) (n := 4) (Nat.le_of_ble_eq_true rfl)
  rw [lg_entry_eq]
  generalize (lg_sl ([.ref a_this, .int x1, .int x2, .int x3]) ++ List.replicate (4 - (lg_sl ([.ref a_this, .int x1, .int x2, .int x3])).length) Slot.unset).toArray = ls at hl ⊢
  have hl : lv_has ls 4 [(0, .ref a_this), (1, .int x1), (2, .int x2), (3, .int x3)] := hl
  unfold wp_C_isNear at h
  refine lv_aload_n hx hb d_C_isNear_0 rfl (lv_at hl 0 rfl) ?_
  refine lv_aload_n hx hb d_C_isNear_1 rfl (lv_at hl 0 rfl) ?_
  refine va_get (D := (dC, dI)) (ci := 4) (v := .ref a_firsts) (C := R_C) (T := F_C) (N := 10) hx hb hts i_C_in hown hK hP 0 rfl rfl 4 (by decide) (hts _ q_163) (fun _ h9 => h9) rfl d_C_isNear_2 ?_
  refine lv_iload_n hx hb d_C_isNear_5 rfl (lv_at hl 1 rfl) ?_
  obtain ⟨hin, h⟩ := h
  refine va_iald hx hb hK hP 1 0 rfl rfl hin d_C_isNear_6 ?_
  refine lv_aload_n hx hb d_C_isNear_7 rfl (lv_at hl 0 rfl) ?_
  refine va_get (D := (dC, dI)) (ci := 4) (v := .ref a_lengths) (C := R_C) (T := F_C) (N := 10) hx hb hts i_C_in hown hK hP 0 rfl rfl 5 (by decide) (hts _ q_165) (fun _ h9 => h9) rfl d_C_isNear_8 ?_
  refine lv_iload_n hx hb d_C_isNear_11 rfl (lv_at hl 1 rfl) ?_
  obtain ⟨hin, h⟩ := h
  refine va_iald hx hb hK hP 2 0 rfl rfl hin d_C_isNear_12 ?_
  refine lv_aload_n hx hb d_C_isNear_13 rfl (lv_at hl 0 rfl) ?_
  refine lv_iload_n hx hb d_C_isNear_14 rfl (lv_at hl 1 rfl) ?_
  refine lv_iload_n hx hb d_C_isNear_15 rfl (lv_at hl 2 rfl) ?_
  refine lv_iconst (v := 0) hx hb d_C_isNear_16 (by decide) ?_
  obtain ⟨Q17, hq17, h⟩ := h
  have hPc := hP.sub (ws' := (cw_C_placeAt cI a_this a_firsts a_lengths a_pulls a_polygon a_polygon_xs a_handX a_polygon_ys a_handY a_fewest a_takenLengths a_takenPulls a_polygon_outlines a_polygon_costs a_polygon_rest a_polygon_restByTwo a_polygon_points a_polygon_angles a_polygon_turns n_firsts n_lengths n_pulls n_polygon_xs n_handX n_polygon_ys n_handY c_count f_firsts f_lengths f_pulls c_polygon_count c_polygon_cost f_polygon_xs f_handX f_polygon_ys f_handY)) [0, 1, 2, 3, 4, 5, 6, 7, 8] rfl
  have hDc := hD.sub (ws' := (cw_C_placeAt cI a_this a_firsts a_lengths a_pulls a_polygon a_polygon_xs a_handX a_polygon_ys a_handY a_fewest a_takenLengths a_takenPulls a_polygon_outlines a_polygon_costs a_polygon_rest a_polygon_restByTwo a_polygon_points a_polygon_angles a_polygon_turns n_firsts n_lengths n_pulls n_polygon_xs n_handX n_polygon_ys n_handY c_count f_firsts f_lengths f_pulls c_polygon_count c_polygon_cost f_polygon_xs f_handX f_polygon_ys f_handY)) [0, 1, 2, 3, 4, 5, 6, 7, 8] (by decide) rfl
  have hFc := va_free (wc := (cw_C_placeAt cI a_this a_firsts a_lengths a_pulls a_polygon a_polygon_xs a_handX a_polygon_ys a_handY a_fewest a_takenLengths a_takenPulls a_polygon_outlines a_polygon_costs a_polygon_rest a_polygon_restByTwo a_polygon_points a_polygon_angles a_polygon_turns n_firsts n_lengths n_pulls n_polygon_xs n_handX n_polygon_ys n_handY c_count f_firsts f_lengths f_pulls c_polygon_count c_polygon_cost f_polygon_xs f_handX f_polygon_ys f_handY)) hD hS hA [0, 1, 2, 3, 4, 5, 6, 7, 8] rfl
  refine va_calli (va_runV (As := [.int x1, .int x2, .int (0 : Int32)]) (rest := [.int (f_lengths x1.toNatClampNeg), .int (f_firsts x1.toNatClampNeg), .ref a_this]) ⟨hx, hb, hml, hown, hts⟩ (c_C_placeAt l dC dI cI cB cJ cZ a_this a_firsts a_lengths a_pulls a_polygon a_polygon_xs a_handX a_polygon_ys a_handY a_fewest a_takenLengths a_takenPulls a_polygon_outlines a_polygon_costs a_polygon_rest a_polygon_restByTwo a_polygon_points a_polygon_angles a_polygon_turns s.heap.size n_firsts n_lengths n_pulls n_polygon_xs n_handX n_polygon_ys n_handY c_count f_firsts f_lengths f_pulls c_polygon_count c_polygon_cost f_polygon_xs f_handX f_polygon_ys f_handY x1 x2 (0 : Int32) Q17 hq17) (cwV 3 hts (goodV q_654 q_637 q_638 q_6 q_639) rfl rfl rfl (by decide +kernel) ⟨Nat.le_of_ble_eq_true rfl, Nat.le_of_ble_eq_true rfl⟩) ⟨fun a U g mk q => by obtain ⟨q0, q1, qP, qK, qD⟩ := q; exact ⟨q0, q1, qP, va_K.moved (u := U) (U := U.calling g mk a) (Vm.Alike.refl U.vm) qK, qD⟩, va_recv hK hPc (ci := 4) (q0 := 0) rfl rfl, fun U hU hW => ⟨rfl, by rw [hU], by rw [hU]; exact hPc, va_K.moved hW.alike hK, hDc.weaken (fun _ _ _ _ => trivial)⟩⟩ rfl rfl hl.1 rfl (lv_room (Nat.le_of_ble_eq_true rfl)) d_C_isNear_17 ⟨Nat.le_of_ble_eq_true rfl, Nat.le_of_ble_eq_true rfl⟩) hS (fun q _ h => hFc q h) hFc (fun r17 u17 t H1 locs ht hvm hw hB hz1 hk1 hS => ?_)
  obtain ⟨u17_0, u17_1⟩ := u17
  obtain ⟨hP1, -, hD1⟩ := hB
  rw [ht] at hP1
  have h := h r17 u17_0 u17_1 hw
  obtain ⟨hP, hD⟩ := va_join (wr := []) (w1 := (cw_C_placeAt cI a_this a_firsts a_lengths a_pulls a_polygon a_polygon_xs a_handX a_polygon_ys a_handY a_fewest a_takenLengths a_takenPulls a_polygon_outlines a_polygon_costs a_polygon_rest a_polygon_restByTwo a_polygon_points a_polygon_angles a_polygon_turns n_firsts n_lengths n_pulls n_polygon_xs n_handX n_polygon_ys n_handY c_count f_firsts f_lengths f_pulls c_polygon_count c_polygon_cost f_polygon_xs u17_0 f_polygon_ys u17_1)) hP hD [0, 1, 2, 3, 4, 5, 6, 7, 8] [] rfl rfl (by decide) (by decide) hk1 hFc hP1 hD1
  clear hP1 hD1 hk1 hPc hDc hFc
  generalize H1 = H at hP hS ⊢
  have hP : va_P (dC, dI) vwCl (cw_C_isNear cI a_this a_firsts a_lengths a_pulls a_polygon a_polygon_xs a_handX a_polygon_ys a_handY a_fewest a_takenLengths a_takenPulls a_polygon_outlines a_polygon_costs a_polygon_rest a_polygon_restByTwo a_polygon_points a_polygon_angles a_polygon_turns n_firsts n_lengths n_pulls n_polygon_xs n_handX n_polygon_ys n_handY c_count f_firsts f_lengths f_pulls c_polygon_count c_polygon_cost f_polygon_xs u17_0 f_polygon_ys u17_1) H := hP.sub [0, 1, 2, 3, 4, 5, 6, 7, 8] rfl
  have hD : va_D A (cw_C_isNear cI a_this a_firsts a_lengths a_pulls a_polygon a_polygon_xs a_handX a_polygon_ys a_handY a_fewest a_takenLengths a_takenPulls a_polygon_outlines a_polygon_costs a_polygon_rest a_polygon_restByTwo a_polygon_points a_polygon_angles a_polygon_turns n_firsts n_lengths n_pulls n_polygon_xs n_handX n_polygon_ys n_handY c_count f_firsts f_lengths f_pulls c_polygon_count c_polygon_cost f_polygon_xs u17_0 f_polygon_ys u17_1) := hD.sub [0, 1, 2, 3, 4, 5, 6, 7, 8] (by decide) rfl
  refine lv_aload_n hx hb d_C_isNear_20 rfl (lv_at hl 0 rfl) ?_
  refine lv_iload_n hx hb d_C_isNear_21 rfl (lv_at hl 1 rfl) ?_
  refine lv_iload_n hx hb d_C_isNear_22 rfl (lv_at hl 2 rfl) ?_
  refine lv_iconst (v := 1) hx hb d_C_isNear_23 (by decide) ?_
  obtain ⟨Q24, hq24, h⟩ := h
  have hPc := hP.sub (ws' := (cw_C_placeAt cI a_this a_firsts a_lengths a_pulls a_polygon a_polygon_xs a_handX a_polygon_ys a_handY a_fewest a_takenLengths a_takenPulls a_polygon_outlines a_polygon_costs a_polygon_rest a_polygon_restByTwo a_polygon_points a_polygon_angles a_polygon_turns n_firsts n_lengths n_pulls n_polygon_xs n_handX n_polygon_ys n_handY c_count f_firsts f_lengths f_pulls c_polygon_count c_polygon_cost f_polygon_xs u17_0 f_polygon_ys u17_1)) [0, 1, 2, 3, 4, 5, 6, 7, 8] rfl
  have hDc := hD.sub (ws' := (cw_C_placeAt cI a_this a_firsts a_lengths a_pulls a_polygon a_polygon_xs a_handX a_polygon_ys a_handY a_fewest a_takenLengths a_takenPulls a_polygon_outlines a_polygon_costs a_polygon_rest a_polygon_restByTwo a_polygon_points a_polygon_angles a_polygon_turns n_firsts n_lengths n_pulls n_polygon_xs n_handX n_polygon_ys n_handY c_count f_firsts f_lengths f_pulls c_polygon_count c_polygon_cost f_polygon_xs u17_0 f_polygon_ys u17_1)) [0, 1, 2, 3, 4, 5, 6, 7, 8] (by decide) rfl
  have hFc := va_free (wc := (cw_C_placeAt cI a_this a_firsts a_lengths a_pulls a_polygon a_polygon_xs a_handX a_polygon_ys a_handY a_fewest a_takenLengths a_takenPulls a_polygon_outlines a_polygon_costs a_polygon_rest a_polygon_restByTwo a_polygon_points a_polygon_angles a_polygon_turns n_firsts n_lengths n_pulls n_polygon_xs n_handX n_polygon_ys n_handY c_count f_firsts f_lengths f_pulls c_polygon_count c_polygon_cost f_polygon_xs u17_0 f_polygon_ys u17_1)) hD hS hA [0, 1, 2, 3, 4, 5, 6, 7, 8] rfl
  refine va_calli (va_runV (As := [.int x1, .int x2, .int (1 : Int32)]) (rest := [.int r17, .int (f_lengths x1.toNatClampNeg), .int (f_firsts x1.toNatClampNeg), .ref a_this]) ⟨hx, hb, hml, hown, hts⟩ (c_C_placeAt l dC dI cI cB cJ cZ a_this a_firsts a_lengths a_pulls a_polygon a_polygon_xs a_handX a_polygon_ys a_handY a_fewest a_takenLengths a_takenPulls a_polygon_outlines a_polygon_costs a_polygon_rest a_polygon_restByTwo a_polygon_points a_polygon_angles a_polygon_turns H.size n_firsts n_lengths n_pulls n_polygon_xs n_handX n_polygon_ys n_handY c_count f_firsts f_lengths f_pulls c_polygon_count c_polygon_cost f_polygon_xs u17_0 f_polygon_ys u17_1 x1 x2 (1 : Int32) Q24 hq24) (cwV 3 hts (goodV q_654 q_637 q_638 q_6 q_639) rfl rfl rfl (by decide +kernel) ⟨Nat.le_of_ble_eq_true rfl, Nat.le_of_ble_eq_true rfl⟩) ⟨fun a U g mk q => by obtain ⟨q0, q1, qP, qK, qD⟩ := q; exact ⟨q0, q1, qP, va_K.moved (u := U) (U := U.calling g mk a) (Vm.Alike.refl U.vm) qK, qD⟩, va_recv hK hPc (ci := 4) (q0 := 0) rfl rfl, fun U hU hW => ⟨rfl, by rw [hU], by rw [hU]; exact hPc, va_K.moved hW.alike hK, hDc.weaken (fun _ _ _ _ => trivial)⟩⟩ rfl rfl hl.1 rfl (lv_room (Nat.le_of_ble_eq_true rfl)) d_C_isNear_24 ⟨Nat.le_of_ble_eq_true rfl, Nat.le_of_ble_eq_true rfl⟩) hS (fun q _ h => hFc q h) hFc (fun r24 u24 t H1 locs ht hvm hw hB hz1 hk1 hS => ?_)
  obtain ⟨u24_0, u24_1⟩ := u24
  obtain ⟨hP1, -, hD1⟩ := hB
  rw [ht] at hP1
  have h := h r24 u24_0 u24_1 hw
  obtain ⟨hP, hD⟩ := va_join (wr := []) (w1 := (cw_C_placeAt cI a_this a_firsts a_lengths a_pulls a_polygon a_polygon_xs a_handX a_polygon_ys a_handY a_fewest a_takenLengths a_takenPulls a_polygon_outlines a_polygon_costs a_polygon_rest a_polygon_restByTwo a_polygon_points a_polygon_angles a_polygon_turns n_firsts n_lengths n_pulls n_polygon_xs n_handX n_polygon_ys n_handY c_count f_firsts f_lengths f_pulls c_polygon_count c_polygon_cost f_polygon_xs u24_0 f_polygon_ys u24_1)) hP hD [0, 1, 2, 3, 4, 5, 6, 7, 8] [] rfl rfl (by decide) (by decide) hk1 hFc hP1 hD1
  clear hP1 hD1 hk1 hPc hDc hFc
  generalize H1 = H at hP hS ⊢
  have hP : va_P (dC, dI) vwCl (cw_C_isNear cI a_this a_firsts a_lengths a_pulls a_polygon a_polygon_xs a_handX a_polygon_ys a_handY a_fewest a_takenLengths a_takenPulls a_polygon_outlines a_polygon_costs a_polygon_rest a_polygon_restByTwo a_polygon_points a_polygon_angles a_polygon_turns n_firsts n_lengths n_pulls n_polygon_xs n_handX n_polygon_ys n_handY c_count f_firsts f_lengths f_pulls c_polygon_count c_polygon_cost f_polygon_xs u24_0 f_polygon_ys u24_1) H := hP.sub [0, 1, 2, 3, 4, 5, 6, 7, 8] rfl
  have hD : va_D A (cw_C_isNear cI a_this a_firsts a_lengths a_pulls a_polygon a_polygon_xs a_handX a_polygon_ys a_handY a_fewest a_takenLengths a_takenPulls a_polygon_outlines a_polygon_costs a_polygon_rest a_polygon_restByTwo a_polygon_points a_polygon_angles a_polygon_turns n_firsts n_lengths n_pulls n_polygon_xs n_handX n_polygon_ys n_handY c_count f_firsts f_lengths f_pulls c_polygon_count c_polygon_cost f_polygon_xs u24_0 f_polygon_ys u24_1) := hD.sub [0, 1, 2, 3, 4, 5, 6, 7, 8] (by decide) rfl
  refine lv_iload_n hx hb d_C_isNear_27 rfl (lv_at hl 3 rfl) ?_
  obtain ⟨Q28, hq28, h⟩ := h
  have hPc := hP.sub (ws' := (cw_C_nearLines cI a_this a_polygon a_polygon_xs a_polygon_ys a_fewest a_takenLengths a_takenPulls a_firsts a_lengths a_pulls a_handX a_handY a_polygon_outlines a_polygon_costs a_polygon_rest a_polygon_restByTwo a_polygon_points a_polygon_angles a_polygon_turns n_polygon_xs n_polygon_ys c_count c_polygon_count c_polygon_cost f_polygon_xs f_polygon_ys)) [0, 4, 5, 7] rfl
  have hDc := hD.sub (ws' := (cw_C_nearLines cI a_this a_polygon a_polygon_xs a_polygon_ys a_fewest a_takenLengths a_takenPulls a_firsts a_lengths a_pulls a_handX a_handY a_polygon_outlines a_polygon_costs a_polygon_rest a_polygon_restByTwo a_polygon_points a_polygon_angles a_polygon_turns n_polygon_xs n_polygon_ys c_count c_polygon_count c_polygon_cost f_polygon_xs f_polygon_ys)) [0, 4, 5, 7] (by decide) rfl
  have hFc := va_free (wc := (cw_C_nearLines cI a_this a_polygon a_polygon_xs a_polygon_ys a_fewest a_takenLengths a_takenPulls a_firsts a_lengths a_pulls a_handX a_handY a_polygon_outlines a_polygon_costs a_polygon_rest a_polygon_restByTwo a_polygon_points a_polygon_angles a_polygon_turns n_polygon_xs n_polygon_ys c_count c_polygon_count c_polygon_cost f_polygon_xs f_polygon_ys)) hD hS hA [0, 4, 5, 7] rfl
  refine va_calli (va_runV (As := [.int (f_firsts x1.toNatClampNeg), .int (f_lengths x1.toNatClampNeg), .int r17, .int r24, .int x3]) (rest := []) ⟨hx, hb, hml, hown, hts⟩ (c_C_nearLines l dC dI cI cB cJ cZ a_this a_polygon a_polygon_xs a_polygon_ys a_fewest a_takenLengths a_takenPulls a_firsts a_lengths a_pulls a_handX a_handY a_polygon_outlines a_polygon_costs a_polygon_rest a_polygon_restByTwo a_polygon_points a_polygon_angles a_polygon_turns H.size n_polygon_xs n_polygon_ys c_count c_polygon_count c_polygon_cost f_polygon_xs f_polygon_ys (f_firsts x1.toNatClampNeg) (f_lengths x1.toNatClampNeg) r17 r24 x3 Q28 hq28) (cwV 5 hts (goodV q_602 q_604 q_p27 q_6 q_605) rfl rfl rfl (by decide +kernel) ⟨Nat.le_of_ble_eq_true rfl, Nat.le_of_ble_eq_true rfl⟩) ⟨fun a U g mk q => by obtain ⟨q0, q1, qP, qK, qD⟩ := q; exact ⟨q0, q1, qP, va_K.moved (u := U) (U := U.calling g mk a) (Vm.Alike.refl U.vm) qK, qD⟩, va_recv hK hPc (ci := 4) (q0 := 0) rfl rfl, fun U hU hW => ⟨rfl, by rw [hU], by rw [hU]; exact hPc, va_K.moved hW.alike hK, hDc.weaken (fun _ _ _ _ => trivial)⟩⟩ rfl rfl hl.1 rfl (lv_room (Nat.le_of_ble_eq_true rfl)) d_C_isNear_28 ⟨Nat.le_of_ble_eq_true rfl, Nat.le_of_ble_eq_true rfl⟩) hS (fun q _ h => hFc q h) hFc (fun r28 u28 t H1 locs ht hvm hw hB hz1 hk1 hS => ?_)
  cases u28
  obtain ⟨hP1, -, hD1⟩ := hB
  rw [ht] at hP1
  have h := h r28 hw
  obtain ⟨hP, hD⟩ := va_join (wr := [(a_firsts, .inl (cI, n_firsts, .inl f_firsts)), (a_lengths, .inl (cI, n_lengths, .inl f_lengths)), (a_pulls, .inl (cI, n_pulls, .inl f_pulls)), (a_handX, .inl (cI, n_handX, .inl u24_0)), (a_handY, .inl (cI, n_handY, .inl u24_1))]) (w1 := (cw_C_nearLines cI a_this a_polygon a_polygon_xs a_polygon_ys a_fewest a_takenLengths a_takenPulls a_firsts a_lengths a_pulls a_handX a_handY a_polygon_outlines a_polygon_costs a_polygon_rest a_polygon_restByTwo a_polygon_points a_polygon_angles a_polygon_turns n_polygon_xs n_polygon_ys c_count c_polygon_count c_polygon_cost f_polygon_xs f_polygon_ys)) hP hD [0, 4, 5, 7] [1, 2, 3, 6, 8] rfl rfl (by decide) (by decide) hk1 hFc hP1 hD1
  clear hP1 hD1 hk1 hPc hDc hFc
  generalize H1 = H at hP hS ⊢
  have hP : va_P (dC, dI) vwCl (cw_C_isNear cI a_this a_firsts a_lengths a_pulls a_polygon a_polygon_xs a_handX a_polygon_ys a_handY a_fewest a_takenLengths a_takenPulls a_polygon_outlines a_polygon_costs a_polygon_rest a_polygon_restByTwo a_polygon_points a_polygon_angles a_polygon_turns n_firsts n_lengths n_pulls n_polygon_xs n_handX n_polygon_ys n_handY c_count f_firsts f_lengths f_pulls c_polygon_count c_polygon_cost f_polygon_xs u24_0 f_polygon_ys u24_1) H := hP.sub [5, 0, 1, 2, 6, 7, 3, 8, 4] rfl
  have hD : va_D A (cw_C_isNear cI a_this a_firsts a_lengths a_pulls a_polygon a_polygon_xs a_handX a_polygon_ys a_handY a_fewest a_takenLengths a_takenPulls a_polygon_outlines a_polygon_costs a_polygon_rest a_polygon_restByTwo a_polygon_points a_polygon_angles a_polygon_turns n_firsts n_lengths n_pulls n_polygon_xs n_handX n_polygon_ys n_handY c_count f_firsts f_lengths f_pulls c_polygon_count c_polygon_cost f_polygon_xs u24_0 f_polygon_ys u24_1) := hD.sub [5, 0, 1, 2, 6, 7, 3, 8, 4] (by decide) rfl
  obtain ⟨hz1, h⟩ := h
  subst hQf
  exact W.zret (v := r28) hx hb hr (nz01 hz1) (fun t ht hW => ⟨⟨r28, (u24_0, u24_1), rfl, h, by rw [ht]; exact hP, va_K.moved hW.alike hK, hD⟩, hS.F ht⟩) hS.2.2 d_C_isNear_31
