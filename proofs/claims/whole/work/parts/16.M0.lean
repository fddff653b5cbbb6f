def wp_M_thrown (c_code : Int32) (post : Int32 → Unit → Prop) : Prop :=
  post c_code ()
abbrev cw_M_thrown (a_this a_colours a_froms a_sizes a_layersOf a_areas a_xs a_ys a_used a_cornerAt a_counts a_costs a_firsts a_manys a_fs a_px a_py a_groups a_joinF : Nat) (c_code : Int32) (c_width : Int32) (c_height : Int32) (c_isTraced : Int32) (c_outlines : Int32) (c_points : Int32) (c_hasPolygon : Int32) (c_of : Int32) (c_corners : Int32) (c_costSum : Int32) (c_hasCurves : Int32) (c_curveCount : Int32) (c_sharp : Int32) (c_allowed : Int32) : va_W := [(a_this, .inr (5, [.int c_code, .int c_width, .int c_height, .ref a_colours, .int c_isTraced, .int c_outlines, .ref a_froms, .ref a_sizes, .ref a_layersOf, .ref a_areas, .int c_points, .ref a_xs, .ref a_ys, .ref a_used, .int c_hasPolygon, .int c_of, .int c_corners, .int c_costSum, .ref a_cornerAt, .ref a_counts, .ref a_costs, .int c_hasCurves, .int c_curveCount, .ref a_firsts, .ref a_manys, .ref a_fs, .int c_sharp, .int c_allowed, .ref a_px, .ref a_py, .ref a_groups, .ref a_joinF]))]
abbrev qq_M_thrown (dC : Nat → ClassId) (dI : Nat → Nat → Nat) (cI cB cJ cZ : ClassId) (a_this a_colours a_froms a_sizes a_layersOf a_areas a_xs a_ys a_used a_cornerAt a_counts a_costs a_firsts a_manys a_fs a_px a_py a_groups a_joinF : Nat) (c_code : Int32) (c_width : Int32) (c_height : Int32) (c_isTraced : Int32) (c_outlines : Int32) (c_points : Int32) (c_hasPolygon : Int32) (c_of : Int32) (c_corners : Int32) (c_costSum : Int32) (c_hasCurves : Int32) (c_curveCount : Int32) (c_sharp : Int32) (c_allowed : Int32) (A : Nat → Prop) (post : Int32 → Unit → Prop) : Array Value → State → Outcome → State → Prop := va_Qi post (fun _ t => va_P (dC, dI) vwCl (cw_M_thrown a_this a_colours a_froms a_sizes a_layersOf a_areas a_xs a_ys a_used a_cornerAt a_counts a_costs a_firsts a_manys a_fs a_px a_py a_groups a_joinF c_code c_width c_height c_isTraced c_outlines c_points c_hasPolygon c_of c_corners c_costSum c_hasCurves c_curveCount c_sharp c_allowed) t.heap ∧ va_K (dC, dI) vwCl [(cI, .int), (cB, .byte), (cJ, .long), (cZ, .boolean)] t ∧ va_D A (cw_M_thrown a_this a_colours a_froms a_sizes a_layersOf a_areas a_xs a_ys a_used a_cornerAt a_counts a_costs a_firsts a_manys a_fs a_px a_py a_groups a_joinF c_code c_width c_height c_isTraced c_outlines c_points c_hasPolygon c_of c_corners c_costSum c_hasCurves c_curveCount c_sharp c_allowed)) A
set_option maxHeartbeats 4000000 in
set_option maxRecDepth 100000 in
theorem c_M_thrown (l : Launch) (dC : Nat → ClassId) (dI : Nat → Nat → Nat) (cI cB cJ cZ : ClassId) (a_this a_colours a_froms a_sizes a_layersOf a_areas a_xs a_ys a_used a_cornerAt a_counts a_costs a_firsts a_manys a_fs a_px a_py a_groups a_joinF : Nat) (sz : Nat) (c_code : Int32) (c_width : Int32) (c_height : Int32) (c_isTraced : Int32) (c_outlines : Int32) (c_points : Int32) (c_hasPolygon : Int32) (c_of : Int32) (c_corners : Int32) (c_costSum : Int32) (c_hasCurves : Int32) (c_curveCount : Int32) (c_sharp : Int32) (c_allowed : Int32) (post : Int32 → Unit → Prop) (h : wp_M_thrown c_code post) : Met l y_M_thrown w_M_thrown ({ frames := 0, cells := 0, slots := 0, locals := 0 }) (va_Pc [.ref a_this] (fun U => U.heap.size = sz ∧ va_P (dC, dI) vwCl (cw_M_thrown a_this a_colours a_froms a_sizes a_layersOf a_areas a_xs a_ys a_used a_cornerAt a_counts a_costs a_firsts a_manys a_fs a_px a_py a_groups a_joinF c_code c_width c_height c_isTraced c_outlines c_points c_hasPolygon c_of c_corners c_costSum c_hasCurves c_curveCount c_sharp c_allowed) U.heap ∧ va_K (dC, dI) vwCl [(cI, .int), (cB, .byte), (cJ, .long), (cZ, .boolean)] U ∧ va_D (fun _ => True) (cw_M_thrown a_this a_colours a_froms a_sizes a_layersOf a_areas a_xs a_ys a_used a_cornerAt a_counts a_costs a_firsts a_manys a_fs a_px a_py a_groups a_joinF c_code c_width c_height c_isTraced c_outlines c_points c_hasPolygon c_of c_corners c_costSum c_hasCurves c_curveCount c_sharp c_allowed))) (qq_M_thrown dC dI cI cB cJ cZ a_this a_colours a_froms a_sizes a_layersOf a_areas a_xs a_ys a_used a_cornerAt a_counts a_costs a_firsts a_manys a_fs a_px a_py a_groups a_joinF c_code c_width c_height c_isTraced c_outlines c_points c_hasPolygon c_of c_corners c_costSum c_hasCurves c_curveCount c_sharp c_allowed (va_A (cw_M_thrown a_this a_colours a_froms a_sizes a_layersOf a_areas a_xs a_ys a_used a_cornerAt a_counts a_costs a_firsts a_manys a_fs a_px a_py a_groups a_joinF c_code c_width c_height c_isTraced c_outlines c_points c_hasPolygon c_of c_corners c_costSum c_hasCurves c_curveCount c_sharp c_allowed) sz) post) 0 0 (va_A (cw_M_thrown a_this a_colours a_froms a_sizes a_layersOf a_areas a_xs a_ys a_used a_cornerAt a_counts a_costs a_firsts a_manys a_fs a_px a_py a_groups a_joinF c_code c_width c_height c_isTraced c_outlines c_points c_hasPolygon c_of c_corners c_costSum c_hasCurves c_curveCount c_sharp c_allowed) sz) := by
  refine Met.ofW (cc := b_M_thrown) (maxL := 1) (ret := (some .int)) (by decide +kernel) rfl ?_
  intro p e s m args below meth c s₁ B hml hv
  obtain ⟨rfl, hsz, hP, hK, hD0⟩ := hv
  have hx := B.exec
  have hb := B.bytes
  have hr := B.returns
  have hts : ∀ w ∈ allW, w.before _ s = true := fun w hw => atoms_spec (ws := w_M_thrown) B.pre w (List.mem_cons_of_mem _ hw)
  have hown : s.vm.findClass R_M = some m.cls := findClass_of_methodNamed B.named
  have hlocks := B.notSynchronized
  subst hsz
  have hD := hD0.self (sz := s.heap.size)
  generalize hAe : va_A (cw_M_thrown a_this a_colours a_froms a_sizes a_layersOf a_areas a_xs a_ys a_used a_cornerAt a_counts a_costs a_firsts a_manys a_fs a_px a_py a_groups a_joinF c_code c_width c_height c_isTraced c_outlines c_points c_hasPolygon c_of c_corners c_costSum c_hasCurves c_curveCount c_sharp c_allowed) s.heap.size = A at hD ⊢
  have hA : ∀ q : Nat, s.heap.size ≤ q → A q := fun q h => by rw [← hAe]; exact Or.inr h
  have hS : va_S A s.heap s.heap [] := va_S.rf
  clear hD0
  generalize hQf : MQ below (qq_M_thrown dC dI cI cB cJ cZ a_this a_colours a_froms a_sizes a_layersOf a_areas a_xs a_ys a_used a_cornerAt a_counts a_costs a_firsts a_manys a_fs a_px a_py a_groups a_joinF c_code c_width c_height c_isTraced c_outlines c_points c_hasPolygon c_of c_corners c_costSum c_hasCurves c_curveCount c_sharp c_allowed A post) ([.ref a_this] : List Value).toArray s 0 0 A = Qf
  have hl := lv_entry ([.ref a_this]) (n := 1) (Nat.le_of_ble_eq_true rfl)
  rw [lg_entry_eq]
  generalize (lg_sl ([.ref a_this]) ++ List.replicate (1 - (lg_sl ([.ref a_this])).length) Slot.unset).toArray = ls at hl ⊢
  have hl : lv_has ls 1 [(0, .ref a_this)] := hl
  unfold wp_M_thrown at h
  refine lv_aload_n hx hb d_M_thrown_0 rfl (lv_at hl 0 rfl) ?_
  refine va_get (D := (dC, dI)) (ci := 5) (v := .int c_code) (C := R_M) (T := F_M) (N := 32) hx hb hts i_M_in hown hK hP 0 rfl rfl 0 (by decide) (hts _ q_661) (fun _ h9 => h9) rfl d_M_thrown_1 ?_
  subst hQf
  exact W.iret (v := c_code) hx hb hr (fun t ht hW => ⟨⟨c_code, (), rfl, h, by rw [ht]; exact hP, va_K.moved hW.alike hK, hD⟩, hS.F ht⟩) hS.2.2 d_M_thrown_4
def wp_M_refuses (c_code : Int32) (x1 : Int32) (post : Int32 → Int32 → Prop) : Prop :=
  (x1 ≤ 0 → post (0 : Int32) x1) ∧ (¬ x1 ≤ 0 → post (1 : Int32) x1)
abbrev cw_M_refuses (a_this a_colours a_froms a_sizes a_layersOf a_areas a_xs a_ys a_used a_cornerAt a_counts a_costs a_firsts a_manys a_fs a_px a_py a_groups a_joinF : Nat) (c_code : Int32) (c_width : Int32) (c_height : Int32) (c_isTraced : Int32) (c_outlines : Int32) (c_points : Int32) (c_hasPolygon : Int32) (c_of : Int32) (c_corners : Int32) (c_costSum : Int32) (c_hasCurves : Int32) (c_curveCount : Int32) (c_sharp : Int32) (c_allowed : Int32) : va_W := [(a_this, .inr (5, [.int c_code, .int c_width, .int c_height, .ref a_colours, .int c_isTraced, .int c_outlines, .ref a_froms, .ref a_sizes, .ref a_layersOf, .ref a_areas, .int c_points, .ref a_xs, .ref a_ys, .ref a_used, .int c_hasPolygon, .int c_of, .int c_corners, .int c_costSum, .ref a_cornerAt, .ref a_counts, .ref a_costs, .int c_hasCurves, .int c_curveCount, .ref a_firsts, .ref a_manys, .ref a_fs, .int c_sharp, .int c_allowed, .ref a_px, .ref a_py, .ref a_groups, .ref a_joinF]))]
abbrev qq_M_refuses (dC : Nat → ClassId) (dI : Nat → Nat → Nat) (cI cB cJ cZ : ClassId) (a_this a_colours a_froms a_sizes a_layersOf a_areas a_xs a_ys a_used a_cornerAt a_counts a_costs a_firsts a_manys a_fs a_px a_py a_groups a_joinF : Nat) (c_width : Int32) (c_height : Int32) (c_isTraced : Int32) (c_outlines : Int32) (c_points : Int32) (c_hasPolygon : Int32) (c_of : Int32) (c_corners : Int32) (c_costSum : Int32) (c_hasCurves : Int32) (c_curveCount : Int32) (c_sharp : Int32) (c_allowed : Int32) (A : Nat → Prop) (post : Int32 → Int32 → Prop) : Array Value → State → Outcome → State → Prop := va_Qi post (fun u t => va_P (dC, dI) vwCl (cw_M_refuses a_this a_colours a_froms a_sizes a_layersOf a_areas a_xs a_ys a_used a_cornerAt a_counts a_costs a_firsts a_manys a_fs a_px a_py a_groups a_joinF u c_width c_height c_isTraced c_outlines c_points c_hasPolygon c_of c_corners c_costSum c_hasCurves c_curveCount c_sharp c_allowed) t.heap ∧ va_K (dC, dI) vwCl [(cI, .int), (cB, .byte), (cJ, .long), (cZ, .boolean)] t ∧ va_D A (cw_M_refuses a_this a_colours a_froms a_sizes a_layersOf a_areas a_xs a_ys a_used a_cornerAt a_counts a_costs a_firsts a_manys a_fs a_px a_py a_groups a_joinF u c_width c_height c_isTraced c_outlines c_points c_hasPolygon c_of c_corners c_costSum c_hasCurves c_curveCount c_sharp c_allowed)) A
set_option maxHeartbeats 4000000 in
set_option maxRecDepth 100000 in
theorem c_M_refuses (l : Launch) (dC : Nat → ClassId) (dI : Nat → Nat → Nat) (cI cB cJ cZ : ClassId) (a_this a_colours a_froms a_sizes a_layersOf a_areas a_xs a_ys a_used a_cornerAt a_counts a_costs a_firsts a_manys a_fs a_px a_py a_groups a_joinF : Nat) (sz : Nat) (c_code : Int32) (c_width : Int32) (c_height : Int32) (c_isTraced : Int32) (c_outlines : Int32) (c_points : Int32) (c_hasPolygon : Int32) (c_of : Int32) (c_corners : Int32) (c_costSum : Int32) (c_hasCurves : Int32) (c_curveCount : Int32) (c_sharp : Int32) (c_allowed : Int32) (x1 : Int32) (post : Int32 → Int32 → Prop) (h : wp_M_refuses c_code x1 post) : Met l y_M_refuses w_M_refuses ({ frames := 0, cells := 0, slots := 0, locals := 0 }) (va_Pc [.ref a_this, .int x1] (fun U => U.heap.size = sz ∧ va_P (dC, dI) vwCl (cw_M_refuses a_this a_colours a_froms a_sizes a_layersOf a_areas a_xs a_ys a_used a_cornerAt a_counts a_costs a_firsts a_manys a_fs a_px a_py a_groups a_joinF c_code c_width c_height c_isTraced c_outlines c_points c_hasPolygon c_of c_corners c_costSum c_hasCurves c_curveCount c_sharp c_allowed) U.heap ∧ va_K (dC, dI) vwCl [(cI, .int), (cB, .byte), (cJ, .long), (cZ, .boolean)] U ∧ va_D (fun _ => True) (cw_M_refuses a_this a_colours a_froms a_sizes a_layersOf a_areas a_xs a_ys a_used a_cornerAt a_counts a_costs a_firsts a_manys a_fs a_px a_py a_groups a_joinF c_code c_width c_height c_isTraced c_outlines c_points c_hasPolygon c_of c_corners c_costSum c_hasCurves c_curveCount c_sharp c_allowed))) (qq_M_refuses dC dI cI cB cJ cZ a_this a_colours a_froms a_sizes a_layersOf a_areas a_xs a_ys a_used a_cornerAt a_counts a_costs a_firsts a_manys a_fs a_px a_py a_groups a_joinF c_width c_height c_isTraced c_outlines c_points c_hasPolygon c_of c_corners c_costSum c_hasCurves c_curveCount c_sharp c_allowed (va_A (cw_M_refuses a_this a_colours a_froms a_sizes a_layersOf a_areas a_xs a_ys a_used a_cornerAt a_counts a_costs a_firsts a_manys a_fs a_px a_py a_groups a_joinF c_code c_width c_height c_isTraced c_outlines c_points c_hasPolygon c_of c_corners c_costSum c_hasCurves c_curveCount c_sharp c_allowed) sz) post) 0 0 (va_A (cw_M_refuses a_this a_colours a_froms a_sizes a_layersOf a_areas a_xs a_ys a_used a_cornerAt a_counts a_costs a_firsts a_manys a_fs a_px a_py a_groups a_joinF c_code c_width c_height c_isTraced c_outlines c_points c_hasPolygon c_of c_corners c_costSum c_hasCurves c_curveCount c_sharp c_allowed) sz) := by
  refine Met.ofW (cc := b_M_refuses) (maxL := 2) (ret := (some .boolean)) (by decide +kernel) rfl ?_
  intro p e s m args below meth c s₁ B hml hv
  obtain ⟨rfl, hsz, hP, hK, hD0⟩ := hv
  have hx := B.exec
  have hb := B.bytes
  have hr := B.returns
  have hts : ∀ w ∈ allW, w.before _ s = true := fun w hw => atoms_spec (ws := w_M_refuses) B.pre w (List.mem_cons_of_mem _ hw)
  have hown : s.vm.findClass R_M = some m.cls := findClass_of_methodNamed B.named
  have hlocks := B.notSynchronized
  subst hsz
  have hD := hD0.self (sz := s.heap.size)
  generalize hAe : va_A (cw_M_refuses a_this a_colours a_froms a_sizes a_layersOf a_areas a_xs a_ys a_used a_cornerAt a_counts a_costs a_firsts a_manys a_fs a_px a_py a_groups a_joinF c_code c_width c_height c_isTraced c_outlines c_points c_hasPolygon c_of c_corners c_costSum c_hasCurves c_curveCount c_sharp c_allowed) s.heap.size = A at hD ⊢
  have hA : ∀ q : Nat, s.heap.size ≤ q → A q := fun q h => by rw [← hAe]; exact Or.inr h
  have hS : va_S A s.heap s.heap [] := va_S.rf
  clear hD0
  generalize hQf : MQ below (qq_M_refuses dC dI cI cB cJ cZ a_this a_colours a_froms a_sizes a_layersOf a_areas a_xs a_ys a_used a_cornerAt a_counts a_costs a_firsts a_manys a_fs a_px a_py a_groups a_joinF c_width c_height c_isTraced c_outlines c_points c_hasPolygon c_of c_corners c_costSum c_hasCurves c_curveCount c_sharp c_allowed A post) ([.ref a_this, .int x1] : List Value).toArray s 0 0 A = Qf
  have hl := lv_entry ([.ref a_this, .int x1]) (n := 2) (Nat.le_of_ble_eq_true rfl)
  rw [lg_entry_eq]
  generalize (lg_sl ([.ref a_this, .int x1]) ++ List.replicate (2 - (lg_sl ([.ref a_this, .int x1])).length) Slot.unset).toArray = ls at hl ⊢
  have hl : lv_has ls 2 [(0, .ref a_this), (1, .int x1)] := hl
  unfold wp_M_refuses at h
  refine lv_aload_n hx hb d_M_refuses_0 rfl (lv_at hl 0 rfl) ?_
  refine lv_iload_n hx hb d_M_refuses_1 rfl (lv_at hl 1 rfl) ?_
  refine va_put (D := (dC, dI)) (ci := 5) (v := .int x1) (ty := .int) (C := R_M) (T := F_M) (N := 32) hx hb hts i_M_in t_M t_M_ok n_M_ne hown hK hP hD hS 0 rfl rfl 0 (by decide) (hts _ q_661) (fun _ h9 => h9) rfl (by decide +kernel) (by rfl) (by rfl) (Nat.le_of_ble_eq_true rfl) d_M_refuses_2 (fun H locs hP hD hS => ?_)
  have hP : va_P (dC, dI) vwCl (cw_M_refuses a_this a_colours a_froms a_sizes a_layersOf a_areas a_xs a_ys a_used a_cornerAt a_counts a_costs a_firsts a_manys a_fs a_px a_py a_groups a_joinF x1 c_width c_height c_isTraced c_outlines c_points c_hasPolygon c_of c_corners c_costSum c_hasCurves c_curveCount c_sharp c_allowed) H := hP
  have hD : va_D A (cw_M_refuses a_this a_colours a_froms a_sizes a_layersOf a_areas a_xs a_ys a_used a_cornerAt a_counts a_costs a_firsts a_manys a_fs a_px a_py a_groups a_joinF x1 c_width c_height c_isTraced c_outlines c_points c_hasPolygon c_of c_corners c_costSum c_hasCurves c_curveCount c_sharp c_allowed) := hD
  refine lv_iload_n hx hb d_M_refuses_5 rfl (lv_at hl 1 rfl) ?_
  refine lv_if_le (tgt := 13) hx hb d_M_refuses_6 (by decide) (fun cc_ => ?_) (fun cc_ => ?_)
  · have h := h.1 cc_
    refine lv_iconst (v := 0) hx hb d_M_refuses_13 (by decide) ?_
    subst hQf
    exact W.zret (v := (0 : Int32)) hx hb hr (by rfl) (fun t ht hW => ⟨⟨(0 : Int32), x1, rfl, h, by rw [ht]; exact hP, va_K.moved hW.alike hK, hD⟩, hS.F ht⟩) hS.2.2 d_M_refuses_14
  · have h := h.2 cc_
    refine lv_iconst (v := 1) hx hb d_M_refuses_9 (by decide) ?_
    refine lv_goto (tgt := 14) hx hb d_M_refuses_10 (by decide) ?_
    subst hQf
    exact W.zret (v := (1 : Int32)) hx hb hr (by rfl) (fun t ht hW => ⟨⟨(1 : Int32), x1, rfl, h, by rw [ht]; exact hP, va_K.moved hW.alike hK, hD⟩, hS.F ht⟩) hS.2.2 d_M_refuses_14
def wp_M_in_J14 (post : Int32 → Unit → Prop) : Prop :=
  post (0 : Int32) ()
def wp_M_in (x0 : Int32) (x1 : Int32) (x2 : Int32) (post : Int32 → Unit → Prop) : Prop :=
  (x0 < x1 → wp_M_in_J14 post) ∧ (¬ x0 < x1 → (x2 < x0 → wp_M_in_J14 post) ∧ (¬ x2 < x0 → post (1 : Int32) ()))
abbrev cw_M_in  : va_W := []
abbrev qq_M_in (dC : Nat → ClassId) (dI : Nat → Nat → Nat) (cI cB cJ cZ : ClassId) (A : Nat → Prop) (post : Int32 → Unit → Prop) : Array Value → State → Outcome → State → Prop := va_Qi post (fun _ t => va_P (dC, dI) vwCl (cw_M_in) t.heap ∧ va_K (dC, dI) vwCl [(cI, .int), (cB, .byte), (cJ, .long), (cZ, .boolean)] t ∧ va_D A (cw_M_in)) A
set_option maxHeartbeats 4000000 in
set_option maxRecDepth 100000 in
theorem c_M_in (l : Launch) (dC : Nat → ClassId) (dI : Nat → Nat → Nat) (cI cB cJ cZ : ClassId) (sz : Nat) (x0 : Int32) (x1 : Int32) (x2 : Int32) (post : Int32 → Unit → Prop) (h : wp_M_in x0 x1 x2 post) : Met l y_M_in w_M_in ({ frames := 0, cells := 0, slots := 0, locals := 0 }) (va_Pc [.int x0, .int x1, .int x2] (fun U => U.heap.size = sz ∧ va_P (dC, dI) vwCl (cw_M_in) U.heap ∧ va_K (dC, dI) vwCl [(cI, .int), (cB, .byte), (cJ, .long), (cZ, .boolean)] U ∧ va_D (fun _ => True) (cw_M_in))) (qq_M_in dC dI cI cB cJ cZ (va_A (cw_M_in) sz) post) 0 0 (va_A (cw_M_in) sz) := by
  refine Met.ofW (cc := b_M_in) (maxL := 3) (ret := (some .boolean)) (by decide +kernel) rfl ?_
  intro p e s m args below meth c s₁ B hml hv
  obtain ⟨rfl, hsz, hP, hK, hD0⟩ := hv
  have hx := B.exec
  have hb := B.bytes
  have hr := B.returns
  have hts : ∀ w ∈ allW, w.before _ s = true := fun w hw => atoms_spec (ws := w_M_in) B.pre w (List.mem_cons_of_mem _ hw)
  have hown : s.vm.findClass R_M = some m.cls := findClass_of_methodNamed B.named
  have hlocks := B.notSynchronized
  subst hsz
  have hD := hD0.self (sz := s.heap.size)
  generalize hAe : va_A (cw_M_in) s.heap.size = A at hD ⊢
  have hA : ∀ q : Nat, s.heap.size ≤ q → A q := fun q h => by rw [← hAe]; exact Or.inr h
  have hS : va_S A s.heap s.heap [] := va_S.rf
  clear hD0
  generalize hQf : MQ below (qq_M_in dC dI cI cB cJ cZ A post) ([.int x0, .int x1, .int x2] : List Value).toArray s 0 0 A = Qf
  have hl := lv_entry ([.int x0, .int x1, .int x2]) (n := 3) (Nat.le_of_ble_eq_true rfl)
  rw [lg_entry_eq]
  generalize (lg_sl ([.int x0, .int x1, .int x2]) ++ List.replicate (3 - (lg_sl ([.int x0, .int x1, .int x2])).length) Slot.unset).toArray = ls at hl ⊢
  have hl : lv_has ls 3 [(0, .int x0), (1, .int x1), (2, .int x2)] := hl
  unfold wp_M_in at h
  have J14 : ∀ (H : Heap) (locs : List Loc) (ls : Array Slot), wp_M_in_J14 post → va_P (dC, dI) vwCl (cw_M_in) H → va_D A (cw_M_in) → va_S A s.heap H locs → lv_has ls 3 [] → W p l e (headSpec w_M_in ({ frames := 0, cells := 0, slots := 0, locals := 0 })).room s m ([.int x0, .int x1, .int x2] : List Value).toArray below meth c H locs 0 0 Qf (F0 m 14 ls []) := by
    intro H locs ls h hP hD hS hl
    unfold wp_M_in_J14 at h
    refine lv_iconst (v := 0) hx hb d_M_in_14 (by decide) ?_
    subst hQf
    exact W.zret (v := (0 : Int32)) hx hb hr (by rfl) (fun t ht hW => ⟨⟨(0 : Int32), (), rfl, h, by rw [ht]; exact hP, va_K.moved hW.alike hK, hD⟩, hS.F ht⟩) hS.2.2 d_M_in_15
  refine lv_iload_n hx hb d_M_in_0 rfl (lv_at hl 0 rfl) ?_
  refine lv_iload_n hx hb d_M_in_1 rfl (lv_at hl 1 rfl) ?_
  refine lv_icmp_lt (tgt := 14) hx hb d_M_in_2 (by decide) (fun cc_ => ?_) (fun cc_ => ?_)
  · have h := h.1 cc_
    exact J14 _ _ _ h hP hD hS (lv_sub hl [] rfl)
  · have h := h.2 cc_
    refine lv_iload_n hx hb d_M_in_5 rfl (lv_at hl 0 rfl) ?_
    refine lv_iload_n hx hb d_M_in_6 rfl (lv_at hl 2 rfl) ?_
    refine lv_icmp_gt (tgt := 14) hx hb d_M_in_7 (by decide) (fun cc_ => ?_) (fun cc_ => ?_)
    · have h := h.1 cc_
      exact J14 _ _ _ h hP hD hS (lv_sub hl [] rfl)
    · have h := h.2 cc_
      refine lv_iconst (v := 1) hx hb d_M_in_10 (by decide) ?_
      refine lv_goto (tgt := 15) hx hb d_M_in_11 (by decide) ?_
      subst hQf
      exact W.zret (v := (1 : Int32)) hx hb hr (by rfl) (fun t ht hW => ⟨⟨(1 : Int32), (), rfl, h, by rw [ht]; exact hP, va_K.moved hW.alike hK, hD⟩, hS.F ht⟩) hS.2.2 d_M_in_15
def wp_M_isSample_J32 (c_width : Int32) (c_height : Int32) (post : Int32 → Unit → Prop) : Prop :=
  post (0 : Int32) ()
def wp_M_isSample (c_width : Int32) (c_height : Int32) (x1 : Int32) (x2 : Int32) (post : Int32 → Unit → Prop) : Prop :=
  ∃ Q8 : Int32 → Unit → Prop, wp_M_in x1 (0 : Int32) (c_width - (1 : Int32)) Q8 ∧ ∀ (r8 : Int32), Q8 r8 () → (r8 = 0 → wp_M_isSample_J32 c_width c_height post) ∧ (¬ r8 = 0 → ∃ Q22 : Int32 → Unit → Prop, wp_M_in x2 (0 : Int32) (c_height - (1 : Int32)) Q22 ∧ ∀ (r22 : Int32), Q22 r22 () → (r22 = 0 → wp_M_isSample_J32 c_width c_height post) ∧ (¬ r22 = 0 → post (1 : Int32) ()))
abbrev cw_M_isSample (a_this a_colours a_froms a_sizes a_layersOf a_areas a_xs a_ys a_used a_cornerAt a_counts a_costs a_firsts a_manys a_fs a_px a_py a_groups a_joinF : Nat) (c_code : Int32) (c_width : Int32) (c_height : Int32) (c_isTraced : Int32) (c_outlines : Int32) (c_points : Int32) (c_hasPolygon : Int32) (c_of : Int32) (c_corners : Int32) (c_costSum : Int32) (c_hasCurves : Int32) (c_curveCount : Int32) (c_sharp : Int32) (c_allowed : Int32) : va_W := [(a_this, .inr (5, [.int c_code, .int c_width, .int c_height, .ref a_colours, .int c_isTraced, .int c_outlines, .ref a_froms, .ref a_sizes, .ref a_layersOf, .ref a_areas, .int c_points, .ref a_xs, .ref a_ys, .ref a_used, .int c_hasPolygon, .int c_of, .int c_corners, .int c_costSum, .ref a_cornerAt, .ref a_counts, .ref a_costs, .int c_hasCurves, .int c_curveCount, .ref a_firsts, .ref a_manys, .ref a_fs, .int c_sharp, .int c_allowed, .ref a_px, .ref a_py, .ref a_groups, .ref a_joinF]))]
abbrev qq_M_isSample (dC : Nat → ClassId) (dI : Nat → Nat → Nat) (cI cB cJ cZ : ClassId) (a_this a_colours a_froms a_sizes a_layersOf a_areas a_xs a_ys a_used a_cornerAt a_counts a_costs a_firsts a_manys a_fs a_px a_py a_groups a_joinF : Nat) (c_code : Int32) (c_width : Int32) (c_height : Int32) (c_isTraced : Int32) (c_outlines : Int32) (c_points : Int32) (c_hasPolygon : Int32) (c_of : Int32) (c_corners : Int32) (c_costSum : Int32) (c_hasCurves : Int32) (c_curveCount : Int32) (c_sharp : Int32) (c_allowed : Int32) (A : Nat → Prop) (post : Int32 → Unit → Prop) : Array Value → State → Outcome → State → Prop := va_Qi post (fun _ t => va_P (dC, dI) vwCl (cw_M_isSample a_this a_colours a_froms a_sizes a_layersOf a_areas a_xs a_ys a_used a_cornerAt a_counts a_costs a_firsts a_manys a_fs a_px a_py a_groups a_joinF c_code c_width c_height c_isTraced c_outlines c_points c_hasPolygon c_of c_corners c_costSum c_hasCurves c_curveCount c_sharp c_allowed) t.heap ∧ va_K (dC, dI) vwCl [(cI, .int), (cB, .byte), (cJ, .long), (cZ, .boolean)] t ∧ va_D A (cw_M_isSample a_this a_colours a_froms a_sizes a_layersOf a_areas a_xs a_ys a_used a_cornerAt a_counts a_costs a_firsts a_manys a_fs a_px a_py a_groups a_joinF c_code c_width c_height c_isTraced c_outlines c_points c_hasPolygon c_of c_corners c_costSum c_hasCurves c_curveCount c_sharp c_allowed)) A
set_option maxHeartbeats 4000000 in
set_option maxRecDepth 100000 in
theorem c_M_isSample (l : Launch) (dC : Nat → ClassId) (dI : Nat → Nat → Nat) (cI cB cJ cZ : ClassId) (a_this a_colours a_froms a_sizes a_layersOf a_areas a_xs a_ys a_used a_cornerAt a_counts a_costs a_firsts a_manys a_fs a_px a_py a_groups a_joinF : Nat) (sz : Nat) (c_code : Int32) (c_width : Int32) (c_height : Int32) (c_isTraced : Int32) (c_outlines : Int32) (c_points : Int32) (c_hasPolygon : Int32) (c_of : Int32) (c_corners : Int32) (c_costSum : Int32) (c_hasCurves : Int32) (c_curveCount : Int32) (c_sharp : Int32) (c_allowed : Int32) (x1 : Int32) (x2 : Int32) (post : Int32 → Unit → Prop) (h : wp_M_isSample c_width c_height x1 x2 post) : Met l y_M_isSample w_M_isSample ({ frames := 1, cells := 0, slots := 0, locals := 22 }) (va_Pc [.ref a_this, .int x1, .int x2] (fun U => U.heap.size = sz ∧ va_P (dC, dI) vwCl (cw_M_isSample a_this a_colours a_froms a_sizes a_layersOf a_areas a_xs a_ys a_used a_cornerAt a_counts a_costs a_firsts a_manys a_fs a_px a_py a_groups a_joinF c_code c_width c_height c_isTraced c_outlines c_points c_hasPolygon c_of c_corners c_costSum c_hasCurves c_curveCount c_sharp c_allowed) U.heap ∧ va_K (dC, dI) vwCl [(cI, .int), (cB, .byte), (cJ, .long), (cZ, .boolean)] U ∧ va_D (fun _ => True) (cw_M_isSample a_this a_colours a_froms a_sizes a_layersOf a_areas a_xs a_ys a_used a_cornerAt a_counts a_costs a_firsts a_manys a_fs a_px a_py a_groups a_joinF c_code c_width c_height c_isTraced c_outlines c_points c_hasPolygon c_of c_corners c_costSum c_hasCurves c_curveCount c_sharp c_allowed))) (qq_M_isSample dC dI cI cB cJ cZ a_this a_colours a_froms a_sizes a_layersOf a_areas a_xs a_ys a_used a_cornerAt a_counts a_costs a_firsts a_manys a_fs a_px a_py a_groups a_joinF c_code c_width c_height c_isTraced c_outlines c_points c_hasPolygon c_of c_corners c_costSum c_hasCurves c_curveCount c_sharp c_allowed (va_A (cw_M_isSample a_this a_colours a_froms a_sizes a_layersOf a_areas a_xs a_ys a_used a_cornerAt a_counts a_costs a_firsts a_manys a_fs a_px a_py a_groups a_joinF c_code c_width c_height c_isTraced c_outlines c_points c_hasPolygon c_of c_corners c_costSum c_hasCurves c_curveCount c_sharp c_allowed) sz) post) 0 0 (va_A (cw_M_isSample a_this a_colours a_froms a_sizes a_layersOf a_areas a_xs a_ys a_used a_cornerAt a_counts a_costs a_firsts a_manys a_fs a_px a_py a_groups a_joinF c_code c_width c_height c_isTraced c_outlines c_points c_hasPolygon c_of c_corners c_costSum c_hasCurves c_curveCount c_sharp c_allowed) sz) := by
  refine Met.ofW (cc := b_M_isSample) (maxL := 3) (ret := (some .boolean)) (by decide +kernel) rfl ?_
  intro p e s m args below meth c s₁ B hml hv
  obtain ⟨rfl, hsz, hP, hK, hD0⟩ := hv
  have hx := B.exec
  have hb := B.bytes
  have hr := B.returns
  have hts : ∀ w ∈ allW, w.before _ s = true := fun w hw => atoms_spec (ws := w_M_isSample) B.pre w (List.mem_cons_of_mem _ hw)
  have hown : s.vm.findClass R_M = some m.cls := findClass_of_methodNamed B.named
  have hlocks := B.notSynchronized
  subst hsz
  have hD := hD0.self (sz := s.heap.size)
  generalize hAe : va_A (cw_M_isSample a_this a_colours a_froms a_sizes a_layersOf a_areas a_xs a_ys a_used a_cornerAt a_counts a_costs a_firsts a_manys a_fs a_px a_py a_groups a_joinF c_code c_width c_height c_isTraced c_outlines c_points c_hasPolygon c_of c_corners c_costSum c_hasCurves c_curveCount c_sharp c_allowed) s.heap.size = A at hD ⊢
  have hA : ∀ q : Nat, s.heap.size ≤ q → A q := fun q h => by rw [← hAe]; exact Or.inr h
  have hS : va_S A s.heap s.heap [] := va_S.rf
  clear hD0
  generalize hQf : MQ below (qq_M_isSample dC dI cI cB cJ cZ a_this a_colours a_froms a_sizes a_layersOf a_areas a_xs a_ys a_used a_cornerAt a_counts a_costs a_firsts a_manys a_fs a_px a_py a_groups a_joinF c_code c_width c_height c_isTraced c_outlines c_points c_hasPolygon c_of c_corners c_costSum c_hasCurves c_curveCount c_sharp c_allowed A post) ([.ref a_this, .int x1, .int x2] : List Value).toArray s 0 0 A = Qf
  have hl := lv_entry ([.ref a_this, .int x1, .int x2]) (n := 3) (Nat.le_of_ble_eq_true rfl)
  rw [lg_entry_eq]
  generalize (lg_sl ([.ref a_this, .int x1, .int x2]) ++ List.replicate (3 - (lg_sl ([.ref a_this, .int x1, .int x2])).length) Slot.unset).toArray = ls at hl ⊢
  have hl : lv_has ls 3 [(0, .ref a_this), (1, .int x1), (2, .int x2)] := hl
  unfold wp_M_isSample at h
  have J32 : ∀ (H : Heap) (locs : List Loc) (ls : Array Slot), wp_M_isSample_J32 c_width c_height post → va_P (dC, dI) vwCl (cw_M_isSample a_this a_colours a_froms a_sizes a_layersOf a_areas a_xs a_ys a_used a_cornerAt a_counts a_costs a_firsts a_manys a_fs a_px a_py a_groups a_joinF c_code c_width c_height c_isTraced c_outlines c_points c_hasPolygon c_of c_corners c_costSum c_hasCurves c_curveCount c_sharp c_allowed) H → va_D A (cw_M_isSample a_this a_colours a_froms a_sizes a_layersOf a_areas a_xs a_ys a_used a_cornerAt a_counts a_costs a_firsts a_manys a_fs a_px a_py a_groups a_joinF c_code c_width c_height c_isTraced c_outlines c_points c_hasPolygon c_of c_corners c_costSum c_hasCurves c_curveCount c_sharp c_allowed) → va_S A s.heap H locs → lv_has ls 3 [] → W p l e (headSpec w_M_isSample ({ frames := 1, cells := 0, slots := 0, locals := 22 })).room s m ([.ref a_this, .int x1, .int x2] : List Value).toArray below meth c H locs 0 0 Qf (F0 m 32 ls []) := by
    intro H locs ls h hP hD hS hl
    unfold wp_M_isSample_J32 at h
    refine lv_iconst (v := 0) hx hb d_M_isSample_32 (by decide) ?_
    subst hQf
    exact W.zret (v := (0 : Int32)) hx hb hr (by rfl) (fun t ht hW => ⟨⟨(0 : Int32), (), rfl, h, by rw [ht]; exact hP, va_K.moved hW.alike hK, hD⟩, hS.F ht⟩) hS.2.2 d_M_isSample_33
  refine lv_iload_n hx hb d_M_isSample_0 rfl (lv_at hl 1 rfl) ?_
  refine lv_iconst (v := 0) hx hb d_M_isSample_1 (by decide) ?_
  refine lv_aload_n hx hb d_M_isSample_2 rfl (lv_at hl 0 rfl) ?_
  refine va_get (D := (dC, dI)) (ci := 5) (v := .int c_width) (C := R_M) (T := F_M) (N := 32) hx hb hts i_M_in hown hK hP 0 rfl rfl 1 (by decide) (hts _ q_662) (fun _ h9 => h9) rfl d_M_isSample_3 ?_
  refine lv_iconst (v := 1) hx hb d_M_isSample_6 (by decide) ?_
  refine lv_isub hx hb d_M_isSample_7 ?_
  obtain ⟨Q8, hq8, h⟩ := h
  have hPc := hP.sub (ws' := (cw_M_in)) [] rfl
  have hDc := hD.sub (ws' := (cw_M_in)) [] (by decide) rfl
  have hFc := va_free (wc := (cw_M_in)) hD hS hA [] rfl
  refine va_calli (va_runS (As := [.int x1, .int (0 : Int32), .int (c_width - (1 : Int32))]) (rest := []) ⟨hx, hb, hml, hown, hts⟩ (c_M_in l dC dI cI cB cJ cZ s.heap.size x1 (0 : Int32) (c_width - (1 : Int32)) Q8 hq8) (va_cwS 3 hts (goodS q_771 q_772 q_7 q_773) rfl rfl rfl (by decide +kernel) ⟨Nat.le_of_ble_eq_true rfl, Nat.le_of_ble_eq_true rfl⟩) ⟨fun a U g mk q => by obtain ⟨q0, q1, qP, qK, qD⟩ := q; exact ⟨q0, q1, qP, va_K.moved (u := U) (U := U.calling g mk a) (Vm.Alike.refl U.vm) qK, qD⟩, fun U hU hW => ⟨rfl, by rw [hU], by rw [hU]; exact hPc, va_K.moved hW.alike hK, hDc.weaken (fun _ _ _ _ => trivial)⟩⟩ rfl rfl hl.1 rfl (lv_room (Nat.le_of_ble_eq_true rfl)) d_M_isSample_8 ⟨Nat.le_of_ble_eq_true rfl, Nat.le_of_ble_eq_true rfl⟩) hS (fun q _ h => hFc q h) hFc (fun r8 u8 t H1 locs ht hvm hw hB hz1 hk1 hS => ?_)
  cases u8
  obtain ⟨hP1, -, hD1⟩ := hB
  rw [ht] at hP1
  have h := h r8 hw
  obtain ⟨hP, hD⟩ := va_join (wr := [(a_this, .inr (5, [.int c_code, .int c_width, .int c_height, .ref a_colours, .int c_isTraced, .int c_outlines, .ref a_froms, .ref a_sizes, .ref a_layersOf, .ref a_areas, .int c_points, .ref a_xs, .ref a_ys, .ref a_used, .int c_hasPolygon, .int c_of, .int c_corners, .int c_costSum, .ref a_cornerAt, .ref a_counts, .ref a_costs, .int c_hasCurves, .int c_curveCount, .ref a_firsts, .ref a_manys, .ref a_fs, .int c_sharp, .int c_allowed, .ref a_px, .ref a_py, .ref a_groups, .ref a_joinF]))]) (w1 := (cw_M_in)) hP hD [] [0] rfl rfl (by decide) (by decide) hk1 hFc hP1 hD1
  clear hP1 hD1 hk1 hPc hDc hFc
  generalize H1 = H at hP hS ⊢
  have hP : va_P (dC, dI) vwCl (cw_M_isSample a_this a_colours a_froms a_sizes a_layersOf a_areas a_xs a_ys a_used a_cornerAt a_counts a_costs a_firsts a_manys a_fs a_px a_py a_groups a_joinF c_code c_width c_height c_isTraced c_outlines c_points c_hasPolygon c_of c_corners c_costSum c_hasCurves c_curveCount c_sharp c_allowed) H := hP.sub [0] rfl
  have hD : va_D A (cw_M_isSample a_this a_colours a_froms a_sizes a_layersOf a_areas a_xs a_ys a_used a_cornerAt a_counts a_costs a_firsts a_manys a_fs a_px a_py a_groups a_joinF c_code c_width c_height c_isTraced c_outlines c_points c_hasPolygon c_of c_corners c_costSum c_hasCurves c_curveCount c_sharp c_allowed) := hD.sub [0] (by decide) rfl
  refine lv_if_eq (tgt := 32) hx hb d_M_isSample_11 (by decide) (fun cc_ => ?_) (fun cc_ => ?_)
  · have h := h.1 cc_
    exact J32 _ _ _ h hP hD hS (lv_sub hl [] rfl)
  · have h := h.2 cc_
    refine lv_iload_n hx hb d_M_isSample_14 rfl (lv_at hl 2 rfl) ?_
    refine lv_iconst (v := 0) hx hb d_M_isSample_15 (by decide) ?_
    refine lv_aload_n hx hb d_M_isSample_16 rfl (lv_at hl 0 rfl) ?_
    refine va_get (D := (dC, dI)) (ci := 5) (v := .int c_height) (C := R_M) (T := F_M) (N := 32) hx hb hts i_M_in hown hK hP 0 rfl rfl 2 (by decide) (hts _ q_663) (fun _ h9 => h9) rfl d_M_isSample_17 ?_
    refine lv_iconst (v := 1) hx hb d_M_isSample_20 (by decide) ?_
    refine lv_isub hx hb d_M_isSample_21 ?_
    obtain ⟨Q22, hq22, h⟩ := h
    have hPc := hP.sub (ws' := (cw_M_in)) [] rfl
    have hDc := hD.sub (ws' := (cw_M_in)) [] (by decide) rfl
    have hFc := va_free (wc := (cw_M_in)) hD hS hA [] rfl
    refine va_calli (va_runS (As := [.int x2, .int (0 : Int32), .int (c_height - (1 : Int32))]) (rest := []) ⟨hx, hb, hml, hown, hts⟩ (c_M_in l dC dI cI cB cJ cZ H.size x2 (0 : Int32) (c_height - (1 : Int32)) Q22 hq22) (va_cwS 3 hts (goodS q_771 q_772 q_7 q_773) rfl rfl rfl (by decide +kernel) ⟨Nat.le_of_ble_eq_true rfl, Nat.le_of_ble_eq_true rfl⟩) ⟨fun a U g mk q => by obtain ⟨q0, q1, qP, qK, qD⟩ := q; exact ⟨q0, q1, qP, va_K.moved (u := U) (U := U.calling g mk a) (Vm.Alike.refl U.vm) qK, qD⟩, fun U hU hW => ⟨rfl, by rw [hU], by rw [hU]; exact hPc, va_K.moved hW.alike hK, hDc.weaken (fun _ _ _ _ => trivial)⟩⟩ rfl rfl hl.1 rfl (lv_room (Nat.le_of_ble_eq_true rfl)) d_M_isSample_22 ⟨Nat.le_of_ble_eq_true rfl, Nat.le_of_ble_eq_true rfl⟩) hS (fun q _ h => hFc q h) hFc (fun r22 u22 t H1 locs ht hvm hw hB hz1 hk1 hS => ?_)
    cases u22
    obtain ⟨hP1, -, hD1⟩ := hB
    rw [ht] at hP1
    have h := h r22 hw
    obtain ⟨hP, hD⟩ := va_join (wr := [(a_this, .inr (5, [.int c_code, .int c_width, .int c_height, .ref a_colours, .int c_isTraced, .int c_outlines, .ref a_froms, .ref a_sizes, .ref a_layersOf, .ref a_areas, .int c_points, .ref a_xs, .ref a_ys, .ref a_used, .int c_hasPolygon, .int c_of, .int c_corners, .int c_costSum, .ref a_cornerAt, .ref a_counts, .ref a_costs, .int c_hasCurves, .int c_curveCount, .ref a_firsts, .ref a_manys, .ref a_fs, .int c_sharp, .int c_allowed, .ref a_px, .ref a_py, .ref a_groups, .ref a_joinF]))]) (w1 := (cw_M_in)) hP hD [] [0] rfl rfl (by decide) (by decide) hk1 hFc hP1 hD1
    clear hP1 hD1 hk1 hPc hDc hFc
    generalize H1 = H at hP hS ⊢
    have hP : va_P (dC, dI) vwCl (cw_M_isSample a_this a_colours a_froms a_sizes a_layersOf a_areas a_xs a_ys a_used a_cornerAt a_counts a_costs a_firsts a_manys a_fs a_px a_py a_groups a_joinF c_code c_width c_height c_isTraced c_outlines c_points c_hasPolygon c_of c_corners c_costSum c_hasCurves c_curveCount c_sharp c_allowed) H := hP.sub [0] rfl
    have hD : va_D A (cw_M_isSample a_this a_colours a_froms a_sizes a_layersOf a_areas a_xs a_ys a_used a_cornerAt a_counts a_costs a_firsts a_manys a_fs a_px a_py a_groups a_joinF c_code c_width c_height c_isTraced c_outlines c_points c_hasPolygon c_of c_corners c_costSum c_hasCurves c_curveCount c_sharp c_allowed) := hD.sub [0] (by decide) rfl
    refine lv_if_eq (tgt := 32) hx hb d_M_isSample_25 (by decide) (fun cc_ => ?_) (fun cc_ => ?_)
    · have h := h.1 cc_
      exact J32 _ _ _ h hP hD hS (lv_sub hl [] rfl)
    · have h := h.2 cc_
      refine lv_iconst (v := 1) hx hb d_M_isSample_28 (by decide) ?_
      refine lv_goto (tgt := 33) hx hb d_M_isSample_29 (by decide) ?_
      subst hQf
      exact W.zret (v := (1 : Int32)) hx hb hr (by rfl) (fun t ht hW => ⟨⟨(1 : Int32), (), rfl, h, by rw [ht]; exact hP, va_K.moved hW.alike hK, hD⟩, hS.F ht⟩) hS.2.2 d_M_isSample_33
def wp_M_forget (c_isTraced : Int32) (c_outlines : Int32) (c_hasPolygon : Int32) (c_hasCurves : Int32) (post : (Int32 × Int32 × Int32 × Int32) → Prop) : Prop :=
  post ((0 : Int32), (0 : Int32), (0 : Int32), (0 : Int32))
abbrev cw_M_forget (a_this a_colours a_froms a_sizes a_layersOf a_areas a_xs a_ys a_used a_cornerAt a_counts a_costs a_firsts a_manys a_fs a_px a_py a_groups a_joinF : Nat) (c_code : Int32) (c_width : Int32) (c_height : Int32) (c_isTraced : Int32) (c_outlines : Int32) (c_points : Int32) (c_hasPolygon : Int32) (c_of : Int32) (c_corners : Int32) (c_costSum : Int32) (c_hasCurves : Int32) (c_curveCount : Int32) (c_sharp : Int32) (c_allowed : Int32) : va_W := [(a_this, .inr (5, [.int c_code, .int c_width, .int c_height, .ref a_colours, .int c_isTraced, .int c_outlines, .ref a_froms, .ref a_sizes, .ref a_layersOf, .ref a_areas, .int c_points, .ref a_xs, .ref a_ys, .ref a_used, .int c_hasPolygon, .int c_of, .int c_corners, .int c_costSum, .ref a_cornerAt, .ref a_counts, .ref a_costs, .int c_hasCurves, .int c_curveCount, .ref a_firsts, .ref a_manys, .ref a_fs, .int c_sharp, .int c_allowed, .ref a_px, .ref a_py, .ref a_groups, .ref a_joinF]))]
abbrev qq_M_forget (dC : Nat → ClassId) (dI : Nat → Nat → Nat) (cI cB cJ cZ : ClassId) (a_this a_colours a_froms a_sizes a_layersOf a_areas a_xs a_ys a_used a_cornerAt a_counts a_costs a_firsts a_manys a_fs a_px a_py a_groups a_joinF : Nat) (c_code : Int32) (c_width : Int32) (c_height : Int32) (c_points : Int32) (c_of : Int32) (c_corners : Int32) (c_costSum : Int32) (c_curveCount : Int32) (c_sharp : Int32) (c_allowed : Int32) (A : Nat → Prop) (post : (Int32 × Int32 × Int32 × Int32) → Prop) : Array Value → State → Outcome → State → Prop := va_Qv post (fun u t => va_P (dC, dI) vwCl (cw_M_forget a_this a_colours a_froms a_sizes a_layersOf a_areas a_xs a_ys a_used a_cornerAt a_counts a_costs a_firsts a_manys a_fs a_px a_py a_groups a_joinF c_code c_width c_height u.1 u.2.1 c_points u.2.2.1 c_of c_corners c_costSum u.2.2.2 c_curveCount c_sharp c_allowed) t.heap ∧ va_K (dC, dI) vwCl [(cI, .int), (cB, .byte), (cJ, .long), (cZ, .boolean)] t ∧ va_D A (cw_M_forget a_this a_colours a_froms a_sizes a_layersOf a_areas a_xs a_ys a_used a_cornerAt a_counts a_costs a_firsts a_manys a_fs a_px a_py a_groups a_joinF c_code c_width c_height u.1 u.2.1 c_points u.2.2.1 c_of c_corners c_costSum u.2.2.2 c_curveCount c_sharp c_allowed)) A
set_option maxHeartbeats 4000000 in
set_option maxRecDepth 100000 in
theorem c_M_forget (l : Launch) (dC : Nat → ClassId) (dI : Nat → Nat → Nat) (cI cB cJ cZ : ClassId) (a_this a_colours a_froms a_sizes a_layersOf a_areas a_xs a_ys a_used a_cornerAt a_counts a_costs a_firsts a_manys a_fs a_px a_py a_groups a_joinF : Nat) (sz : Nat) (c_code : Int32) (c_width : Int32) (c_height : Int32) (c_isTraced : Int32) (c_outlines : Int32) (c_points : Int32) (c_hasPolygon : Int32) (c_of : Int32) (c_corners : Int32) (c_costSum : Int32) (c_hasCurves : Int32) (c_curveCount : Int32) (c_sharp : Int32) (c_allowed : Int32) (post : (Int32 × Int32 × Int32 × Int32) → Prop) (h : wp_M_forget c_isTraced c_outlines c_hasPolygon c_hasCurves post) : Met l y_M_forget w_M_forget ({ frames := 0, cells := 0, slots := 0, locals := 0 }) (va_Pc [.ref a_this] (fun U => U.heap.size = sz ∧ va_P (dC, dI) vwCl (cw_M_forget a_this a_colours a_froms a_sizes a_layersOf a_areas a_xs a_ys a_used a_cornerAt a_counts a_costs a_firsts a_manys a_fs a_px a_py a_groups a_joinF c_code c_width c_height c_isTraced c_outlines c_points c_hasPolygon c_of c_corners c_costSum c_hasCurves c_curveCount c_sharp c_allowed) U.heap ∧ va_K (dC, dI) vwCl [(cI, .int), (cB, .byte), (cJ, .long), (cZ, .boolean)] U ∧ va_D (fun _ => True) (cw_M_forget a_this a_colours a_froms a_sizes a_layersOf a_areas a_xs a_ys a_used a_cornerAt a_counts a_costs a_firsts a_manys a_fs a_px a_py a_groups a_joinF c_code c_width c_height c_isTraced c_outlines c_points c_hasPolygon c_of c_corners c_costSum c_hasCurves c_curveCount c_sharp c_allowed))) (qq_M_forget dC dI cI cB cJ cZ a_this a_colours a_froms a_sizes a_layersOf a_areas a_xs a_ys a_used a_cornerAt a_counts a_costs a_firsts a_manys a_fs a_px a_py a_groups a_joinF c_code c_width c_height c_points c_of c_corners c_costSum c_curveCount c_sharp c_allowed (va_A (cw_M_forget a_this a_colours a_froms a_sizes a_layersOf a_areas a_xs a_ys a_used a_cornerAt a_counts a_costs a_firsts a_manys a_fs a_px a_py a_groups a_joinF c_code c_width c_height c_isTraced c_outlines c_points c_hasPolygon c_of c_corners c_costSum c_hasCurves c_curveCount c_sharp c_allowed) sz) post) 0 0 (va_A (cw_M_forget a_this a_colours a_froms a_sizes a_layersOf a_areas a_xs a_ys a_used a_cornerAt a_counts a_costs a_firsts a_manys a_fs a_px a_py a_groups a_joinF c_code c_width c_height c_isTraced c_outlines c_points c_hasPolygon c_of c_corners c_costSum c_hasCurves c_curveCount c_sharp c_allowed) sz) := by
  refine Met.ofW (cc := b_M_forget) (maxL := 1) (ret := none) (by decide +kernel) rfl ?_
  intro p e s m args below meth c s₁ B hml hv
  obtain ⟨rfl, hsz, hP, hK, hD0⟩ := hv
  have hx := B.exec
  have hb := B.bytes
  have hr := B.returns
  have hts : ∀ w ∈ allW, w.before _ s = true := fun w hw => atoms_spec (ws := w_M_forget) B.pre w (List.mem_cons_of_mem _ hw)
  have hown : s.vm.findClass R_M = some m.cls := findClass_of_methodNamed B.named
  have hlocks := B.notSynchronized
  subst hsz
  have hD := hD0.self (sz := s.heap.size)
  generalize hAe : va_A (cw_M_forget a_this a_colours a_froms a_sizes a_layersOf a_areas a_xs a_ys a_used a_cornerAt a_counts a_costs a_firsts a_manys a_fs a_px a_py a_groups a_joinF c_code c_width c_height c_isTraced c_outlines c_points c_hasPolygon c_of c_corners c_costSum c_hasCurves c_curveCount c_sharp c_allowed) s.heap.size = A at hD ⊢
  have hA : ∀ q : Nat, s.heap.size ≤ q → A q := fun q h => by rw [← hAe]; exact Or.inr h
  have hS : va_S A s.heap s.heap [] := va_S.rf
  clear hD0
  generalize hQf : MQ below (qq_M_forget dC dI cI cB cJ cZ a_this a_colours a_froms a_sizes a_layersOf a_areas a_xs a_ys a_used a_cornerAt a_counts a_costs a_firsts a_manys a_fs a_px a_py a_groups a_joinF c_code c_width c_height c_points c_of c_corners c_costSum c_curveCount c_sharp c_allowed A post) ([.ref a_this] : List Value).toArray s 0 0 A = Qf
  have hl := lv_entry ([.ref a_this]) (n := 1) (Nat.le_of_ble_eq_true rfl)
  rw [lg_entry_eq]
  generalize (lg_sl ([.ref a_this]) ++ List.replicate (1 - (lg_sl ([.ref a_this])).length) Slot.unset).toArray = ls at hl ⊢
  have hl : lv_has ls 1 [(0, .ref a_this)] := hl
  unfold wp_M_forget at h
  refine lv_aload_n hx hb d_M_forget_0 rfl (lv_at hl 0 rfl) ?_
  refine lv_iconst (v := 0) hx hb d_M_forget_1 (by decide) ?_
  refine va_put (D := (dC, dI)) (ci := 5) (v := .int (0 : Int32)) (ty := .boolean) (C := R_M) (T := F_M) (N := 32) hx hb hts i_M_in t_M t_M_ok n_M_ne hown hK hP hD hS 0 rfl rfl 4 (by decide) (hts _ q_665) (fun _ h9 => h9) rfl (by decide +kernel) (by rfl) (by rfl) (Nat.le_of_ble_eq_true rfl) d_M_forget_2 (fun H locs hP hD hS => ?_)
  have hP : va_P (dC, dI) vwCl (cw_M_forget a_this a_colours a_froms a_sizes a_layersOf a_areas a_xs a_ys a_used a_cornerAt a_counts a_costs a_firsts a_manys a_fs a_px a_py a_groups a_joinF c_code c_width c_height (0 : Int32) c_outlines c_points c_hasPolygon c_of c_corners c_costSum c_hasCurves c_curveCount c_sharp c_allowed) H := hP
  have hD : va_D A (cw_M_forget a_this a_colours a_froms a_sizes a_layersOf a_areas a_xs a_ys a_used a_cornerAt a_counts a_costs a_firsts a_manys a_fs a_px a_py a_groups a_joinF c_code c_width c_height (0 : Int32) c_outlines c_points c_hasPolygon c_of c_corners c_costSum c_hasCurves c_curveCount c_sharp c_allowed) := hD
  refine lv_aload_n hx hb d_M_forget_5 rfl (lv_at hl 0 rfl) ?_
  refine lv_iconst (v := 0) hx hb d_M_forget_6 (by decide) ?_
  refine va_put (D := (dC, dI)) (ci := 5) (v := .int (0 : Int32)) (ty := .int) (C := R_M) (T := F_M) (N := 32) hx hb hts i_M_in t_M t_M_ok n_M_ne hown hK hP hD hS 0 rfl rfl 5 (by decide) (hts _ q_666) (fun _ h9 => h9) rfl (by decide +kernel) (by rfl) (by rfl) (Nat.le_of_ble_eq_true rfl) d_M_forget_7 (fun H locs hP hD hS => ?_)
  have hP : va_P (dC, dI) vwCl (cw_M_forget a_this a_colours a_froms a_sizes a_layersOf a_areas a_xs a_ys a_used a_cornerAt a_counts a_costs a_firsts a_manys a_fs a_px a_py a_groups a_joinF c_code c_width c_height (0 : Int32) (0 : Int32) c_points c_hasPolygon c_of c_corners c_costSum c_hasCurves c_curveCount c_sharp c_allowed) H := hP
  have hD : va_D A (cw_M_forget a_this a_colours a_froms a_sizes a_layersOf a_areas a_xs a_ys a_used a_cornerAt a_counts a_costs a_firsts a_manys a_fs a_px a_py a_groups a_joinF c_code c_width c_height (0 : Int32) (0 : Int32) c_points c_hasPolygon c_of c_corners c_costSum c_hasCurves c_curveCount c_sharp c_allowed) := hD
  refine lv_aload_n hx hb d_M_forget_10 rfl (lv_at hl 0 rfl) ?_
  refine lv_iconst (v := 0) hx hb d_M_forget_11 (by decide) ?_
  refine va_put (D := (dC, dI)) (ci := 5) (v := .int (0 : Int32)) (ty := .boolean) (C := R_M) (T := F_M) (N := 32) hx hb hts i_M_in t_M t_M_ok n_M_ne hown hK hP hD hS 0 rfl rfl 14 (by decide) (hts _ q_675) (fun _ h9 => h9) rfl (by decide +kernel) (by rfl) (by rfl) (Nat.le_of_ble_eq_true rfl) d_M_forget_12 (fun H locs hP hD hS => ?_)
  have hP : va_P (dC, dI) vwCl (cw_M_forget a_this a_colours a_froms a_sizes a_layersOf a_areas a_xs a_ys a_used a_cornerAt a_counts a_costs a_firsts a_manys a_fs a_px a_py a_groups a_joinF c_code c_width c_height (0 : Int32) (0 : Int32) c_points (0 : Int32) c_of c_corners c_costSum c_hasCurves c_curveCount c_sharp c_allowed) H := hP
  have hD : va_D A (cw_M_forget a_this a_colours a_froms a_sizes a_layersOf a_areas a_xs a_ys a_used a_cornerAt a_counts a_costs a_firsts a_manys a_fs a_px a_py a_groups a_joinF c_code c_width c_height (0 : Int32) (0 : Int32) c_points (0 : Int32) c_of c_corners c_costSum c_hasCurves c_curveCount c_sharp c_allowed) := hD
  refine lv_aload_n hx hb d_M_forget_15 rfl (lv_at hl 0 rfl) ?_
  refine lv_iconst (v := 0) hx hb d_M_forget_16 (by decide) ?_
  refine va_put (D := (dC, dI)) (ci := 5) (v := .int (0 : Int32)) (ty := .boolean) (C := R_M) (T := F_M) (N := 32) hx hb hts i_M_in t_M t_M_ok n_M_ne hown hK hP hD hS 0 rfl rfl 21 (by decide) (hts _ q_682) (fun _ h9 => h9) rfl (by decide +kernel) (by rfl) (by rfl) (Nat.le_of_ble_eq_true rfl) d_M_forget_17 (fun H locs hP hD hS => ?_)
  have hP : va_P (dC, dI) vwCl (cw_M_forget a_this a_colours a_froms a_sizes a_layersOf a_areas a_xs a_ys a_used a_cornerAt a_counts a_costs a_firsts a_manys a_fs a_px a_py a_groups a_joinF c_code c_width c_height (0 : Int32) (0 : Int32) c_points (0 : Int32) c_of c_corners c_costSum (0 : Int32) c_curveCount c_sharp c_allowed) H := hP
  have hD : va_D A (cw_M_forget a_this a_colours a_froms a_sizes a_layersOf a_areas a_xs a_ys a_used a_cornerAt a_counts a_costs a_firsts a_manys a_fs a_px a_py a_groups a_joinF c_code c_width c_height (0 : Int32) (0 : Int32) c_points (0 : Int32) c_of c_corners c_costSum (0 : Int32) c_curveCount c_sharp c_allowed) := hD
  subst hQf
  exact W.vret hx hb hr (fun t ht hW => ⟨⟨((0 : Int32), (0 : Int32), (0 : Int32), (0 : Int32)), rfl, h, by rw [ht]; exact hP, va_K.moved hW.alike hK, hD⟩, hS.F ht⟩) hS.2.2 d_M_forget_20
def wp_M_put_J113 (n_colours : Nat) (c_width : Int32) (c_height : Int32) (c_code : Int32) (c_isTraced : Int32) (c_outlines : Int32) (c_hasPolygon : Int32) (c_hasCurves : Int32) (f_colours : Nat → Int32) (x5 : Int32) (post : Int32 → (Int32 × Int32 × Int32 × Int32 × Int32 × (Nat → Int32)) → Prop) : Prop :=
  (x5 ≤ 0 → post x5 (c_code, c_isTraced, c_outlines, c_hasPolygon, c_hasCurves, f_colours)) ∧ (¬ x5 ≤ 0 → ∃ Q119 : (Int32 × Int32 × Int32 × Int32) → Prop, wp_M_forget c_isTraced c_outlines c_hasPolygon c_hasCurves Q119 ∧ ∀ (u119_0 : Int32) (u119_1 : Int32) (u119_2 : Int32) (u119_3 : Int32), Q119 (u119_0, u119_1, u119_2, u119_3) → post x5 (c_code, u119_0, u119_1, u119_2, u119_3, f_colours))
def wp_M_put_J90 (n_colours : Nat) (c_width : Int32) (c_height : Int32) (c_code : Int32) (c_isTraced : Int32) (c_outlines : Int32) (c_hasPolygon : Int32) (c_hasCurves : Int32) (f_colours : Nat → Int32) (x1 : Int32) (x2 : Int32) (x3 : Int32) (x4 : Int32) (x6 : Int32) (y0 : Int32) (y1 : Int32) (back49 : (Int32 × Int32 × (Nat → Int32)) → Prop) (post : Int32 → (Int32 × Int32 × Int32 × Int32 × Int32 × (Nat → Int32)) → Prop) : Prop :=
  ∀ x5_91 : Int32, x5_91 = (y1 + y0) → vp_in (((16 : Int32) * x2) + x6) n_colours ∧ ∀ f106 : Nat → Int32, f106 = upd f_colours (((16 : Int32) * x2) + x6).toNatClampNeg x4 → ∀ x6_107 : Int32, x6_107 = x6 + (1 : Int32) → back49 (x5_91, x6_107, f106)
def wp_M_put_L49 (n_colours : Nat) (c_width : Int32) (c_height : Int32) (c_code : Int32) (c_isTraced : Int32) (c_outlines : Int32) (c_hasPolygon : Int32) (c_hasCurves : Int32) (x1 : Int32) (x2 : Int32) (x3 : Int32) (x4 : Int32) (post : Int32 → (Int32 × Int32 × Int32 × Int32 × Int32 × (Nat → Int32)) → Prop) (back49 : (Int32 × Int32 × (Nat → Int32)) → Prop) (x5 : Int32) (x6 : Int32) (f_colours : Nat → Int32) : Prop :=
  (c_width ≤ x6 → wp_M_put_J113 n_colours c_width c_height c_code c_isTraced c_outlines c_hasPolygon c_hasCurves f_colours x5 post) ∧ (¬ c_width ≤ x6 → (x3 ≤ (x6 - x1) → wp_M_put_J113 n_colours c_width c_height c_code c_isTraced c_outlines c_hasPolygon c_hasCurves f_colours x5 post) ∧ (¬ x3 ≤ (x6 - x1) → vp_in (((16 : Int32) * x2) + x6) n_colours ∧ ((f_colours (((16 : Int32) * x2) + x6).toNatClampNeg) = x4 → wp_M_put_J90 n_colours c_width c_height c_code c_isTraced c_outlines c_hasPolygon c_hasCurves f_colours x1 x2 x3 x4 x6 (0 : Int32) x5 back49 post) ∧ (¬ (f_colours (((16 : Int32) * x2) + x6).toNatClampNeg) = x4 → wp_M_put_J90 n_colours c_width c_height c_code c_isTraced c_outlines c_hasPolygon c_hasCurves f_colours x1 x2 x3 x4 x6 (1 : Int32) x5 back49 post)))
def wp_M_put_J35 (n_colours : Nat) (c_width : Int32) (c_height : Int32) (c_code : Int32) (c_isTraced : Int32) (c_outlines : Int32) (c_hasPolygon : Int32) (c_hasCurves : Int32) (f_colours : Nat → Int32) (x1 : Int32) (x2 : Int32) (x3 : Int32) (x4 : Int32) (y0 : Int32) (post : Int32 → (Int32 × Int32 × Int32 × Int32 × Int32 × (Nat → Int32)) → Prop) : Prop :=
  ∃ Q35 : Int32 → Int32 → Prop, wp_M_refuses c_code y0 Q35 ∧ ∀ (r35 : Int32) (u35_0 : Int32), Q35 r35 u35_0 → (r35 = 0 → lpW (fun b z => wp_M_put_L49 n_colours c_width c_height u35_0 c_isTraced c_outlines c_hasPolygon c_hasCurves x1 x2 x3 x4 post b z.1 z.2.1 z.2.2) ((0 : Int32), x1, f_colours)) ∧ (¬ r35 = 0 → post (0 : Int32) (u35_0, c_isTraced, c_outlines, c_hasPolygon, c_hasCurves, f_colours))
def wp_M_put_J30 (n_colours : Nat) (c_width : Int32) (c_height : Int32) (c_code : Int32) (c_isTraced : Int32) (c_outlines : Int32) (c_hasPolygon : Int32) (c_hasCurves : Int32) (f_colours : Nat → Int32) (x1 : Int32) (x2 : Int32) (x3 : Int32) (x4 : Int32) (post : Int32 → (Int32 × Int32 × Int32 × Int32 × Int32 × (Nat → Int32)) → Prop) : Prop :=
  wp_M_put_J35 n_colours c_width c_height c_code c_isTraced c_outlines c_hasPolygon c_hasCurves f_colours x1 x2 x3 x4 (2 : Int32) post
def wp_M_put (n_colours : Nat) (c_code : Int32) (c_width : Int32) (c_height : Int32) (c_isTraced : Int32) (c_outlines : Int32) (c_hasPolygon : Int32) (c_hasCurves : Int32) (f_colours : Nat → Int32) (x1 : Int32) (x2 : Int32) (x3 : Int32) (x4 : Int32) (post : Int32 → (Int32 × Int32 × Int32 × Int32 × Int32 × (Nat → Int32)) → Prop) : Prop :=
  ∃ Q4 : Int32 → Unit → Prop, wp_M_isSample c_width c_height x1 x2 Q4 ∧ ∀ (r4 : Int32), Q4 r4 () → (¬ r4 = 0 → (x3 < (1 : Int32) → wp_M_put_J30 n_colours c_width c_height c_code c_isTraced c_outlines c_hasPolygon c_hasCurves f_colours x1 x2 x3 x4 post) ∧ (¬ x3 < (1 : Int32) → ∃ Q24 : Int32 → Unit → Prop, wp_M_in x4 (0 : Int32) (7 : Int32) Q24 ∧ ∀ (r24 : Int32), Q24 r24 () → (¬ r24 = 0 → wp_M_put_J35 n_colours c_width c_height c_code c_isTraced c_outlines c_hasPolygon c_hasCurves f_colours x1 x2 x3 x4 (0 : Int32) post) ∧ (r24 = 0 → wp_M_put_J30 n_colours c_width c_height c_code c_isTraced c_outlines c_hasPolygon c_hasCurves f_colours x1 x2 x3 x4 post))) ∧ (r4 = 0 → wp_M_put_J35 n_colours c_width c_height c_code c_isTraced c_outlines c_hasPolygon c_hasCurves f_colours x1 x2 x3 x4 (1 : Int32) post)
abbrev cw_M_put (cI : ClassId) (a_this a_colours a_froms a_sizes a_layersOf a_areas a_xs a_ys a_used a_cornerAt a_counts a_costs a_firsts a_manys a_fs a_px a_py a_groups a_joinF : Nat) (n_colours : Nat) (c_code : Int32) (c_width : Int32) (c_height : Int32) (c_isTraced : Int32) (c_outlines : Int32) (c_points : Int32) (c_hasPolygon : Int32) (c_of : Int32) (c_corners : Int32) (c_costSum : Int32) (c_hasCurves : Int32) (c_curveCount : Int32) (c_sharp : Int32) (c_allowed : Int32) (f_colours : Nat → Int32) : va_W := [(a_this, .inr (5, [.int c_code, .int c_width, .int c_height, .ref a_colours, .int c_isTraced, .int c_outlines, .ref a_froms, .ref a_sizes, .ref a_layersOf, .ref a_areas, .int c_points, .ref a_xs, .ref a_ys, .ref a_used, .int c_hasPolygon, .int c_of, .int c_corners, .int c_costSum, .ref a_cornerAt, .ref a_counts, .ref a_costs, .int c_hasCurves, .int c_curveCount, .ref a_firsts, .ref a_manys, .ref a_fs, .int c_sharp, .int c_allowed, .ref a_px, .ref a_py, .ref a_groups, .ref a_joinF])), (a_colours, .inl (cI, n_colours, .inl f_colours))]
abbrev qq_M_put (dC : Nat → ClassId) (dI : Nat → Nat → Nat) (cI cB cJ cZ : ClassId) (a_this a_colours a_froms a_sizes a_layersOf a_areas a_xs a_ys a_used a_cornerAt a_counts a_costs a_firsts a_manys a_fs a_px a_py a_groups a_joinF : Nat) (n_colours : Nat) (c_width : Int32) (c_height : Int32) (c_points : Int32) (c_of : Int32) (c_corners : Int32) (c_costSum : Int32) (c_curveCount : Int32) (c_sharp : Int32) (c_allowed : Int32) (A : Nat → Prop) (post : Int32 → (Int32 × Int32 × Int32 × Int32 × Int32 × (Nat → Int32)) → Prop) : Array Value → State → Outcome → State → Prop := va_Qi post (fun u t => va_P (dC, dI) vwCl (cw_M_put cI a_this a_colours a_froms a_sizes a_layersOf a_areas a_xs a_ys a_used a_cornerAt a_counts a_costs a_firsts a_manys a_fs a_px a_py a_groups a_joinF n_colours u.1 c_width c_height u.2.1 u.2.2.1 c_points u.2.2.2.1 c_of c_corners c_costSum u.2.2.2.2.1 c_curveCount c_sharp c_allowed u.2.2.2.2.2) t.heap ∧ va_K (dC, dI) vwCl [(cI, .int), (cB, .byte), (cJ, .long), (cZ, .boolean)] t ∧ va_D A (cw_M_put cI a_this a_colours a_froms a_sizes a_layersOf a_areas a_xs a_ys a_used a_cornerAt a_counts a_costs a_firsts a_manys a_fs a_px a_py a_groups a_joinF n_colours u.1 c_width c_height u.2.1 u.2.2.1 c_points u.2.2.2.1 c_of c_corners c_costSum u.2.2.2.2.1 c_curveCount c_sharp c_allowed u.2.2.2.2.2)) A
set_option maxHeartbeats 4000000 in
set_option maxRecDepth 100000 in
theorem c_M_put (l : Launch) (dC : Nat → ClassId) (dI : Nat → Nat → Nat) (cI cB cJ cZ : ClassId) (a_this a_colours a_froms a_sizes a_layersOf a_areas a_xs a_ys a_used a_cornerAt a_counts a_costs a_firsts a_manys a_fs a_px a_py a_groups a_joinF : Nat) (sz : Nat) (n_colours : Nat) (c_code : Int32) (c_width : Int32) (c_height : Int32) (c_isTraced : Int32) (c_outlines : Int32) (c_points : Int32) (c_hasPolygon : Int32) (c_of : Int32) (c_corners : Int32) (c_costSum : Int32) (c_hasCurves : Int32) (c_curveCount : Int32) (c_sharp : Int32) (c_allowed : Int32) (f_colours : Nat → Int32) (x1 : Int32) (x2 : Int32) (x3 : Int32) (x4 : Int32) (post : Int32 → (Int32 × Int32 × Int32 × Int32 × Int32 × (Nat → Int32)) → Prop) (h : wp_M_put n_colours c_code c_width c_height c_isTraced c_outlines c_hasPolygon c_hasCurves f_colours x1 x2 x3 x4 post) : Met l y_M_put w_M_put ({ frames := 2, cells := 0, slots := 0, locals := 44 }) (va_Pc [.ref a_this, .int x1, .int x2, .int x3, .int x4] (fun U => U.heap.size = sz ∧ va_P (dC, dI) vwCl (cw_M_put cI a_this a_colours a_froms a_sizes a_layersOf a_areas a_xs a_ys a_used a_cornerAt a_counts a_costs a_firsts a_manys a_fs a_px a_py a_groups a_joinF n_colours c_code c_width c_height c_isTraced c_outlines c_points c_hasPolygon c_of c_corners c_costSum c_hasCurves c_curveCount c_sharp c_allowed f_colours) U.heap ∧ va_K (dC, dI) vwCl [(cI, .int), (cB, .byte), (cJ, .long), (cZ, .boolean)] U ∧ va_D (fun _ => True) (cw_M_put cI a_this a_colours a_froms a_sizes a_layersOf a_areas a_xs a_ys a_used a_cornerAt a_counts a_costs a_firsts a_manys a_fs a_px a_py a_groups a_joinF n_colours c_code c_width c_height c_isTraced c_outlines c_points c_hasPolygon c_of c_corners c_costSum c_hasCurves c_curveCount c_sharp c_allowed f_colours))) (qq_M_put dC dI cI cB cJ cZ a_this a_colours a_froms a_sizes a_layersOf a_areas a_xs a_ys a_used a_cornerAt a_counts a_costs a_firsts a_manys a_fs a_px a_py a_groups a_joinF n_colours c_width c_height c_points c_of c_corners c_costSum c_curveCount c_sharp c_allowed (va_A (cw_M_put cI a_this a_colours a_froms a_sizes a_layersOf a_areas a_xs a_ys a_used a_cornerAt a_counts a_costs a_firsts a_manys a_fs a_px a_py a_groups a_joinF n_colours c_code c_width c_height c_isTraced c_outlines c_points c_hasPolygon c_of c_corners c_costSum c_hasCurves c_curveCount c_sharp c_allowed f_colours) sz) post) 0 0 (va_A (cw_M_put cI a_this a_colours a_froms a_sizes a_layersOf a_areas a_xs a_ys a_used a_cornerAt a_counts a_costs a_firsts a_manys a_fs a_px a_py a_groups a_joinF n_colours c_code c_width c_height c_isTraced c_outlines c_points c_hasPolygon c_of c_corners c_costSum c_hasCurves c_curveCount c_sharp c_allowed f_colours) sz) := by
  refine Met.ofW (cc := b_M_put) (maxL := 7) (ret := (some .int)) (by decide +kernel) rfl ?_
  intro p e s m args below meth c s₁ B hml hv
  obtain ⟨rfl, hsz, hP, hK, hD0⟩ := hv
  have hx := B.exec
  have hb := B.bytes
  have hr := B.returns
  have hts : ∀ w ∈ allW, w.before _ s = true := fun w hw => atoms_spec (ws := w_M_put) B.pre w (List.mem_cons_of_mem _ hw)
  have hown : s.vm.findClass R_M = some m.cls := findClass_of_methodNamed B.named
  have hlocks := B.notSynchronized
  subst hsz
  have hD := hD0.self (sz := s.heap.size)
  generalize hAe : va_A (cw_M_put cI a_this a_colours a_froms a_sizes a_layersOf a_areas a_xs a_ys a_used a_cornerAt a_counts a_costs a_firsts a_manys a_fs a_px a_py a_groups a_joinF n_colours c_code c_width c_height c_isTraced c_outlines c_points c_hasPolygon c_of c_corners c_costSum c_hasCurves c_curveCount c_sharp c_allowed f_colours) s.heap.size = A at hD ⊢
  have hA : ∀ q : Nat, s.heap.size ≤ q → A q := fun q h => by rw [← hAe]; exact Or.inr h
  have hS : va_S A s.heap s.heap [] := va_S.rf
  clear hD0
  generalize hQf : MQ below (qq_M_put dC dI cI cB cJ cZ a_this a_colours a_froms a_sizes a_layersOf a_areas a_xs a_ys a_used a_cornerAt a_counts a_costs a_firsts a_manys a_fs a_px a_py a_groups a_joinF n_colours c_width c_height c_points c_of c_corners c_costSum c_curveCount c_sharp c_allowed A post) ([.ref a_this, .int x1, .int x2, .int x3, .int x4] : List Value).toArray s 0 0 A = Qf
  have hl := lv_entry ([.ref a_this, .int x1, .int x2, .int x3, .int x4]) (n := 7) (Nat.le_of_ble_eq_true rfl)
  rw [lg_entry_eq]
  generalize (lg_sl ([.ref a_this, .int x1, .int x2, .int x3, .int x4]) ++ List.replicate (7 - (lg_sl ([.ref a_this, .int x1, .int x2, .int x3, .int x4])).length) Slot.unset).toArray = ls at hl ⊢
  have hl : lv_has ls 7 [(0, .ref a_this), (1, .int x1), (2, .int x2), (3, .int x3), (4, .int x4)] := hl
  unfold wp_M_put at h
  have J113 : ∀ (x5_j113 : Int32) (c_code_j113 : Int32) (c_isTraced_j113 : Int32) (c_outlines_j113 : Int32) (c_hasPolygon_j113 : Int32) (c_hasCurves_j113 : Int32) (f_colours_j113 : Nat → Int32) (H : Heap) (locs : List Loc) (ls : Array Slot), wp_M_put_J113 n_colours c_width c_height c_code_j113 c_isTraced_j113 c_outlines_j113 c_hasPolygon_j113 c_hasCurves_j113 f_colours_j113 x5_j113 post → va_P (dC, dI) vwCl (cw_M_put cI a_this a_colours a_froms a_sizes a_layersOf a_areas a_xs a_ys a_used a_cornerAt a_counts a_costs a_firsts a_manys a_fs a_px a_py a_groups a_joinF n_colours c_code_j113 c_width c_height c_isTraced_j113 c_outlines_j113 c_points c_hasPolygon_j113 c_of c_corners c_costSum c_hasCurves_j113 c_curveCount c_sharp c_allowed f_colours_j113) H → va_D A (cw_M_put cI a_this a_colours a_froms a_sizes a_layersOf a_areas a_xs a_ys a_used a_cornerAt a_counts a_costs a_firsts a_manys a_fs a_px a_py a_groups a_joinF n_colours c_code_j113 c_width c_height c_isTraced_j113 c_outlines_j113 c_points c_hasPolygon_j113 c_of c_corners c_costSum c_hasCurves_j113 c_curveCount c_sharp c_allowed f_colours_j113) → va_S A s.heap H locs → lv_has ls 7 [(0, .ref a_this), (5, .int x5_j113)] → W p l e (headSpec w_M_put ({ frames := 2, cells := 0, slots := 0, locals := 44 })).room s m ([.ref a_this, .int x1, .int x2, .int x3, .int x4] : List Value).toArray below meth c H locs 0 0 Qf (F0 m 113 ls []) := by
    intro x5_j113 c_code_j113 c_isTraced_j113 c_outlines_j113 c_hasPolygon_j113 c_hasCurves_j113 f_colours_j113 H locs ls h hP hD hS hl
    unfold wp_M_put_J113 at h
    refine lv_iload hx hb d_M_put_113 (lv_at hl 1 rfl) ?_
    refine lv_if_le (tgt := 122) hx hb d_M_put_115 (by decide) (fun cc_ => ?_) (fun cc_ => ?_)
    · have h := h.1 cc_
      refine lv_iload hx hb d_M_put_122 (lv_at hl 1 rfl) ?_
      subst hQf
      exact W.iret (v := x5_j113) hx hb hr (fun t ht hW => ⟨⟨x5_j113, (c_code_j113, c_isTraced_j113, c_outlines_j113, c_hasPolygon_j113, c_hasCurves_j113, f_colours_j113), rfl, h, by rw [ht]; exact hP, va_K.moved hW.alike hK, hD⟩, hS.F ht⟩) hS.2.2 d_M_put_124
    · have h := h.2 cc_
      refine lv_aload_n hx hb d_M_put_118 rfl (lv_at hl 0 rfl) ?_
      obtain ⟨Q119, hq119, h⟩ := h
      have hPc := hP.sub (ws' := (cw_M_forget a_this a_colours a_froms a_sizes a_layersOf a_areas a_xs a_ys a_used a_cornerAt a_counts a_costs a_firsts a_manys a_fs a_px a_py a_groups a_joinF c_code_j113 c_width c_height c_isTraced_j113 c_outlines_j113 c_points c_hasPolygon_j113 c_of c_corners c_costSum c_hasCurves_j113 c_curveCount c_sharp c_allowed)) [0] rfl
      have hDc := hD.sub (ws' := (cw_M_forget a_this a_colours a_froms a_sizes a_layersOf a_areas a_xs a_ys a_used a_cornerAt a_counts a_costs a_firsts a_manys a_fs a_px a_py a_groups a_joinF c_code_j113 c_width c_height c_isTraced_j113 c_outlines_j113 c_points c_hasPolygon_j113 c_of c_corners c_costSum c_hasCurves_j113 c_curveCount c_sharp c_allowed)) [0] (by decide) rfl
      have hFc := va_free (wc := (cw_M_forget a_this a_colours a_froms a_sizes a_layersOf a_areas a_xs a_ys a_used a_cornerAt a_counts a_costs a_firsts a_manys a_fs a_px a_py a_groups a_joinF c_code_j113 c_width c_height c_isTraced_j113 c_outlines_j113 c_points c_hasPolygon_j113 c_of c_corners c_costSum c_hasCurves_j113 c_curveCount c_sharp c_allowed)) hD hS hA [0] rfl
      refine va_callv (va_runV (As := []) (rest := []) ⟨hx, hb, hml, hown, hts⟩ (c_M_forget l dC dI cI cB cJ cZ a_this a_colours a_froms a_sizes a_layersOf a_areas a_xs a_ys a_used a_cornerAt a_counts a_costs a_firsts a_manys a_fs a_px a_py a_groups a_joinF H.size c_code_j113 c_width c_height c_isTraced_j113 c_outlines_j113 c_points c_hasPolygon_j113 c_of c_corners c_costSum c_hasCurves_j113 c_curveCount c_sharp c_allowed Q119 hq119) (cwV 0 hts (goodV q_778 q_780 q_p32 q_7 q_781) rfl rfl rfl (by decide +kernel) ⟨Nat.le_of_ble_eq_true rfl, Nat.le_of_ble_eq_true rfl⟩) ⟨fun a U g mk q => by obtain ⟨q0, q1, qP, qK, qD⟩ := q; exact ⟨q0, q1, qP, va_K.moved (u := U) (U := U.calling g mk a) (Vm.Alike.refl U.vm) qK, qD⟩, va_recv hK hPc (ci := 5) (q0 := 0) rfl rfl, fun U hU hW => ⟨rfl, by rw [hU], by rw [hU]; exact hPc, va_K.moved hW.alike hK, hDc.weaken (fun _ _ _ _ => trivial)⟩⟩ rfl rfl hl.1 rfl (lv_room (Nat.le_of_ble_eq_true rfl)) d_M_put_119 ⟨Nat.le_of_ble_eq_true rfl, Nat.le_of_ble_eq_true rfl⟩) hS (fun q _ h => hFc q h) hFc (fun u119 t H1 locs ht hvm hw hB hz1 hk1 hS => ?_)
      obtain ⟨u119_0, u119_1, u119_2, u119_3⟩ := u119
      obtain ⟨hP1, -, hD1⟩ := hB
      rw [ht] at hP1
      have h := h u119_0 u119_1 u119_2 u119_3 hw
      obtain ⟨hP, hD⟩ := va_join (wr := [(a_colours, .inl (cI, n_colours, .inl f_colours_j113))]) (w1 := (cw_M_forget a_this a_colours a_froms a_sizes a_layersOf a_areas a_xs a_ys a_used a_cornerAt a_counts a_costs a_firsts a_manys a_fs a_px a_py a_groups a_joinF c_code_j113 c_width c_height u119_0 u119_1 c_points u119_2 c_of c_corners c_costSum u119_3 c_curveCount c_sharp c_allowed)) hP hD [0] [1] rfl rfl (by decide) (by decide) hk1 hFc hP1 hD1
      clear hP1 hD1 hk1 hPc hDc hFc
      generalize H1 = H at hP hS ⊢
      have hP : va_P (dC, dI) vwCl (cw_M_put cI a_this a_colours a_froms a_sizes a_layersOf a_areas a_xs a_ys a_used a_cornerAt a_counts a_costs a_firsts a_manys a_fs a_px a_py a_groups a_joinF n_colours c_code_j113 c_width c_height u119_0 u119_1 c_points u119_2 c_of c_corners c_costSum u119_3 c_curveCount c_sharp c_allowed f_colours_j113) H := hP.sub [1, 0] rfl
      have hD : va_D A (cw_M_put cI a_this a_colours a_froms a_sizes a_layersOf a_areas a_xs a_ys a_used a_cornerAt a_counts a_costs a_firsts a_manys a_fs a_px a_py a_groups a_joinF n_colours c_code_j113 c_width c_height u119_0 u119_1 c_points u119_2 c_of c_corners c_costSum u119_3 c_curveCount c_sharp c_allowed f_colours_j113) := hD.sub [1, 0] (by decide) rfl
      refine lv_iload hx hb d_M_put_122 (lv_at hl 1 rfl) ?_
      subst hQf
      exact W.iret (v := x5_j113) hx hb hr (fun t ht hW => ⟨⟨x5_j113, (c_code_j113, u119_0, u119_1, u119_2, u119_3, f_colours_j113), rfl, h, by rw [ht]; exact hP, va_K.moved hW.alike hK, hD⟩, hS.F ht⟩) hS.2.2 d_M_put_124
  have J35 : ∀ (x1_j35 : Int32) (x2_j35 : Int32) (x3_j35 : Int32) (x4_j35 : Int32) (y0_j35 : Int32) (c_code_j35 : Int32) (c_isTraced_j35 : Int32) (c_outlines_j35 : Int32) (c_hasPolygon_j35 : Int32) (c_hasCurves_j35 : Int32) (f_colours_j35 : Nat → Int32) (H : Heap) (locs : List Loc) (ls : Array Slot), wp_M_put_J35 n_colours c_width c_height c_code_j35 c_isTraced_j35 c_outlines_j35 c_hasPolygon_j35 c_hasCurves_j35 f_colours_j35 x1_j35 x2_j35 x3_j35 x4_j35 y0_j35 post → va_P (dC, dI) vwCl (cw_M_put cI a_this a_colours a_froms a_sizes a_layersOf a_areas a_xs a_ys a_used a_cornerAt a_counts a_costs a_firsts a_manys a_fs a_px a_py a_groups a_joinF n_colours c_code_j35 c_width c_height c_isTraced_j35 c_outlines_j35 c_points c_hasPolygon_j35 c_of c_corners c_costSum c_hasCurves_j35 c_curveCount c_sharp c_allowed f_colours_j35) H → va_D A (cw_M_put cI a_this a_colours a_froms a_sizes a_layersOf a_areas a_xs a_ys a_used a_cornerAt a_counts a_costs a_firsts a_manys a_fs a_px a_py a_groups a_joinF n_colours c_code_j35 c_width c_height c_isTraced_j35 c_outlines_j35 c_points c_hasPolygon_j35 c_of c_corners c_costSum c_hasCurves_j35 c_curveCount c_sharp c_allowed f_colours_j35) → va_S A s.heap H locs → lv_has ls 7 [(0, .ref a_this), (1, .int x1_j35), (2, .int x2_j35), (3, .int x3_j35), (4, .int x4_j35)] → W p l e (headSpec w_M_put ({ frames := 2, cells := 0, slots := 0, locals := 44 })).room s m ([.ref a_this, .int x1, .int x2, .int x3, .int x4] : List Value).toArray below meth c H locs 0 0 Qf (F0 m 35 ls [.int y0_j35, .ref a_this]) := by
    intro x1_j35 x2_j35 x3_j35 x4_j35 y0_j35 c_code_j35 c_isTraced_j35 c_outlines_j35 c_hasPolygon_j35 c_hasCurves_j35 f_colours_j35 H locs ls h hP hD hS hl
    unfold wp_M_put_J35 at h
    obtain ⟨Q35, hq35, h⟩ := h
    have hPc := hP.sub (ws' := (cw_M_refuses a_this a_colours a_froms a_sizes a_layersOf a_areas a_xs a_ys a_used a_cornerAt a_counts a_costs a_firsts a_manys a_fs a_px a_py a_groups a_joinF c_code_j35 c_width c_height c_isTraced_j35 c_outlines_j35 c_points c_hasPolygon_j35 c_of c_corners c_costSum c_hasCurves_j35 c_curveCount c_sharp c_allowed)) [0] rfl
    have hDc := hD.sub (ws' := (cw_M_refuses a_this a_colours a_froms a_sizes a_layersOf a_areas a_xs a_ys a_used a_cornerAt a_counts a_costs a_firsts a_manys a_fs a_px a_py a_groups a_joinF c_code_j35 c_width c_height c_isTraced_j35 c_outlines_j35 c_points c_hasPolygon_j35 c_of c_corners c_costSum c_hasCurves_j35 c_curveCount c_sharp c_allowed)) [0] (by decide) rfl
    have hFc := va_free (wc := (cw_M_refuses a_this a_colours a_froms a_sizes a_layersOf a_areas a_xs a_ys a_used a_cornerAt a_counts a_costs a_firsts a_manys a_fs a_px a_py a_groups a_joinF c_code_j35 c_width c_height c_isTraced_j35 c_outlines_j35 c_points c_hasPolygon_j35 c_of c_corners c_costSum c_hasCurves_j35 c_curveCount c_sharp c_allowed)) hD hS hA [0] rfl
    refine va_calli (va_runV (As := [.int y0_j35]) (rest := []) ⟨hx, hb, hml, hown, hts⟩ (c_M_refuses l dC dI cI cB cJ cZ a_this a_colours a_froms a_sizes a_layersOf a_areas a_xs a_ys a_used a_cornerAt a_counts a_costs a_firsts a_manys a_fs a_px a_py a_groups a_joinF H.size c_code_j35 c_width c_height c_isTraced_j35 c_outlines_j35 c_points c_hasPolygon_j35 c_of c_corners c_costSum c_hasCurves_j35 c_curveCount c_sharp c_allowed y0_j35 Q35 hq35) (cwV 1 hts (goodV q_774 q_776 q_p31 q_7 q_777) rfl rfl rfl (by decide +kernel) ⟨Nat.le_of_ble_eq_true rfl, Nat.le_of_ble_eq_true rfl⟩) ⟨fun a U g mk q => by obtain ⟨q0, q1, qP, qK, qD⟩ := q; exact ⟨q0, q1, qP, va_K.moved (u := U) (U := U.calling g mk a) (Vm.Alike.refl U.vm) qK, qD⟩, va_recv hK hPc (ci := 5) (q0 := 0) rfl rfl, fun U hU hW => ⟨rfl, by rw [hU], by rw [hU]; exact hPc, va_K.moved hW.alike hK, hDc.weaken (fun _ _ _ _ => trivial)⟩⟩ rfl rfl hl.1 rfl (lv_room (Nat.le_of_ble_eq_true rfl)) d_M_put_35 ⟨Nat.le_of_ble_eq_true rfl, Nat.le_of_ble_eq_true rfl⟩) hS (fun q _ h => hFc q h) hFc (fun r35 u35 t H1 locs ht hvm hw hB hz1 hk1 hS => ?_)
    obtain ⟨u35_0, rfl⟩ : ∃ z, z = u35 := ⟨_, rfl⟩
    obtain ⟨hP1, -, hD1⟩ := hB
    rw [ht] at hP1
    have h := h r35 u35_0 hw
    obtain ⟨hP, hD⟩ := va_join (wr := [(a_colours, .inl (cI, n_colours, .inl f_colours_j35))]) (w1 := (cw_M_refuses a_this a_colours a_froms a_sizes a_layersOf a_areas a_xs a_ys a_used a_cornerAt a_counts a_costs a_firsts a_manys a_fs a_px a_py a_groups a_joinF u35_0 c_width c_height c_isTraced_j35 c_outlines_j35 c_points c_hasPolygon_j35 c_of c_corners c_costSum c_hasCurves_j35 c_curveCount c_sharp c_allowed)) hP hD [0] [1] rfl rfl (by decide) (by decide) hk1 hFc hP1 hD1
    clear hP1 hD1 hk1 hPc hDc hFc
    generalize H1 = H at hP hS ⊢
    have hP : va_P (dC, dI) vwCl (cw_M_put cI a_this a_colours a_froms a_sizes a_layersOf a_areas a_xs a_ys a_used a_cornerAt a_counts a_costs a_firsts a_manys a_fs a_px a_py a_groups a_joinF n_colours u35_0 c_width c_height c_isTraced_j35 c_outlines_j35 c_points c_hasPolygon_j35 c_of c_corners c_costSum c_hasCurves_j35 c_curveCount c_sharp c_allowed f_colours_j35) H := hP.sub [1, 0] rfl
    have hD : va_D A (cw_M_put cI a_this a_colours a_froms a_sizes a_layersOf a_areas a_xs a_ys a_used a_cornerAt a_counts a_costs a_firsts a_manys a_fs a_px a_py a_groups a_joinF n_colours u35_0 c_width c_height c_isTraced_j35 c_outlines_j35 c_points c_hasPolygon_j35 c_of c_corners c_costSum c_hasCurves_j35 c_curveCount c_sharp c_allowed f_colours_j35) := hD.sub [1, 0] (by decide) rfl
    refine lv_if_eq (tgt := 43) hx hb d_M_put_38 (by decide) (fun cc_ => ?_) (fun cc_ => ?_)
    · have h := h.1 cc_
      refine lv_iconst (v := 0) hx hb d_M_put_43 (by decide) ?_
      refine lv_istore (lv' := [(5, .int (0 : Int32)), (0, .ref a_this), (1, .int x1_j35), (2, .int x2_j35), (3, .int x3_j35), (4, .int x4_j35)]) hx hb d_M_put_44 hl (by decide) rfl (fun ls hl => ?_)
      refine lv_iload_n hx hb d_M_put_46 rfl (lv_at hl 2 rfl) ?_
      refine lv_istore (lv' := [(6, .int x1_j35), (5, .int (0 : Int32)), (0, .ref a_this), (1, .int x1_j35), (2, .int x2_j35), (3, .int x3_j35), (4, .int x4_j35)]) hx hb d_M_put_47 hl (by decide) rfl (fun ls hl => ?_)
      refine lpW_ind (Wp := fun z => ∀ (H : Heap) (locs : List Loc) (ls : Array Slot), va_P (dC, dI) vwCl (cw_M_put cI a_this a_colours a_froms a_sizes a_layersOf a_areas a_xs a_ys a_used a_cornerAt a_counts a_costs a_firsts a_manys a_fs a_px a_py a_groups a_joinF n_colours u35_0 c_width c_height c_isTraced_j35 c_outlines_j35 c_points c_hasPolygon_j35 c_of c_corners c_costSum c_hasCurves_j35 c_curveCount c_sharp c_allowed z.2.2) H → va_D A (cw_M_put cI a_this a_colours a_froms a_sizes a_layersOf a_areas a_xs a_ys a_used a_cornerAt a_counts a_costs a_firsts a_manys a_fs a_px a_py a_groups a_joinF n_colours u35_0 c_width c_height c_isTraced_j35 c_outlines_j35 c_points c_hasPolygon_j35 c_of c_corners c_costSum c_hasCurves_j35 c_curveCount c_sharp c_allowed z.2.2) → va_S A s.heap H locs → lv_has ls 7 [(0, .ref a_this), (1, .int x1_j35), (2, .int x2_j35), (3, .int x3_j35), (4, .int x4_j35), (5, .int z.1), (6, .int z.2.1)] → W p l e (headSpec w_M_put ({ frames := 2, cells := 0, slots := 0, locals := 44 })).room s m ([.ref a_this, .int x1, .int x2, .int x3, .int x4] : List Value).toArray below meth c H locs 0 0 Qf (F0 m 49 ls [])) h ?_ _ _ _ hP hD hS (lv_sub hl [2, 3, 4, 5, 6, 1, 0] rfl)
      rintro ⟨x5_l49, x6_l49, f_colours_l49⟩ back49 h hb49 H locs ls hP hD hS hl
      have h : wp_M_put_L49 n_colours c_width c_height u35_0 c_isTraced_j35 c_outlines_j35 c_hasPolygon_j35 c_hasCurves_j35 x1_j35 x2_j35 x3_j35 x4_j35 post back49 x5_l49 x6_l49 f_colours_l49 := h
      have hP : va_P (dC, dI) vwCl (cw_M_put cI a_this a_colours a_froms a_sizes a_layersOf a_areas a_xs a_ys a_used a_cornerAt a_counts a_costs a_firsts a_manys a_fs a_px a_py a_groups a_joinF n_colours u35_0 c_width c_height c_isTraced_j35 c_outlines_j35 c_points c_hasPolygon_j35 c_of c_corners c_costSum c_hasCurves_j35 c_curveCount c_sharp c_allowed f_colours_l49) H := hP
      have hD : va_D A (cw_M_put cI a_this a_colours a_froms a_sizes a_layersOf a_areas a_xs a_ys a_used a_cornerAt a_counts a_costs a_firsts a_manys a_fs a_px a_py a_groups a_joinF n_colours u35_0 c_width c_height c_isTraced_j35 c_outlines_j35 c_points c_hasPolygon_j35 c_of c_corners c_costSum c_hasCurves_j35 c_curveCount c_sharp c_allowed f_colours_l49) := hD
      have hl : lv_has ls 7 [(0, .ref a_this), (1, .int x1_j35), (2, .int x2_j35), (3, .int x3_j35), (4, .int x4_j35), (5, .int x5_l49), (6, .int x6_l49)] := hl
      unfold wp_M_put_L49 at h
      have J90 : ∀ (x6_j90 : Int32) (y0_j90 : Int32) (y1_j90 : Int32) (f_colours_j90 : Nat → Int32) (H : Heap) (locs : List Loc) (ls : Array Slot), wp_M_put_J90 n_colours c_width c_height u35_0 c_isTraced_j35 c_outlines_j35 c_hasPolygon_j35 c_hasCurves_j35 f_colours_j90 x1_j35 x2_j35 x3_j35 x4_j35 x6_j90 y0_j90 y1_j90 back49 post → va_P (dC, dI) vwCl (cw_M_put cI a_this a_colours a_froms a_sizes a_layersOf a_areas a_xs a_ys a_used a_cornerAt a_counts a_costs a_firsts a_manys a_fs a_px a_py a_groups a_joinF n_colours u35_0 c_width c_height c_isTraced_j35 c_outlines_j35 c_points c_hasPolygon_j35 c_of c_corners c_costSum c_hasCurves_j35 c_curveCount c_sharp c_allowed f_colours_j90) H → va_D A (cw_M_put cI a_this a_colours a_froms a_sizes a_layersOf a_areas a_xs a_ys a_used a_cornerAt a_counts a_costs a_firsts a_manys a_fs a_px a_py a_groups a_joinF n_colours u35_0 c_width c_height c_isTraced_j35 c_outlines_j35 c_points c_hasPolygon_j35 c_of c_corners c_costSum c_hasCurves_j35 c_curveCount c_sharp c_allowed f_colours_j90) → va_S A s.heap H locs → lv_has ls 7 [(0, .ref a_this), (1, .int x1_j35), (2, .int x2_j35), (3, .int x3_j35), (4, .int x4_j35), (6, .int x6_j90)] → W p l e (headSpec w_M_put ({ frames := 2, cells := 0, slots := 0, locals := 44 })).room s m ([.ref a_this, .int x1, .int x2, .int x3, .int x4] : List Value).toArray below meth c H locs 0 0 Qf (F0 m 90 ls [.int y0_j90, .int y1_j90]) := by
        intro x6_j90 y0_j90 y1_j90 f_colours_j90 H locs ls h hP hD hS hl
        unfold wp_M_put_J90 at h
        refine lv_iadd hx hb d_M_put_90 ?_
        refine lv_topi (fun x5_91 e_x5_91 => ?_)
        have h := h x5_91 e_x5_91
        refine lv_istore (lv' := [(5, .int x5_91), (0, .ref a_this), (1, .int x1_j35), (2, .int x2_j35), (3, .int x3_j35), (4, .int x4_j35), (6, .int x6_j90)]) hx hb d_M_put_91 hl (by decide) rfl (fun ls hl => ?_)
        refine lv_aload_n hx hb d_M_put_93 rfl (lv_at hl 1 rfl) ?_
        refine va_get (D := (dC, dI)) (ci := 5) (v := .ref a_colours) (C := R_M) (T := F_M) (N := 32) hx hb hts i_M_in hown hK hP 0 rfl rfl 3 (by decide) (hts _ q_664) (fun _ h9 => h9) rfl d_M_put_94 ?_
        refine lv_bipush (v := 16) hx hb d_M_put_97 (by decide) ?_
        refine lv_iload_n hx hb d_M_put_99 rfl (lv_at hl 3 rfl) ?_
        refine lv_imul hx hb d_M_put_100 ?_
        refine lv_iload hx hb d_M_put_101 (lv_at hl 6 rfl) ?_
        refine lv_iadd hx hb d_M_put_103 ?_
        refine lv_iload hx hb d_M_put_104 (lv_at hl 5 rfl) ?_
        obtain ⟨hin, h⟩ := h
        refine va_iast hx hb hK hP hD hS 1 0 rfl rfl hin d_M_put_106 (fun H locs hP hD hS => ?_)
        obtain ⟨f106, e_f106⟩ : ∃ y : Nat → Int32, y = upd f_colours_j90 (((16 : Int32) * x2_j35) + x6_j90).toNatClampNeg x4_j35 := ⟨_, rfl⟩
        have h := h f106 e_f106
        have hP : va_P (dC, dI) vwCl (cw_M_put cI a_this a_colours a_froms a_sizes a_layersOf a_areas a_xs a_ys a_used a_cornerAt a_counts a_costs a_firsts a_manys a_fs a_px a_py a_groups a_joinF n_colours u35_0 c_width c_height c_isTraced_j35 c_outlines_j35 c_points c_hasPolygon_j35 c_of c_corners c_costSum c_hasCurves_j35 c_curveCount c_sharp c_allowed f106) H := by rw [e_f106]; exact hP
        have hD : va_D A (cw_M_put cI a_this a_colours a_froms a_sizes a_layersOf a_areas a_xs a_ys a_used a_cornerAt a_counts a_costs a_firsts a_manys a_fs a_px a_py a_groups a_joinF n_colours u35_0 c_width c_height c_isTraced_j35 c_outlines_j35 c_points c_hasPolygon_j35 c_of c_corners c_costSum c_hasCurves_j35 c_curveCount c_sharp c_allowed f106) := by rw [e_f106]; exact hD
        obtain ⟨x6_107, e_x6_107⟩ : ∃ y : Int32, y = x6_j90 + (1 : Int32) := ⟨_, rfl⟩
        have h := h x6_107 e_x6_107
        refine lv_iinc (v := x6_107) (lv' := [(6, .int x6_107), (5, .int x5_91), (0, .ref a_this), (1, .int x1_j35), (2, .int x2_j35), (3, .int x3_j35), (4, .int x4_j35)]) hx hb d_M_put_107 hl (k := 6) rfl (by rw [e_x6_107]; rfl) (by decide) rfl (fun ls hl => ?_)
        refine lv_goto (tgt := 49) hx hb d_M_put_110 (by decide) ?_
        exact hb49 _ h _ _ _ hP hD hS (lv_sub hl [2, 3, 4, 5, 6, 1, 0] rfl)
      refine lv_iload hx hb d_M_put_49 (lv_at hl 6 rfl) ?_
      refine lv_aload_n hx hb d_M_put_51 rfl (lv_at hl 0 rfl) ?_
      refine va_get (D := (dC, dI)) (ci := 5) (v := .int c_width) (C := R_M) (T := F_M) (N := 32) hx hb hts i_M_in hown hK hP 0 rfl rfl 1 (by decide) (hts _ q_662) (fun _ h9 => h9) rfl d_M_put_52 ?_
      refine lv_icmp_ge (tgt := 113) hx hb d_M_put_55 (by decide) (fun cc_ => ?_) (fun cc_ => ?_)
      · have h := h.1 cc_
        exact J113 x5_l49 u35_0 c_isTraced_j35 c_outlines_j35 c_hasPolygon_j35 c_hasCurves_j35 f_colours_l49 _ _ _ h hP hD hS (lv_sub hl [0, 5] rfl)
      · have h := h.2 cc_
        refine lv_iload hx hb d_M_put_58 (lv_at hl 6 rfl) ?_
        refine lv_iload_n hx hb d_M_put_60 rfl (lv_at hl 1 rfl) ?_
        refine lv_isub hx hb d_M_put_61 ?_
        refine lv_iload_n hx hb d_M_put_62 rfl (lv_at hl 3 rfl) ?_
        refine lv_icmp_ge (tgt := 113) hx hb d_M_put_63 (by decide) (fun cc_ => ?_) (fun cc_ => ?_)
        · have h := h.1 cc_
          exact J113 x5_l49 u35_0 c_isTraced_j35 c_outlines_j35 c_hasPolygon_j35 c_hasCurves_j35 f_colours_l49 _ _ _ h hP hD hS (lv_sub hl [0, 5] rfl)
        · have h := h.2 cc_
          refine lv_iload hx hb d_M_put_66 (lv_at hl 5 rfl) ?_
          refine lv_aload_n hx hb d_M_put_68 rfl (lv_at hl 0 rfl) ?_
          refine va_get (D := (dC, dI)) (ci := 5) (v := .ref a_colours) (C := R_M) (T := F_M) (N := 32) hx hb hts i_M_in hown hK hP 0 rfl rfl 3 (by decide) (hts _ q_664) (fun _ h9 => h9) rfl d_M_put_69 ?_
          refine lv_bipush (v := 16) hx hb d_M_put_72 (by decide) ?_
          refine lv_iload_n hx hb d_M_put_74 rfl (lv_at hl 2 rfl) ?_
          refine lv_imul hx hb d_M_put_75 ?_
          refine lv_iload hx hb d_M_put_76 (lv_at hl 6 rfl) ?_
          refine lv_iadd hx hb d_M_put_78 ?_
          obtain ⟨hin, h⟩ := h
          refine va_iald hx hb hK hP 1 0 rfl rfl hin d_M_put_79 ?_
          refine lv_iload hx hb d_M_put_80 (lv_at hl 4 rfl) ?_
          refine lv_icmp_eq (tgt := 89) hx hb d_M_put_82 (by decide) (fun cc_ => ?_) (fun cc_ => ?_)
          · have h := h.1 cc_
            refine lv_iconst (v := 0) hx hb d_M_put_89 (by decide) ?_
            exact J90 x6_l49 (0 : Int32) x5_l49 f_colours_l49 _ _ _ h hP hD hS (lv_sub hl [0, 1, 2, 3, 4, 6] rfl)
          · have h := h.2 cc_
            refine lv_iconst (v := 1) hx hb d_M_put_85 (by decide) ?_
            refine lv_goto (tgt := 90) hx hb d_M_put_86 (by decide) ?_
            exact J90 x6_l49 (1 : Int32) x5_l49 f_colours_l49 _ _ _ h hP hD hS (lv_sub hl [0, 1, 2, 3, 4, 6] rfl)
    · have h := h.2 cc_
      refine lv_iconst (v := 0) hx hb d_M_put_41 (by decide) ?_
      subst hQf
      exact W.iret (v := (0 : Int32)) hx hb hr (fun t ht hW => ⟨⟨(0 : Int32), (u35_0, c_isTraced_j35, c_outlines_j35, c_hasPolygon_j35, c_hasCurves_j35, f_colours_j35), rfl, h, by rw [ht]; exact hP, va_K.moved hW.alike hK, hD⟩, hS.F ht⟩) hS.2.2 d_M_put_42
  have J30 : ∀ (x1_j30 : Int32) (x2_j30 : Int32) (x3_j30 : Int32) (x4_j30 : Int32) (c_code_j30 : Int32) (c_isTraced_j30 : Int32) (c_outlines_j30 : Int32) (c_hasPolygon_j30 : Int32) (c_hasCurves_j30 : Int32) (f_colours_j30 : Nat → Int32) (H : Heap) (locs : List Loc) (ls : Array Slot), wp_M_put_J30 n_colours c_width c_height c_code_j30 c_isTraced_j30 c_outlines_j30 c_hasPolygon_j30 c_hasCurves_j30 f_colours_j30 x1_j30 x2_j30 x3_j30 x4_j30 post → va_P (dC, dI) vwCl (cw_M_put cI a_this a_colours a_froms a_sizes a_layersOf a_areas a_xs a_ys a_used a_cornerAt a_counts a_costs a_firsts a_manys a_fs a_px a_py a_groups a_joinF n_colours c_code_j30 c_width c_height c_isTraced_j30 c_outlines_j30 c_points c_hasPolygon_j30 c_of c_corners c_costSum c_hasCurves_j30 c_curveCount c_sharp c_allowed f_colours_j30) H → va_D A (cw_M_put cI a_this a_colours a_froms a_sizes a_layersOf a_areas a_xs a_ys a_used a_cornerAt a_counts a_costs a_firsts a_manys a_fs a_px a_py a_groups a_joinF n_colours c_code_j30 c_width c_height c_isTraced_j30 c_outlines_j30 c_points c_hasPolygon_j30 c_of c_corners c_costSum c_hasCurves_j30 c_curveCount c_sharp c_allowed f_colours_j30) → va_S A s.heap H locs → lv_has ls 7 [(0, .ref a_this), (1, .int x1_j30), (2, .int x2_j30), (3, .int x3_j30), (4, .int x4_j30)] → W p l e (headSpec w_M_put ({ frames := 2, cells := 0, slots := 0, locals := 44 })).room s m ([.ref a_this, .int x1, .int x2, .int x3, .int x4] : List Value).toArray below meth c H locs 0 0 Qf (F0 m 30 ls [.ref a_this]) := by
    intro x1_j30 x2_j30 x3_j30 x4_j30 c_code_j30 c_isTraced_j30 c_outlines_j30 c_hasPolygon_j30 c_hasCurves_j30 f_colours_j30 H locs ls h hP hD hS hl
    unfold wp_M_put_J30 at h
    refine lv_iconst (v := 2) hx hb d_M_put_30 (by decide) ?_
    refine lv_goto (tgt := 35) hx hb d_M_put_31 (by decide) ?_
    exact J35 x1_j30 x2_j30 x3_j30 x4_j30 (2 : Int32) c_code_j30 c_isTraced_j30 c_outlines_j30 c_hasPolygon_j30 c_hasCurves_j30 f_colours_j30 _ _ _ h hP hD hS (lv_sub hl [0, 1, 2, 3, 4] rfl)
  refine lv_aload_n hx hb d_M_put_0 rfl (lv_at hl 0 rfl) ?_
  refine lv_aload_n hx hb d_M_put_1 rfl (lv_at hl 0 rfl) ?_
  refine lv_iload_n hx hb d_M_put_2 rfl (lv_at hl 1 rfl) ?_
  refine lv_iload_n hx hb d_M_put_3 rfl (lv_at hl 2 rfl) ?_
  obtain ⟨Q4, hq4, h⟩ := h
  have hPc := hP.sub (ws' := (cw_M_isSample a_this a_colours a_froms a_sizes a_layersOf a_areas a_xs a_ys a_used a_cornerAt a_counts a_costs a_firsts a_manys a_fs a_px a_py a_groups a_joinF c_code c_width c_height c_isTraced c_outlines c_points c_hasPolygon c_of c_corners c_costSum c_hasCurves c_curveCount c_sharp c_allowed)) [0] rfl
  have hDc := hD.sub (ws' := (cw_M_isSample a_this a_colours a_froms a_sizes a_layersOf a_areas a_xs a_ys a_used a_cornerAt a_counts a_costs a_firsts a_manys a_fs a_px a_py a_groups a_joinF c_code c_width c_height c_isTraced c_outlines c_points c_hasPolygon c_of c_corners c_costSum c_hasCurves c_curveCount c_sharp c_allowed)) [0] (by decide) rfl
  have hFc := va_free (wc := (cw_M_isSample a_this a_colours a_froms a_sizes a_layersOf a_areas a_xs a_ys a_used a_cornerAt a_counts a_costs a_firsts a_manys a_fs a_px a_py a_groups a_joinF c_code c_width c_height c_isTraced c_outlines c_points c_hasPolygon c_of c_corners c_costSum c_hasCurves c_curveCount c_sharp c_allowed)) hD hS hA [0] rfl
  refine va_calli (va_runV (As := [.int x1, .int x2]) (rest := [.ref a_this]) ⟨hx, hb, hml, hown, hts⟩ (c_M_isSample l dC dI cI cB cJ cZ a_this a_colours a_froms a_sizes a_layersOf a_areas a_xs a_ys a_used a_cornerAt a_counts a_costs a_firsts a_manys a_fs a_px a_py a_groups a_joinF s.heap.size c_code c_width c_height c_isTraced c_outlines c_points c_hasPolygon c_of c_corners c_costSum c_hasCurves c_curveCount c_sharp c_allowed x1 x2 Q4 hq4) (cwV 2 hts (goodV q_767 q_769 q_p30 q_7 q_770) rfl rfl rfl (by decide +kernel) ⟨Nat.le_of_ble_eq_true rfl, Nat.le_of_ble_eq_true rfl⟩) ⟨fun a U g mk q => by obtain ⟨q0, q1, qP, qK, qD⟩ := q; exact ⟨q0, q1, qP, va_K.moved (u := U) (U := U.calling g mk a) (Vm.Alike.refl U.vm) qK, qD⟩, va_recv hK hPc (ci := 5) (q0 := 0) rfl rfl, fun U hU hW => ⟨rfl, by rw [hU], by rw [hU]; exact hPc, va_K.moved hW.alike hK, hDc.weaken (fun _ _ _ _ => trivial)⟩⟩ rfl rfl hl.1 rfl (lv_room (Nat.le_of_ble_eq_true rfl)) d_M_put_4 ⟨Nat.le_of_ble_eq_true rfl, Nat.le_of_ble_eq_true rfl⟩) hS (fun q _ h => hFc q h) hFc (fun r4 u4 t H1 locs ht hvm hw hB hz1 hk1 hS => ?_)
  cases u4
  obtain ⟨hP1, -, hD1⟩ := hB
  rw [ht] at hP1
  have h := h r4 hw
  obtain ⟨hP, hD⟩ := va_join (wr := [(a_colours, .inl (cI, n_colours, .inl f_colours))]) (w1 := (cw_M_isSample a_this a_colours a_froms a_sizes a_layersOf a_areas a_xs a_ys a_used a_cornerAt a_counts a_costs a_firsts a_manys a_fs a_px a_py a_groups a_joinF c_code c_width c_height c_isTraced c_outlines c_points c_hasPolygon c_of c_corners c_costSum c_hasCurves c_curveCount c_sharp c_allowed)) hP hD [0] [1] rfl rfl (by decide) (by decide) hk1 hFc hP1 hD1
  clear hP1 hD1 hk1 hPc hDc hFc
  generalize H1 = H at hP hS ⊢
  have hP : va_P (dC, dI) vwCl (cw_M_put cI a_this a_colours a_froms a_sizes a_layersOf a_areas a_xs a_ys a_used a_cornerAt a_counts a_costs a_firsts a_manys a_fs a_px a_py a_groups a_joinF n_colours c_code c_width c_height c_isTraced c_outlines c_points c_hasPolygon c_of c_corners c_costSum c_hasCurves c_curveCount c_sharp c_allowed f_colours) H := hP.sub [1, 0] rfl
  have hD : va_D A (cw_M_put cI a_this a_colours a_froms a_sizes a_layersOf a_areas a_xs a_ys a_used a_cornerAt a_counts a_costs a_firsts a_manys a_fs a_px a_py a_groups a_joinF n_colours c_code c_width c_height c_isTraced c_outlines c_points c_hasPolygon c_of c_corners c_costSum c_hasCurves c_curveCount c_sharp c_allowed f_colours) := hD.sub [1, 0] (by decide) rfl
  refine lv_if_ne (tgt := 14) hx hb d_M_put_7 (by decide) (fun cc_ => ?_) (fun cc_ => ?_)
  · have h := h.1 cc_
    refine lv_iload_n hx hb d_M_put_14 rfl (lv_at hl 3 rfl) ?_
    refine lv_iconst (v := 1) hx hb d_M_put_15 (by decide) ?_
    refine lv_icmp_lt (tgt := 30) hx hb d_M_put_16 (by decide) (fun cc_ => ?_) (fun cc_ => ?_)
    · have h := h.1 cc_
      exact J30 x1 x2 x3 x4 c_code c_isTraced c_outlines c_hasPolygon c_hasCurves f_colours _ _ _ h hP hD hS (lv_sub hl [0, 1, 2, 3, 4] rfl)
    · have h := h.2 cc_
      refine lv_iload hx hb d_M_put_19 (lv_at hl 4 rfl) ?_
      refine lv_iconst (v := 0) hx hb d_M_put_21 (by decide) ?_
      refine lv_bipush (v := 7) hx hb d_M_put_22 (by decide) ?_
      obtain ⟨Q24, hq24, h⟩ := h
      have hPc := hP.sub (ws' := (cw_M_in)) [] rfl
      have hDc := hD.sub (ws' := (cw_M_in)) [] (by decide) rfl
      have hFc := va_free (wc := (cw_M_in)) hD hS hA [] rfl
      refine va_calli (va_runS (As := [.int x4, .int (0 : Int32), .int (7 : Int32)]) (rest := [.ref a_this]) ⟨hx, hb, hml, hown, hts⟩ (c_M_in l dC dI cI cB cJ cZ H.size x4 (0 : Int32) (7 : Int32) Q24 hq24) (va_cwS 3 hts (goodS q_771 q_772 q_7 q_773) rfl rfl rfl (by decide +kernel) ⟨Nat.le_of_ble_eq_true rfl, Nat.le_of_ble_eq_true rfl⟩) ⟨fun a U g mk q => by obtain ⟨q0, q1, qP, qK, qD⟩ := q; exact ⟨q0, q1, qP, va_K.moved (u := U) (U := U.calling g mk a) (Vm.Alike.refl U.vm) qK, qD⟩, fun U hU hW => ⟨rfl, by rw [hU], by rw [hU]; exact hPc, va_K.moved hW.alike hK, hDc.weaken (fun _ _ _ _ => trivial)⟩⟩ rfl rfl hl.1 rfl (lv_room (Nat.le_of_ble_eq_true rfl)) d_M_put_24 ⟨Nat.le_of_ble_eq_true rfl, Nat.le_of_ble_eq_true rfl⟩) hS (fun q _ h => hFc q h) hFc (fun r24 u24 t H1 locs ht hvm hw hB hz1 hk1 hS => ?_)
      cases u24
      obtain ⟨hP1, -, hD1⟩ := hB
      rw [ht] at hP1
      have h := h r24 hw
      obtain ⟨hP, hD⟩ := va_join (wr := [(a_this, .inr (5, [.int c_code, .int c_width, .int c_height, .ref a_colours, .int c_isTraced, .int c_outlines, .ref a_froms, .ref a_sizes, .ref a_layersOf, .ref a_areas, .int c_points, .ref a_xs, .ref a_ys, .ref a_used, .int c_hasPolygon, .int c_of, .int c_corners, .int c_costSum, .ref a_cornerAt, .ref a_counts, .ref a_costs, .int c_hasCurves, .int c_curveCount, .ref a_firsts, .ref a_manys, .ref a_fs, .int c_sharp, .int c_allowed, .ref a_px, .ref a_py, .ref a_groups, .ref a_joinF])), (a_colours, .inl (cI, n_colours, .inl f_colours))]) (w1 := (cw_M_in)) hP hD [] [0, 1] rfl rfl (by decide) (by decide) hk1 hFc hP1 hD1
      clear hP1 hD1 hk1 hPc hDc hFc
      generalize H1 = H at hP hS ⊢
      have hP : va_P (dC, dI) vwCl (cw_M_put cI a_this a_colours a_froms a_sizes a_layersOf a_areas a_xs a_ys a_used a_cornerAt a_counts a_costs a_firsts a_manys a_fs a_px a_py a_groups a_joinF n_colours c_code c_width c_height c_isTraced c_outlines c_points c_hasPolygon c_of c_corners c_costSum c_hasCurves c_curveCount c_sharp c_allowed f_colours) H := hP.sub [0, 1] rfl
      have hD : va_D A (cw_M_put cI a_this a_colours a_froms a_sizes a_layersOf a_areas a_xs a_ys a_used a_cornerAt a_counts a_costs a_firsts a_manys a_fs a_px a_py a_groups a_joinF n_colours c_code c_width c_height c_isTraced c_outlines c_points c_hasPolygon c_of c_corners c_costSum c_hasCurves c_curveCount c_sharp c_allowed f_colours) := hD.sub [0, 1] (by decide) rfl
      refine lv_if_ne (tgt := 34) hx hb d_M_put_27 (by decide) (fun cc_ => ?_) (fun cc_ => ?_)
      · have h := h.1 cc_
        refine lv_iconst (v := 0) hx hb d_M_put_34 (by decide) ?_
        exact J35 x1 x2 x3 x4 (0 : Int32) c_code c_isTraced c_outlines c_hasPolygon c_hasCurves f_colours _ _ _ h hP hD hS (lv_sub hl [0, 1, 2, 3, 4] rfl)
      · have h := h.2 cc_
        exact J30 x1 x2 x3 x4 c_code c_isTraced c_outlines c_hasPolygon c_hasCurves f_colours _ _ _ h hP hD hS (lv_sub hl [0, 1, 2, 3, 4] rfl)
  · have h := h.2 cc_
    refine lv_iconst (v := 1) hx hb d_M_put_10 (by decide) ?_
    refine lv_goto (tgt := 35) hx hb d_M_put_11 (by decide) ?_
    exact J35 x1 x2 x3 x4 (1 : Int32) c_code c_isTraced c_outlines c_hasPolygon c_hasCurves f_colours _ _ _ h hP hD hS (lv_sub hl [0, 1, 2, 3, 4] rfl)
def wp_M_isInside_J28 (n_colours : Nat) (c_width : Int32) (c_height : Int32) (f_colours : Nat → Int32) (post : Int32 → Unit → Prop) : Prop :=
  post (0 : Int32) ()
def wp_M_isInside (n_colours : Nat) (c_width : Int32) (c_height : Int32) (f_colours : Nat → Int32) (x1 : Int32) (x2 : Int32) (x3 : Int32) (post : Int32 → Unit → Prop) : Prop :=
  ∃ Q3 : Int32 → Unit → Prop, wp_M_isSample c_width c_height x2 x3 Q3 ∧ ∀ (r3 : Int32), Q3 r3 () → (r3 = 0 → wp_M_isInside_J28 n_colours c_width c_height f_colours post) ∧ (¬ r3 = 0 → vp_in (((16 : Int32) * x3) + x2) n_colours ∧ ((f_colours (((16 : Int32) * x3) + x2).toNatClampNeg) < x1 → wp_M_isInside_J28 n_colours c_width c_height f_colours post) ∧ (¬ (f_colours (((16 : Int32) * x3) + x2).toNatClampNeg) < x1 → post (1 : Int32) ()))
abbrev cw_M_isInside (cI : ClassId) (a_this a_colours a_froms a_sizes a_layersOf a_areas a_xs a_ys a_used a_cornerAt a_counts a_costs a_firsts a_manys a_fs a_px a_py a_groups a_joinF : Nat) (n_colours : Nat) (c_code : Int32) (c_width : Int32) (c_height : Int32) (c_isTraced : Int32) (c_outlines : Int32) (c_points : Int32) (c_hasPolygon : Int32) (c_of : Int32) (c_corners : Int32) (c_costSum : Int32) (c_hasCurves : Int32) (c_curveCount : Int32) (c_sharp : Int32) (c_allowed : Int32) (f_colours : Nat → Int32) : va_W := [(a_this, .inr (5, [.int c_code, .int c_width, .int c_height, .ref a_colours, .int c_isTraced, .int c_outlines, .ref a_froms, .ref a_sizes, .ref a_layersOf, .ref a_areas, .int c_points, .ref a_xs, .ref a_ys, .ref a_used, .int c_hasPolygon, .int c_of, .int c_corners, .int c_costSum, .ref a_cornerAt, .ref a_counts, .ref a_costs, .int c_hasCurves, .int c_curveCount, .ref a_firsts, .ref a_manys, .ref a_fs, .int c_sharp, .int c_allowed, .ref a_px, .ref a_py, .ref a_groups, .ref a_joinF])), (a_colours, .inl (cI, n_colours, .inl f_colours))]
abbrev qq_M_isInside (dC : Nat → ClassId) (dI : Nat → Nat → Nat) (cI cB cJ cZ : ClassId) (a_this a_colours a_froms a_sizes a_layersOf a_areas a_xs a_ys a_used a_cornerAt a_counts a_costs a_firsts a_manys a_fs a_px a_py a_groups a_joinF : Nat) (n_colours : Nat) (c_code : Int32) (c_width : Int32) (c_height : Int32) (c_isTraced : Int32) (c_outlines : Int32) (c_points : Int32) (c_hasPolygon : Int32) (c_of : Int32) (c_corners : Int32) (c_costSum : Int32) (c_hasCurves : Int32) (c_curveCount : Int32) (c_sharp : Int32) (c_allowed : Int32) (f_colours : Nat → Int32) (A : Nat → Prop) (post : Int32 → Unit → Prop) : Array Value → State → Outcome → State → Prop := va_Qi post (fun _ t => va_P (dC, dI) vwCl (cw_M_isInside cI a_this a_colours a_froms a_sizes a_layersOf a_areas a_xs a_ys a_used a_cornerAt a_counts a_costs a_firsts a_manys a_fs a_px a_py a_groups a_joinF n_colours c_code c_width c_height c_isTraced c_outlines c_points c_hasPolygon c_of c_corners c_costSum c_hasCurves c_curveCount c_sharp c_allowed f_colours) t.heap ∧ va_K (dC, dI) vwCl [(cI, .int), (cB, .byte), (cJ, .long), (cZ, .boolean)] t ∧ va_D A (cw_M_isInside cI a_this a_colours a_froms a_sizes a_layersOf a_areas a_xs a_ys a_used a_cornerAt a_counts a_costs a_firsts a_manys a_fs a_px a_py a_groups a_joinF n_colours c_code c_width c_height c_isTraced c_outlines c_points c_hasPolygon c_of c_corners c_costSum c_hasCurves c_curveCount c_sharp c_allowed f_colours)) A
set_option maxHeartbeats 4000000 in
set_option maxRecDepth 100000 in
theorem c_M_isInside (l : Launch) (dC : Nat → ClassId) (dI : Nat → Nat → Nat) (cI cB cJ cZ : ClassId) (a_this a_colours a_froms a_sizes a_layersOf a_areas a_xs a_ys a_used a_cornerAt a_counts a_costs a_firsts a_manys a_fs a_px a_py a_groups a_joinF : Nat) (sz : Nat) (n_colours : Nat) (c_code : Int32) (c_width : Int32) (c_height : Int32) (c_isTraced : Int32) (c_outlines : Int32) (c_points : Int32) (c_hasPolygon : Int32) (c_of : Int32) (c_corners : Int32) (c_costSum : Int32) (c_hasCurves : Int32) (c_curveCount : Int32) (c_sharp : Int32) (c_allowed : Int32) (f_colours : Nat → Int32) (x1 : Int32) (x2 : Int32) (x3 : Int32) (post : Int32 → Unit → Prop) (h : wp_M_isInside n_colours c_width c_height f_colours x1 x2 x3 post) : Met l y_M_isInside w_M_isInside ({ frames := 2, cells := 0, slots := 0, locals := 44 }) (va_Pc [.ref a_this, .int x1, .int x2, .int x3] (fun U => U.heap.size = sz ∧ va_P (dC, dI) vwCl (cw_M_isInside cI a_this a_colours a_froms a_sizes a_layersOf a_areas a_xs a_ys a_used a_cornerAt a_counts a_costs a_firsts a_manys a_fs a_px a_py a_groups a_joinF n_colours c_code c_width c_height c_isTraced c_outlines c_points c_hasPolygon c_of c_corners c_costSum c_hasCurves c_curveCount c_sharp c_allowed f_colours) U.heap ∧ va_K (dC, dI) vwCl [(cI, .int), (cB, .byte), (cJ, .long), (cZ, .boolean)] U ∧ va_D (fun _ => True) (cw_M_isInside cI a_this a_colours a_froms a_sizes a_layersOf a_areas a_xs a_ys a_used a_cornerAt a_counts a_costs a_firsts a_manys a_fs a_px a_py a_groups a_joinF n_colours c_code c_width c_height c_isTraced c_outlines c_points c_hasPolygon c_of c_corners c_costSum c_hasCurves c_curveCount c_sharp c_allowed f_colours))) (qq_M_isInside dC dI cI cB cJ cZ a_this a_colours a_froms a_sizes a_layersOf a_areas a_xs a_ys a_used a_cornerAt a_counts a_costs a_firsts a_manys a_fs a_px a_py a_groups a_joinF n_colours c_code c_width c_height c_isTraced c_outlines c_points c_hasPolygon c_of c_corners c_costSum c_hasCurves c_curveCount c_sharp c_allowed f_colours (va_A (cw_M_isInside cI a_this a_colours a_froms a_sizes a_layersOf a_areas a_xs a_ys a_used a_cornerAt a_counts a_costs a_firsts a_manys a_fs a_px a_py a_groups a_joinF n_colours c_code c_width c_height c_isTraced c_outlines c_points c_hasPolygon c_of c_corners c_costSum c_hasCurves c_curveCount c_sharp c_allowed f_colours) sz) post) 0 0 (va_A (cw_M_isInside cI a_this a_colours a_froms a_sizes a_layersOf a_areas a_xs a_ys a_used a_cornerAt a_counts a_costs a_firsts a_manys a_fs a_px a_py a_groups a_joinF n_colours c_code c_width c_height c_isTraced c_outlines c_points c_hasPolygon c_of c_corners c_costSum c_hasCurves c_curveCount c_sharp c_allowed f_colours) sz) := by
  refine Met.ofW (cc := b_M_isInside) (maxL := 4) (ret := (some .boolean)) (by decide +kernel) rfl ?_
  intro p e s m args below meth c s₁ B hml hv
  obtain ⟨rfl, hsz, hP, hK, hD0⟩ := hv
  have hx := B.exec
  have hb := B.bytes
  have hr := B.returns
  have hts : ∀ w ∈ allW, w.before _ s = true := fun w hw => atoms_spec (ws := w_M_isInside) B.pre w (List.mem_cons_of_mem _ hw)
  have hown : s.vm.findClass R_M = some m.cls := findClass_of_methodNamed B.named
  have hlocks := B.notSynchronized
  subst hsz
  have hD := hD0.self (sz := s.heap.size)
  generalize hAe : va_A (cw_M_isInside cI a_this a_colours a_froms a_sizes a_layersOf a_areas a_xs a_ys a_used a_cornerAt a_counts a_costs a_firsts a_manys a_fs a_px a_py a_groups a_joinF n_colours c_code c_width c_height c_isTraced c_outlines c_points c_hasPolygon c_of c_corners c_costSum c_hasCurves c_curveCount c_sharp c_allowed f_colours) s.heap.size = A at hD ⊢
  have hA : ∀ q : Nat, s.heap.size ≤ q → A q := fun q h => by rw [← hAe]; exact Or.inr h
  have hS : va_S A s.heap s.heap [] := va_S.rf
  clear hD0
  generalize hQf : MQ below (qq_M_isInside dC dI cI cB cJ cZ a_this a_colours a_froms a_sizes a_layersOf a_areas a_xs a_ys a_used a_cornerAt a_counts a_costs a_firsts a_manys a_fs a_px a_py a_groups a_joinF n_colours c_code c_width c_height c_isTraced c_outlines c_points c_hasPolygon c_of c_corners c_costSum c_hasCurves c_curveCount c_sharp c_allowed f_colours A post) ([.ref a_this, .int x1, .int x2, .int x3] : List Value).toArray s 0 0 A = Qf
  have hl := lv_entry ([.ref a_this, .int x1, .int x2, .int x3]) (n := 4) (Nat.le_of_ble_eq_true rfl)
  rw [lg_entry_eq]
  generalize (lg_sl ([.ref a_this, .int x1, .int x2, .int x3]) ++ List.replicate (4 - (lg_sl ([.ref a_this, .int x1, .int x2, .int x3])).length) Slot.unset).toArray = ls at hl ⊢
  have hl : lv_has ls 4 [(0, .ref a_this), (1, .int x1), (2, .int x2), (3, .int x3)] := hl
  unfold wp_M_isInside at h
  have J28 : ∀ (H : Heap) (locs : List Loc) (ls : Array Slot), wp_M_isInside_J28 n_colours c_width c_height f_colours post → va_P (dC, dI) vwCl (cw_M_isInside cI a_this a_colours a_froms a_sizes a_layersOf a_areas a_xs a_ys a_used a_cornerAt a_counts a_costs a_firsts a_manys a_fs a_px a_py a_groups a_joinF n_colours c_code c_width c_height c_isTraced c_outlines c_points c_hasPolygon c_of c_corners c_costSum c_hasCurves c_curveCount c_sharp c_allowed f_colours) H → va_D A (cw_M_isInside cI a_this a_colours a_froms a_sizes a_layersOf a_areas a_xs a_ys a_used a_cornerAt a_counts a_costs a_firsts a_manys a_fs a_px a_py a_groups a_joinF n_colours c_code c_width c_height c_isTraced c_outlines c_points c_hasPolygon c_of c_corners c_costSum c_hasCurves c_curveCount c_sharp c_allowed f_colours) → va_S A s.heap H locs → lv_has ls 4 [] → W p l e (headSpec w_M_isInside ({ frames := 2, cells := 0, slots := 0, locals := 44 })).room s m ([.ref a_this, .int x1, .int x2, .int x3] : List Value).toArray below meth c H locs 0 0 Qf (F0 m 28 ls []) := by
    intro H locs ls h hP hD hS hl
    unfold wp_M_isInside_J28 at h
    refine lv_iconst (v := 0) hx hb d_M_isInside_28 (by decide) ?_
    subst hQf
    exact W.zret (v := (0 : Int32)) hx hb hr (by rfl) (fun t ht hW => ⟨⟨(0 : Int32), (), rfl, h, by rw [ht]; exact hP, va_K.moved hW.alike hK, hD⟩, hS.F ht⟩) hS.2.2 d_M_isInside_29
  refine lv_aload_n hx hb d_M_isInside_0 rfl (lv_at hl 0 rfl) ?_
  refine lv_iload_n hx hb d_M_isInside_1 rfl (lv_at hl 2 rfl) ?_
  refine lv_iload_n hx hb d_M_isInside_2 rfl (lv_at hl 3 rfl) ?_
  obtain ⟨Q3, hq3, h⟩ := h
  have hPc := hP.sub (ws' := (cw_M_isSample a_this a_colours a_froms a_sizes a_layersOf a_areas a_xs a_ys a_used a_cornerAt a_counts a_costs a_firsts a_manys a_fs a_px a_py a_groups a_joinF c_code c_width c_height c_isTraced c_outlines c_points c_hasPolygon c_of c_corners c_costSum c_hasCurves c_curveCount c_sharp c_allowed)) [0] rfl
  have hDc := hD.sub (ws' := (cw_M_isSample a_this a_colours a_froms a_sizes a_layersOf a_areas a_xs a_ys a_used a_cornerAt a_counts a_costs a_firsts a_manys a_fs a_px a_py a_groups a_joinF c_code c_width c_height c_isTraced c_outlines c_points c_hasPolygon c_of c_corners c_costSum c_hasCurves c_curveCount c_sharp c_allowed)) [0] (by decide) rfl
  have hFc := va_free (wc := (cw_M_isSample a_this a_colours a_froms a_sizes a_layersOf a_areas a_xs a_ys a_used a_cornerAt a_counts a_costs a_firsts a_manys a_fs a_px a_py a_groups a_joinF c_code c_width c_height c_isTraced c_outlines c_points c_hasPolygon c_of c_corners c_costSum c_hasCurves c_curveCount c_sharp c_allowed)) hD hS hA [0] rfl
  refine va_calli (va_runV (As := [.int x2, .int x3]) (rest := []) ⟨hx, hb, hml, hown, hts⟩ (c_M_isSample l dC dI cI cB cJ cZ a_this a_colours a_froms a_sizes a_layersOf a_areas a_xs a_ys a_used a_cornerAt a_counts a_costs a_firsts a_manys a_fs a_px a_py a_groups a_joinF s.heap.size c_code c_width c_height c_isTraced c_outlines c_points c_hasPolygon c_of c_corners c_costSum c_hasCurves c_curveCount c_sharp c_allowed x2 x3 Q3 hq3) (cwV 2 hts (goodV q_767 q_769 q_p30 q_7 q_770) rfl rfl rfl (by decide +kernel) ⟨Nat.le_of_ble_eq_true rfl, Nat.le_of_ble_eq_true rfl⟩) ⟨fun a U g mk q => by obtain ⟨q0, q1, qP, qK, qD⟩ := q; exact ⟨q0, q1, qP, va_K.moved (u := U) (U := U.calling g mk a) (Vm.Alike.refl U.vm) qK, qD⟩, va_recv hK hPc (ci := 5) (q0 := 0) rfl rfl, fun U hU hW => ⟨rfl, by rw [hU], by rw [hU]; exact hPc, va_K.moved hW.alike hK, hDc.weaken (fun _ _ _ _ => trivial)⟩⟩ rfl rfl hl.1 rfl (lv_room (Nat.le_of_ble_eq_true rfl)) d_M_isInside_3 ⟨Nat.le_of_ble_eq_true rfl, Nat.le_of_ble_eq_true rfl⟩) hS (fun q _ h => hFc q h) hFc (fun r3 u3 t H1 locs ht hvm hw hB hz1 hk1 hS => ?_)
  cases u3
  obtain ⟨hP1, -, hD1⟩ := hB
  rw [ht] at hP1
  have h := h r3 hw
  obtain ⟨hP, hD⟩ := va_join (wr := [(a_colours, .inl (cI, n_colours, .inl f_colours))]) (w1 := (cw_M_isSample a_this a_colours a_froms a_sizes a_layersOf a_areas a_xs a_ys a_used a_cornerAt a_counts a_costs a_firsts a_manys a_fs a_px a_py a_groups a_joinF c_code c_width c_height c_isTraced c_outlines c_points c_hasPolygon c_of c_corners c_costSum c_hasCurves c_curveCount c_sharp c_allowed)) hP hD [0] [1] rfl rfl (by decide) (by decide) hk1 hFc hP1 hD1
  clear hP1 hD1 hk1 hPc hDc hFc
  generalize H1 = H at hP hS ⊢
  have hP : va_P (dC, dI) vwCl (cw_M_isInside cI a_this a_colours a_froms a_sizes a_layersOf a_areas a_xs a_ys a_used a_cornerAt a_counts a_costs a_firsts a_manys a_fs a_px a_py a_groups a_joinF n_colours c_code c_width c_height c_isTraced c_outlines c_points c_hasPolygon c_of c_corners c_costSum c_hasCurves c_curveCount c_sharp c_allowed f_colours) H := hP.sub [1, 0] rfl
  have hD : va_D A (cw_M_isInside cI a_this a_colours a_froms a_sizes a_layersOf a_areas a_xs a_ys a_used a_cornerAt a_counts a_costs a_firsts a_manys a_fs a_px a_py a_groups a_joinF n_colours c_code c_width c_height c_isTraced c_outlines c_points c_hasPolygon c_of c_corners c_costSum c_hasCurves c_curveCount c_sharp c_allowed f_colours) := hD.sub [1, 0] (by decide) rfl
  refine lv_if_eq (tgt := 28) hx hb d_M_isInside_6 (by decide) (fun cc_ => ?_) (fun cc_ => ?_)
  · have h := h.1 cc_
    exact J28 _ _ _ h hP hD hS (lv_sub hl [] rfl)
  · have h := h.2 cc_
    refine lv_aload_n hx hb d_M_isInside_9 rfl (lv_at hl 0 rfl) ?_
    refine va_get (D := (dC, dI)) (ci := 5) (v := .ref a_colours) (C := R_M) (T := F_M) (N := 32) hx hb hts i_M_in hown hK hP 0 rfl rfl 3 (by decide) (hts _ q_664) (fun _ h9 => h9) rfl d_M_isInside_10 ?_
    refine lv_bipush (v := 16) hx hb d_M_isInside_13 (by decide) ?_
    refine lv_iload_n hx hb d_M_isInside_15 rfl (lv_at hl 3 rfl) ?_
    refine lv_imul hx hb d_M_isInside_16 ?_
    refine lv_iload_n hx hb d_M_isInside_17 rfl (lv_at hl 2 rfl) ?_
    refine lv_iadd hx hb d_M_isInside_18 ?_
    obtain ⟨hin, h⟩ := h
    refine va_iald hx hb hK hP 1 0 rfl rfl hin d_M_isInside_19 ?_
    refine lv_iload_n hx hb d_M_isInside_20 rfl (lv_at hl 1 rfl) ?_
    refine lv_icmp_lt (tgt := 28) hx hb d_M_isInside_21 (by decide) (fun cc_ => ?_) (fun cc_ => ?_)
    · have h := h.1 cc_
      exact J28 _ _ _ h hP hD hS (lv_sub hl [] rfl)
    · have h := h.2 cc_
      refine lv_iconst (v := 1) hx hb d_M_isInside_24 (by decide) ?_
      refine lv_goto (tgt := 29) hx hb d_M_isInside_25 (by decide) ?_
      subst hQf
      exact W.zret (v := (1 : Int32)) hx hb hr (by rfl) (fun t ht hW => ⟨⟨(1 : Int32), (), rfl, h, by rw [ht]; exact hP, va_K.moved hW.alike hK, hD⟩, hS.F ht⟩) hS.2.2 d_M_isInside_29
def wp_M_stepX (x0 : Int32) (post : Int32 → Unit → Prop) : Prop :=
  (¬ x0 = 0 → (¬ x0 = (2 : Int32) → post (0 : Int32) ()) ∧ (x0 = (2 : Int32) → post (-1 : Int32) ())) ∧ (x0 = 0 → post (1 : Int32) ())
abbrev cw_M_stepX  : va_W := []
abbrev qq_M_stepX (dC : Nat → ClassId) (dI : Nat → Nat → Nat) (cI cB cJ cZ : ClassId) (A : Nat → Prop) (post : Int32 → Unit → Prop) : Array Value → State → Outcome → State → Prop := va_Qi post (fun _ t => va_P (dC, dI) vwCl (cw_M_stepX) t.heap ∧ va_K (dC, dI) vwCl [(cI, .int), (cB, .byte), (cJ, .long), (cZ, .boolean)] t ∧ va_D A (cw_M_stepX)) A
set_option maxHeartbeats 4000000 in
set_option maxRecDepth 100000 in
theorem c_M_stepX (l : Launch) (dC : Nat → ClassId) (dI : Nat → Nat → Nat) (cI cB cJ cZ : ClassId) (sz : Nat) (x0 : Int32) (post : Int32 → Unit → Prop) (h : wp_M_stepX x0 post) : Met l y_M_stepX w_M_stepX ({ frames := 0, cells := 0, slots := 0, locals := 0 }) (va_Pc [.int x0] (fun U => U.heap.size = sz ∧ va_P (dC, dI) vwCl (cw_M_stepX) U.heap ∧ va_K (dC, dI) vwCl [(cI, .int), (cB, .byte), (cJ, .long), (cZ, .boolean)] U ∧ va_D (fun _ => True) (cw_M_stepX))) (qq_M_stepX dC dI cI cB cJ cZ (va_A (cw_M_stepX) sz) post) 0 0 (va_A (cw_M_stepX) sz) := by
  refine Met.ofW (cc := b_M_stepX) (maxL := 1) (ret := (some .int)) (by decide +kernel) rfl ?_
  intro p e s m args below meth c s₁ B hml hv
  obtain ⟨rfl, hsz, hP, hK, hD0⟩ := hv
  have hx := B.exec
  have hb := B.bytes
  have hr := B.returns
  have hts : ∀ w ∈ allW, w.before _ s = true := fun w hw => atoms_spec (ws := w_M_stepX) B.pre w (List.mem_cons_of_mem _ hw)
  have hown : s.vm.findClass R_M = some m.cls := findClass_of_methodNamed B.named
  have hlocks := B.notSynchronized
  subst hsz
  have hD := hD0.self (sz := s.heap.size)
  generalize hAe : va_A (cw_M_stepX) s.heap.size = A at hD ⊢
  have hA : ∀ q : Nat, s.heap.size ≤ q → A q := fun q h => by rw [← hAe]; exact Or.inr h
  have hS : va_S A s.heap s.heap [] := va_S.rf
  clear hD0
  generalize hQf : MQ below (qq_M_stepX dC dI cI cB cJ cZ A post) ([.int x0] : List Value).toArray s 0 0 A = Qf
  have hl := lv_entry ([.int x0]) (n := 1) (Nat.le_of_ble_eq_true rfl)
  rw [lg_entry_eq]
  generalize (lg_sl ([.int x0]) ++ List.replicate (1 - (lg_sl ([.int x0])).length) Slot.unset).toArray = ls at hl ⊢
  have hl : lv_has ls 1 [(0, .int x0)] := hl
  unfold wp_M_stepX at h
  refine lv_iload_n hx hb d_M_stepX_0 rfl (lv_at hl 0 rfl) ?_
  refine lv_if_ne (tgt := 8) hx hb d_M_stepX_1 (by decide) (fun cc_ => ?_) (fun cc_ => ?_)
  · have h := h.1 cc_
    refine lv_iload_n hx hb d_M_stepX_8 rfl (lv_at hl 0 rfl) ?_
    refine lv_iconst (v := 2) hx hb d_M_stepX_9 (by decide) ?_
    refine lv_icmp_ne (tgt := 17) hx hb d_M_stepX_10 (by decide) (fun cc_ => ?_) (fun cc_ => ?_)
    · have h := h.1 cc_
      refine lv_iconst (v := 0) hx hb d_M_stepX_17 (by decide) ?_
      subst hQf
      exact W.iret (v := (0 : Int32)) hx hb hr (fun t ht hW => ⟨⟨(0 : Int32), (), rfl, h, by rw [ht]; exact hP, va_K.moved hW.alike hK, hD⟩, hS.F ht⟩) hS.2.2 d_M_stepX_18
    · have h := h.2 cc_
      refine lv_iconst (v := -1) hx hb d_M_stepX_13 (by decide) ?_
      refine lv_goto (tgt := 18) hx hb d_M_stepX_14 (by decide) ?_
      subst hQf
      exact W.iret (v := (-1 : Int32)) hx hb hr (fun t ht hW => ⟨⟨(-1 : Int32), (), rfl, h, by rw [ht]; exact hP, va_K.moved hW.alike hK, hD⟩, hS.F ht⟩) hS.2.2 d_M_stepX_18
  · have h := h.2 cc_
    refine lv_iconst (v := 1) hx hb d_M_stepX_4 (by decide) ?_
    refine lv_goto (tgt := 18) hx hb d_M_stepX_5 (by decide) ?_
    subst hQf
    exact W.iret (v := (1 : Int32)) hx hb hr (fun t ht hW => ⟨⟨(1 : Int32), (), rfl, h, by rw [ht]; exact hP, va_K.moved hW.alike hK, hD⟩, hS.F ht⟩) hS.2.2 d_M_stepX_18
def wp_M_stepY (x0 : Int32) (post : Int32 → Unit → Prop) : Prop :=
  (¬ x0 = (1 : Int32) → (¬ x0 = (3 : Int32) → post (0 : Int32) ()) ∧ (x0 = (3 : Int32) → post (-1 : Int32) ())) ∧ (x0 = (1 : Int32) → post (1 : Int32) ())
abbrev cw_M_stepY  : va_W := []
abbrev qq_M_stepY (dC : Nat → ClassId) (dI : Nat → Nat → Nat) (cI cB cJ cZ : ClassId) (A : Nat → Prop) (post : Int32 → Unit → Prop) : Array Value → State → Outcome → State → Prop := va_Qi post (fun _ t => va_P (dC, dI) vwCl (cw_M_stepY) t.heap ∧ va_K (dC, dI) vwCl [(cI, .int), (cB, .byte), (cJ, .long), (cZ, .boolean)] t ∧ va_D A (cw_M_stepY)) A
set_option maxHeartbeats 4000000 in
set_option maxRecDepth 100000 in
theorem c_M_stepY (l : Launch) (dC : Nat → ClassId) (dI : Nat → Nat → Nat) (cI cB cJ cZ : ClassId) (sz : Nat) (x0 : Int32) (post : Int32 → Unit → Prop) (h : wp_M_stepY x0 post) : Met l y_M_stepY w_M_stepY ({ frames := 0, cells := 0, slots := 0, locals := 0 }) (va_Pc [.int x0] (fun U => U.heap.size = sz ∧ va_P (dC, dI) vwCl (cw_M_stepY) U.heap ∧ va_K (dC, dI) vwCl [(cI, .int), (cB, .byte), (cJ, .long), (cZ, .boolean)] U ∧ va_D (fun _ => True) (cw_M_stepY))) (qq_M_stepY dC dI cI cB cJ cZ (va_A (cw_M_stepY) sz) post) 0 0 (va_A (cw_M_stepY) sz) := by
  refine Met.ofW (cc := b_M_stepY) (maxL := 1) (ret := (some .int)) (by decide +kernel) rfl ?_
  intro p e s m args below meth c s₁ B hml hv
  obtain ⟨rfl, hsz, hP, hK, hD0⟩ := hv
  have hx := B.exec
  have hb := B.bytes
  have hr := B.returns
  have hts : ∀ w ∈ allW, w.before _ s = true := fun w hw => atoms_spec (ws := w_M_stepY) B.pre w (List.mem_cons_of_mem _ hw)
  have hown : s.vm.findClass R_M = some m.cls := findClass_of_methodNamed B.named
  have hlocks := B.notSynchronized
  subst hsz
  have hD := hD0.self (sz := s.heap.size)
  generalize hAe : va_A (cw_M_stepY) s.heap.size = A at hD ⊢
  have hA : ∀ q : Nat, s.heap.size ≤ q → A q := fun q h => by rw [← hAe]; exact Or.inr h
  have hS : va_S A s.heap s.heap [] := va_S.rf
  clear hD0
  generalize hQf : MQ below (qq_M_stepY dC dI cI cB cJ cZ A post) ([.int x0] : List Value).toArray s 0 0 A = Qf
  have hl := lv_entry ([.int x0]) (n := 1) (Nat.le_of_ble_eq_true rfl)
  rw [lg_entry_eq]
  generalize (lg_sl ([.int x0]) ++ List.replicate (1 - (lg_sl ([.int x0])).length) Slot.unset).toArray = ls at hl ⊢
  have hl : lv_has ls 1 [(0, .int x0)] := hl
  unfold wp_M_stepY at h
  refine lv_iload_n hx hb d_M_stepY_0 rfl (lv_at hl 0 rfl) ?_
  refine lv_iconst (v := 1) hx hb d_M_stepY_1 (by decide) ?_
  refine lv_icmp_ne (tgt := 9) hx hb d_M_stepY_2 (by decide) (fun cc_ => ?_) (fun cc_ => ?_)
  · have h := h.1 cc_
    refine lv_iload_n hx hb d_M_stepY_9 rfl (lv_at hl 0 rfl) ?_
    refine lv_iconst (v := 3) hx hb d_M_stepY_10 (by decide) ?_
    refine lv_icmp_ne (tgt := 18) hx hb d_M_stepY_11 (by decide) (fun cc_ => ?_) (fun cc_ => ?_)
    · have h := h.1 cc_
      refine lv_iconst (v := 0) hx hb d_M_stepY_18 (by decide) ?_
      subst hQf
      exact W.iret (v := (0 : Int32)) hx hb hr (fun t ht hW => ⟨⟨(0 : Int32), (), rfl, h, by rw [ht]; exact hP, va_K.moved hW.alike hK, hD⟩, hS.F ht⟩) hS.2.2 d_M_stepY_19
    · have h := h.2 cc_
      refine lv_iconst (v := -1) hx hb d_M_stepY_14 (by decide) ?_
      refine lv_goto (tgt := 19) hx hb d_M_stepY_15 (by decide) ?_
      subst hQf
      exact W.iret (v := (-1 : Int32)) hx hb hr (fun t ht hW => ⟨⟨(-1 : Int32), (), rfl, h, by rw [ht]; exact hP, va_K.moved hW.alike hK, hD⟩, hS.F ht⟩) hS.2.2 d_M_stepY_19
  · have h := h.2 cc_
    refine lv_iconst (v := 1) hx hb d_M_stepY_5 (by decide) ?_
    refine lv_goto (tgt := 19) hx hb d_M_stepY_6 (by decide) ?_
    subst hQf
    exact W.iret (v := (1 : Int32)) hx hb hr (fun t ht hW => ⟨⟨(1 : Int32), (), rfl, h, by rw [ht]; exact hP, va_K.moved hW.alike hK, hD⟩, hS.F ht⟩) hS.2.2 d_M_stepY_19
def wp_M_ahead_J90 (n_colours : Nat) (c_width : Int32) (c_height : Int32) (f_colours : Nat → Int32) (x1 : Int32) (x6 : Int32) (y0 : Int32) (post : Int32 → Unit → Prop) : Prop :=
  ∃ Q98 : Int32 → Unit → Prop, wp_M_isInside n_colours c_width c_height f_colours x1 x6 y0 Q98 ∧ ∀ (r98 : Int32), Q98 r98 () → (r98 = 0 ∨ r98 = 1) ∧ post r98 ()
def wp_M_ahead_J78 (n_colours : Nat) (c_width : Int32) (c_height : Int32) (f_colours : Nat → Int32) (x1 : Int32) (x3 : Int32) (x5 : Int32) (x6 : Int32) (y0 : Int32) (post : Int32 → Unit → Prop) : Prop :=
  (¬ y0 = x5 → wp_M_ahead_J90 n_colours c_width c_height f_colours x1 x6 (x3 - (1 : Int32)) post) ∧ (y0 = x5 → wp_M_ahead_J90 n_colours c_width c_height f_colours x1 x6 x3 post)
def wp_M_ahead_J44 (n_colours : Nat) (c_width : Int32) (c_height : Int32) (f_colours : Nat → Int32) (x1 : Int32) (x3 : Int32) (x4 : Int32) (x5 : Int32) (y0 : Int32) (post : Int32 → Unit → Prop) : Prop :=
  (¬ x4 = (1 : Int32) → (¬ x4 = (3 : Int32) → (¬ x4 = 0 → wp_M_ahead_J78 n_colours c_width c_height f_colours x1 x3 x5 y0 (0 : Int32) post) ∧ (x4 = 0 → wp_M_ahead_J78 n_colours c_width c_height f_colours x1 x3 x5 y0 (1 : Int32) post)) ∧ (x4 = (3 : Int32) → wp_M_ahead_J90 n_colours c_width c_height f_colours x1 y0 (x3 - (1 : Int32)) post)) ∧ (x4 = (1 : Int32) → wp_M_ahead_J90 n_colours c_width c_height f_colours x1 y0 x3 post)
def wp_M_ahead_J32 (n_colours : Nat) (c_width : Int32) (c_height : Int32) (f_colours : Nat → Int32) (x1 : Int32) (x2 : Int32) (x3 : Int32) (x4 : Int32) (x5 : Int32) (y0 : Int32) (post : Int32 → Unit → Prop) : Prop :=
  (¬ y0 = x5 → wp_M_ahead_J44 n_colours c_width c_height f_colours x1 x3 x4 x5 x2 post) ∧ (y0 = x5 → wp_M_ahead_J44 n_colours c_width c_height f_colours x1 x3 x4 x5 (x2 - (1 : Int32)) post)
def wp_M_ahead (n_colours : Nat) (c_width : Int32) (c_height : Int32) (f_colours : Nat → Int32) (x1 : Int32) (x2 : Int32) (x3 : Int32) (x4 : Int32) (x5 : Int32) (post : Int32 → Unit → Prop) : Prop :=
  (¬ x4 = 0 → (¬ x4 = (2 : Int32) → (¬ x4 = (1 : Int32) → wp_M_ahead_J32 n_colours c_width c_height f_colours x1 x2 x3 x4 x5 (0 : Int32) post) ∧ (x4 = (1 : Int32) → wp_M_ahead_J32 n_colours c_width c_height f_colours x1 x2 x3 x4 x5 (1 : Int32) post)) ∧ (x4 = (2 : Int32) → wp_M_ahead_J44 n_colours c_width c_height f_colours x1 x3 x4 x5 (x2 - (1 : Int32)) post)) ∧ (x4 = 0 → wp_M_ahead_J44 n_colours c_width c_height f_colours x1 x3 x4 x5 x2 post)
abbrev cw_M_ahead (cI : ClassId) (a_this a_colours a_froms a_sizes a_layersOf a_areas a_xs a_ys a_used a_cornerAt a_counts a_costs a_firsts a_manys a_fs a_px a_py a_groups a_joinF : Nat) (n_colours : Nat) (c_code : Int32) (c_width : Int32) (c_height : Int32) (c_isTraced : Int32) (c_outlines : Int32) (c_points : Int32) (c_hasPolygon : Int32) (c_of : Int32) (c_corners : Int32) (c_costSum : Int32) (c_hasCurves : Int32) (c_curveCount : Int32) (c_sharp : Int32) (c_allowed : Int32) (f_colours : Nat → Int32) : va_W := [(a_this, .inr (5, [.int c_code, .int c_width, .int c_height, .ref a_colours, .int c_isTraced, .int c_outlines, .ref a_froms, .ref a_sizes, .ref a_layersOf, .ref a_areas, .int c_points, .ref a_xs, .ref a_ys, .ref a_used, .int c_hasPolygon, .int c_of, .int c_corners, .int c_costSum, .ref a_cornerAt, .ref a_counts, .ref a_costs, .int c_hasCurves, .int c_curveCount, .ref a_firsts, .ref a_manys, .ref a_fs, .int c_sharp, .int c_allowed, .ref a_px, .ref a_py, .ref a_groups, .ref a_joinF])), (a_colours, .inl (cI, n_colours, .inl f_colours))]
abbrev qq_M_ahead (dC : Nat → ClassId) (dI : Nat → Nat → Nat) (cI cB cJ cZ : ClassId) (a_this a_colours a_froms a_sizes a_layersOf a_areas a_xs a_ys a_used a_cornerAt a_counts a_costs a_firsts a_manys a_fs a_px a_py a_groups a_joinF : Nat) (n_colours : Nat) (c_code : Int32) (c_width : Int32) (c_height : Int32) (c_isTraced : Int32) (c_outlines : Int32) (c_points : Int32) (c_hasPolygon : Int32) (c_of : Int32) (c_corners : Int32) (c_costSum : Int32) (c_hasCurves : Int32) (c_curveCount : Int32) (c_sharp : Int32) (c_allowed : Int32) (f_colours : Nat → Int32) (A : Nat → Prop) (post : Int32 → Unit → Prop) : Array Value → State → Outcome → State → Prop := va_Qi post (fun _ t => va_P (dC, dI) vwCl (cw_M_ahead cI a_this a_colours a_froms a_sizes a_layersOf a_areas a_xs a_ys a_used a_cornerAt a_counts a_costs a_firsts a_manys a_fs a_px a_py a_groups a_joinF n_colours c_code c_width c_height c_isTraced c_outlines c_points c_hasPolygon c_of c_corners c_costSum c_hasCurves c_curveCount c_sharp c_allowed f_colours) t.heap ∧ va_K (dC, dI) vwCl [(cI, .int), (cB, .byte), (cJ, .long), (cZ, .boolean)] t ∧ va_D A (cw_M_ahead cI a_this a_colours a_froms a_sizes a_layersOf a_areas a_xs a_ys a_used a_cornerAt a_counts a_costs a_firsts a_manys a_fs a_px a_py a_groups a_joinF n_colours c_code c_width c_height c_isTraced c_outlines c_points c_hasPolygon c_of c_corners c_costSum c_hasCurves c_curveCount c_sharp c_allowed f_colours)) A
set_option maxHeartbeats 4000000 in
set_option maxRecDepth 100000 in
theorem c_M_ahead (l : Launch) (dC : Nat → ClassId) (dI : Nat → Nat → Nat) (cI cB cJ cZ : ClassId) (a_this a_colours a_froms a_sizes a_layersOf a_areas a_xs a_ys a_used a_cornerAt a_counts a_costs a_firsts a_manys a_fs a_px a_py a_groups a_joinF : Nat) (sz : Nat) (n_colours : Nat) (c_code : Int32) (c_width : Int32) (c_height : Int32) (c_isTraced : Int32) (c_outlines : Int32) (c_points : Int32) (c_hasPolygon : Int32) (c_of : Int32) (c_corners : Int32) (c_costSum : Int32) (c_hasCurves : Int32) (c_curveCount : Int32) (c_sharp : Int32) (c_allowed : Int32) (f_colours : Nat → Int32) (x1 : Int32) (x2 : Int32) (x3 : Int32) (x4 : Int32) (x5 : Int32) (post : Int32 → Unit → Prop) (h : wp_M_ahead n_colours c_width c_height f_colours x1 x2 x3 x4 x5 post) : Met l y_M_ahead w_M_ahead ({ frames := 3, cells := 0, slots := 0, locals := 67 }) (va_Pc [.ref a_this, .int x1, .int x2, .int x3, .int x4, .int x5] (fun U => U.heap.size = sz ∧ va_P (dC, dI) vwCl (cw_M_ahead cI a_this a_colours a_froms a_sizes a_layersOf a_areas a_xs a_ys a_used a_cornerAt a_counts a_costs a_firsts a_manys a_fs a_px a_py a_groups a_joinF n_colours c_code c_width c_height c_isTraced c_outlines c_points c_hasPolygon c_of c_corners c_costSum c_hasCurves c_curveCount c_sharp c_allowed f_colours) U.heap ∧ va_K (dC, dI) vwCl [(cI, .int), (cB, .byte), (cJ, .long), (cZ, .boolean)] U ∧ va_D (fun _ => True) (cw_M_ahead cI a_this a_colours a_froms a_sizes a_layersOf a_areas a_xs a_ys a_used a_cornerAt a_counts a_costs a_firsts a_manys a_fs a_px a_py a_groups a_joinF n_colours c_code c_width c_height c_isTraced c_outlines c_points c_hasPolygon c_of c_corners c_costSum c_hasCurves c_curveCount c_sharp c_allowed f_colours))) (qq_M_ahead dC dI cI cB cJ cZ a_this a_colours a_froms a_sizes a_layersOf a_areas a_xs a_ys a_used a_cornerAt a_counts a_costs a_firsts a_manys a_fs a_px a_py a_groups a_joinF n_colours c_code c_width c_height c_isTraced c_outlines c_points c_hasPolygon c_of c_corners c_costSum c_hasCurves c_curveCount c_sharp c_allowed f_colours (va_A (cw_M_ahead cI a_this a_colours a_froms a_sizes a_layersOf a_areas a_xs a_ys a_used a_cornerAt a_counts a_costs a_firsts a_manys a_fs a_px a_py a_groups a_joinF n_colours c_code c_width c_height c_isTraced c_outlines c_points c_hasPolygon c_of c_corners c_costSum c_hasCurves c_curveCount c_sharp c_allowed f_colours) sz) post) 0 0 (va_A (cw_M_ahead cI a_this a_colours a_froms a_sizes a_layersOf a_areas a_xs a_ys a_used a_cornerAt a_counts a_costs a_firsts a_manys a_fs a_px a_py a_groups a_joinF n_colours c_code c_width c_height c_isTraced c_outlines c_points c_hasPolygon c_of c_corners c_costSum c_hasCurves c_curveCount c_sharp c_allowed f_colours) sz) := by
  refine Met.ofW (cc := b_M_ahead) (maxL := 8) (ret := (some .boolean)) (by decide +kernel) rfl ?_
  intro p e s m args below meth c s₁ B hml hv
  obtain ⟨rfl, hsz, hP, hK, hD0⟩ := hv
  have hx := B.exec
  have hb := B.bytes
  have hr := B.returns
  have hts : ∀ w ∈ allW, w.before _ s = true := fun w hw => atoms_spec (ws := w_M_ahead) B.pre w (List.mem_cons_of_mem _ hw)
  have hown : s.vm.findClass R_M = some m.cls := findClass_of_methodNamed B.named
  have hlocks := B.notSynchronized
  subst hsz
  have hD := hD0.self (sz := s.heap.size)
  generalize hAe : va_A (cw_M_ahead cI a_this a_colours a_froms a_sizes a_layersOf a_areas a_xs a_ys a_used a_cornerAt a_counts a_costs a_firsts a_manys a_fs a_px a_py a_groups a_joinF n_colours c_code c_width c_height c_isTraced c_outlines c_points c_hasPolygon c_of c_corners c_costSum c_hasCurves c_curveCount c_sharp c_allowed f_colours) s.heap.size = A at hD ⊢
  have hA : ∀ q : Nat, s.heap.size ≤ q → A q := fun q h => by rw [← hAe]; exact Or.inr h
  have hS : va_S A s.heap s.heap [] := va_S.rf
  clear hD0
  generalize hQf : MQ below (qq_M_ahead dC dI cI cB cJ cZ a_this a_colours a_froms a_sizes a_layersOf a_areas a_xs a_ys a_used a_cornerAt a_counts a_costs a_firsts a_manys a_fs a_px a_py a_groups a_joinF n_colours c_code c_width c_height c_isTraced c_outlines c_points c_hasPolygon c_of c_corners c_costSum c_hasCurves c_curveCount c_sharp c_allowed f_colours A post) ([.ref a_this, .int x1, .int x2, .int x3, .int x4, .int x5] : List Value).toArray s 0 0 A = Qf
  have hl := lv_entry ([.ref a_this, .int x1, .int x2, .int x3, .int x4, .int x5]) (n := 8) (Nat.le_of_ble_eq_true rfl)
  rw [lg_entry_eq]
  generalize (lg_sl ([.ref a_this, .int x1, .int x2, .int x3, .int x4, .int x5]) ++ List.replicate (8 - (lg_sl ([.ref a_this, .int x1, .int x2, .int x3, .int x4, .int x5])).length) Slot.unset).toArray = ls at hl ⊢
  have hl : lv_has ls 8 [(0, .ref a_this), (1, .int x1), (2, .int x2), (3, .int x3), (4, .int x4), (5, .int x5)] := hl
  unfold wp_M_ahead at h
  have J90 : ∀ (x1_j90 : Int32) (x6_j90 : Int32) (y0_j90 : Int32) (H : Heap) (locs : List Loc) (ls : Array Slot), wp_M_ahead_J90 n_colours c_width c_height f_colours x1_j90 x6_j90 y0_j90 post → va_P (dC, dI) vwCl (cw_M_ahead cI a_this a_colours a_froms a_sizes a_layersOf a_areas a_xs a_ys a_used a_cornerAt a_counts a_costs a_firsts a_manys a_fs a_px a_py a_groups a_joinF n_colours c_code c_width c_height c_isTraced c_outlines c_points c_hasPolygon c_of c_corners c_costSum c_hasCurves c_curveCount c_sharp c_allowed f_colours) H → va_D A (cw_M_ahead cI a_this a_colours a_froms a_sizes a_layersOf a_areas a_xs a_ys a_used a_cornerAt a_counts a_costs a_firsts a_manys a_fs a_px a_py a_groups a_joinF n_colours c_code c_width c_height c_isTraced c_outlines c_points c_hasPolygon c_of c_corners c_costSum c_hasCurves c_curveCount c_sharp c_allowed f_colours) → va_S A s.heap H locs → lv_has ls 8 [(0, .ref a_this), (1, .int x1_j90), (6, .int x6_j90)] → W p l e (headSpec w_M_ahead ({ frames := 3, cells := 0, slots := 0, locals := 67 })).room s m ([.ref a_this, .int x1, .int x2, .int x3, .int x4, .int x5] : List Value).toArray below meth c H locs 0 0 Qf (F0 m 90 ls [.int y0_j90]) := by
    intro x1_j90 x6_j90 y0_j90 H locs ls h hP hD hS hl
    unfold wp_M_ahead_J90 at h
    refine lv_istore (lv' := [(7, .int y0_j90), (0, .ref a_this), (1, .int x1_j90), (6, .int x6_j90)]) hx hb d_M_ahead_90 hl (by decide) rfl (fun ls hl => ?_)
    refine lv_aload_n hx hb d_M_ahead_92 rfl (lv_at hl 1 rfl) ?_
    refine lv_iload_n hx hb d_M_ahead_93 rfl (lv_at hl 2 rfl) ?_
    refine lv_iload hx hb d_M_ahead_94 (lv_at hl 3 rfl) ?_
    refine lv_iload hx hb d_M_ahead_96 (lv_at hl 0 rfl) ?_
    obtain ⟨Q98, hq98, h⟩ := h
    have hPc := hP.sub (ws' := (cw_M_isInside cI a_this a_colours a_froms a_sizes a_layersOf a_areas a_xs a_ys a_used a_cornerAt a_counts a_costs a_firsts a_manys a_fs a_px a_py a_groups a_joinF n_colours c_code c_width c_height c_isTraced c_outlines c_points c_hasPolygon c_of c_corners c_costSum c_hasCurves c_curveCount c_sharp c_allowed f_colours)) [0, 1] rfl
    have hDc := hD.sub (ws' := (cw_M_isInside cI a_this a_colours a_froms a_sizes a_layersOf a_areas a_xs a_ys a_used a_cornerAt a_counts a_costs a_firsts a_manys a_fs a_px a_py a_groups a_joinF n_colours c_code c_width c_height c_isTraced c_outlines c_points c_hasPolygon c_of c_corners c_costSum c_hasCurves c_curveCount c_sharp c_allowed f_colours)) [0, 1] (by decide) rfl
    have hFc := va_free (wc := (cw_M_isInside cI a_this a_colours a_froms a_sizes a_layersOf a_areas a_xs a_ys a_used a_cornerAt a_counts a_costs a_firsts a_manys a_fs a_px a_py a_groups a_joinF n_colours c_code c_width c_height c_isTraced c_outlines c_points c_hasPolygon c_of c_corners c_costSum c_hasCurves c_curveCount c_sharp c_allowed f_colours)) hD hS hA [0, 1] rfl
    refine va_calli (va_runV (As := [.int x1_j90, .int x6_j90, .int y0_j90]) (rest := []) ⟨hx, hb, hml, hown, hts⟩ (c_M_isInside l dC dI cI cB cJ cZ a_this a_colours a_froms a_sizes a_layersOf a_areas a_xs a_ys a_used a_cornerAt a_counts a_costs a_firsts a_manys a_fs a_px a_py a_groups a_joinF H.size n_colours c_code c_width c_height c_isTraced c_outlines c_points c_hasPolygon c_of c_corners c_costSum c_hasCurves c_curveCount c_sharp c_allowed f_colours x1_j90 x6_j90 y0_j90 Q98 hq98) (cwV 3 hts (goodV q_786 q_788 q_p33 q_7 q_789) rfl rfl rfl (by decide +kernel) ⟨Nat.le_of_ble_eq_true rfl, Nat.le_of_ble_eq_true rfl⟩) ⟨fun a U g mk q => by obtain ⟨q0, q1, qP, qK, qD⟩ := q; exact ⟨q0, q1, qP, va_K.moved (u := U) (U := U.calling g mk a) (Vm.Alike.refl U.vm) qK, qD⟩, va_recv hK hPc (ci := 5) (q0 := 0) rfl rfl, fun U hU hW => ⟨rfl, by rw [hU], by rw [hU]; exact hPc, va_K.moved hW.alike hK, hDc.weaken (fun _ _ _ _ => trivial)⟩⟩ rfl rfl hl.1 rfl (lv_room (Nat.le_of_ble_eq_true rfl)) d_M_ahead_98 ⟨Nat.le_of_ble_eq_true rfl, Nat.le_of_ble_eq_true rfl⟩) hS (fun q _ h => hFc q h) hFc (fun r98 u98 t H1 locs ht hvm hw hB hz1 hk1 hS => ?_)
    cases u98
    obtain ⟨hP1, -, hD1⟩ := hB
    rw [ht] at hP1
    have h := h r98 hw
    obtain ⟨hP, hD⟩ := va_join (wr := []) (w1 := (cw_M_isInside cI a_this a_colours a_froms a_sizes a_layersOf a_areas a_xs a_ys a_used a_cornerAt a_counts a_costs a_firsts a_manys a_fs a_px a_py a_groups a_joinF n_colours c_code c_width c_height c_isTraced c_outlines c_points c_hasPolygon c_of c_corners c_costSum c_hasCurves c_curveCount c_sharp c_allowed f_colours)) hP hD [0, 1] [] rfl rfl (by decide) (by decide) hk1 hFc hP1 hD1
    clear hP1 hD1 hk1 hPc hDc hFc
    generalize H1 = H at hP hS ⊢
    have hP : va_P (dC, dI) vwCl (cw_M_ahead cI a_this a_colours a_froms a_sizes a_layersOf a_areas a_xs a_ys a_used a_cornerAt a_counts a_costs a_firsts a_manys a_fs a_px a_py a_groups a_joinF n_colours c_code c_width c_height c_isTraced c_outlines c_points c_hasPolygon c_of c_corners c_costSum c_hasCurves c_curveCount c_sharp c_allowed f_colours) H := hP.sub [0, 1] rfl
    have hD : va_D A (cw_M_ahead cI a_this a_colours a_froms a_sizes a_layersOf a_areas a_xs a_ys a_used a_cornerAt a_counts a_costs a_firsts a_manys a_fs a_px a_py a_groups a_joinF n_colours c_code c_width c_height c_isTraced c_outlines c_points c_hasPolygon c_of c_corners c_costSum c_hasCurves c_curveCount c_sharp c_allowed f_colours) := hD.sub [0, 1] (by decide) rfl
    obtain ⟨hz1, h⟩ := h
    subst hQf
    exact W.zret (v := r98) hx hb hr (nz01 hz1) (fun t ht hW => ⟨⟨r98, (), rfl, h, by rw [ht]; exact hP, va_K.moved hW.alike hK, hD⟩, hS.F ht⟩) hS.2.2 d_M_ahead_101
  have J78 : ∀ (x1_j78 : Int32) (x3_j78 : Int32) (x5_j78 : Int32) (x6_j78 : Int32) (y0_j78 : Int32) (H : Heap) (locs : List Loc) (ls : Array Slot), wp_M_ahead_J78 n_colours c_width c_height f_colours x1_j78 x3_j78 x5_j78 x6_j78 y0_j78 post → va_P (dC, dI) vwCl (cw_M_ahead cI a_this a_colours a_froms a_sizes a_layersOf a_areas a_xs a_ys a_used a_cornerAt a_counts a_costs a_firsts a_manys a_fs a_px a_py a_groups a_joinF n_colours c_code c_width c_height c_isTraced c_outlines c_points c_hasPolygon c_of c_corners c_costSum c_hasCurves c_curveCount c_sharp c_allowed f_colours) H → va_D A (cw_M_ahead cI a_this a_colours a_froms a_sizes a_layersOf a_areas a_xs a_ys a_used a_cornerAt a_counts a_costs a_firsts a_manys a_fs a_px a_py a_groups a_joinF n_colours c_code c_width c_height c_isTraced c_outlines c_points c_hasPolygon c_of c_corners c_costSum c_hasCurves c_curveCount c_sharp c_allowed f_colours) → va_S A s.heap H locs → lv_has ls 8 [(0, .ref a_this), (1, .int x1_j78), (3, .int x3_j78), (5, .int x5_j78), (6, .int x6_j78)] → W p l e (headSpec w_M_ahead ({ frames := 3, cells := 0, slots := 0, locals := 67 })).room s m ([.ref a_this, .int x1, .int x2, .int x3, .int x4, .int x5] : List Value).toArray below meth c H locs 0 0 Qf (F0 m 78 ls [.int y0_j78]) := by
    intro x1_j78 x3_j78 x5_j78 x6_j78 y0_j78 H locs ls h hP hD hS hl
    unfold wp_M_ahead_J78 at h
    refine lv_iload hx hb d_M_ahead_78 (lv_at hl 3 rfl) ?_
    refine lv_icmp_ne (tgt := 87) hx hb d_M_ahead_80 (by decide) (fun cc_ => ?_) (fun cc_ => ?_)
    · have h := h.1 cc_
      refine lv_iload_n hx hb d_M_ahead_87 rfl (lv_at hl 2 rfl) ?_
      refine lv_iconst (v := 1) hx hb d_M_ahead_88 (by decide) ?_
      refine lv_isub hx hb d_M_ahead_89 ?_
      exact J90 x1_j78 x6_j78 (x3_j78 - (1 : Int32)) _ _ _ h hP hD hS (lv_sub hl [0, 1, 4] rfl)
    · have h := h.2 cc_
      refine lv_iload_n hx hb d_M_ahead_83 rfl (lv_at hl 2 rfl) ?_
      refine lv_goto (tgt := 90) hx hb d_M_ahead_84 (by decide) ?_
      exact J90 x1_j78 x6_j78 x3_j78 _ _ _ h hP hD hS (lv_sub hl [0, 1, 4] rfl)
  have J44 : ∀ (x1_j44 : Int32) (x3_j44 : Int32) (x4_j44 : Int32) (x5_j44 : Int32) (y0_j44 : Int32) (H : Heap) (locs : List Loc) (ls : Array Slot), wp_M_ahead_J44 n_colours c_width c_height f_colours x1_j44 x3_j44 x4_j44 x5_j44 y0_j44 post → va_P (dC, dI) vwCl (cw_M_ahead cI a_this a_colours a_froms a_sizes a_layersOf a_areas a_xs a_ys a_used a_cornerAt a_counts a_costs a_firsts a_manys a_fs a_px a_py a_groups a_joinF n_colours c_code c_width c_height c_isTraced c_outlines c_points c_hasPolygon c_of c_corners c_costSum c_hasCurves c_curveCount c_sharp c_allowed f_colours) H → va_D A (cw_M_ahead cI a_this a_colours a_froms a_sizes a_layersOf a_areas a_xs a_ys a_used a_cornerAt a_counts a_costs a_firsts a_manys a_fs a_px a_py a_groups a_joinF n_colours c_code c_width c_height c_isTraced c_outlines c_points c_hasPolygon c_of c_corners c_costSum c_hasCurves c_curveCount c_sharp c_allowed f_colours) → va_S A s.heap H locs → lv_has ls 8 [(0, .ref a_this), (1, .int x1_j44), (3, .int x3_j44), (4, .int x4_j44), (5, .int x5_j44)] → W p l e (headSpec w_M_ahead ({ frames := 3, cells := 0, slots := 0, locals := 67 })).room s m ([.ref a_this, .int x1, .int x2, .int x3, .int x4, .int x5] : List Value).toArray below meth c H locs 0 0 Qf (F0 m 44 ls [.int y0_j44]) := by
    intro x1_j44 x3_j44 x4_j44 x5_j44 y0_j44 H locs ls h hP hD hS hl
    unfold wp_M_ahead_J44 at h
    refine lv_istore (lv' := [(6, .int y0_j44), (0, .ref a_this), (1, .int x1_j44), (3, .int x3_j44), (4, .int x4_j44), (5, .int x5_j44)]) hx hb d_M_ahead_44 hl (by decide) rfl (fun ls hl => ?_)
    refine lv_iload hx hb d_M_ahead_46 (lv_at hl 4 rfl) ?_
    refine lv_iconst (v := 1) hx hb d_M_ahead_48 (by decide) ?_
    refine lv_icmp_ne (tgt := 56) hx hb d_M_ahead_49 (by decide) (fun cc_ => ?_) (fun cc_ => ?_)
    · have h := h.1 cc_
      refine lv_iload hx hb d_M_ahead_56 (lv_at hl 4 rfl) ?_
      refine lv_iconst (v := 3) hx hb d_M_ahead_58 (by decide) ?_
      refine lv_icmp_ne (tgt := 68) hx hb d_M_ahead_59 (by decide) (fun cc_ => ?_) (fun cc_ => ?_)
      · have h := h.1 cc_
        refine lv_iload hx hb d_M_ahead_68 (lv_at hl 4 rfl) ?_
        refine lv_if_ne (tgt := 77) hx hb d_M_ahead_70 (by decide) (fun cc_ => ?_) (fun cc_ => ?_)
        · have h := h.1 cc_
          refine lv_iconst (v := 0) hx hb d_M_ahead_77 (by decide) ?_
          exact J78 x1_j44 x3_j44 x5_j44 y0_j44 (0 : Int32) _ _ _ h hP hD hS (lv_sub hl [1, 2, 3, 5, 0] rfl)
        · have h := h.2 cc_
          refine lv_iconst (v := 1) hx hb d_M_ahead_73 (by decide) ?_
          refine lv_goto (tgt := 78) hx hb d_M_ahead_74 (by decide) ?_
          exact J78 x1_j44 x3_j44 x5_j44 y0_j44 (1 : Int32) _ _ _ h hP hD hS (lv_sub hl [1, 2, 3, 5, 0] rfl)
      · have h := h.2 cc_
        refine lv_iload_n hx hb d_M_ahead_62 rfl (lv_at hl 3 rfl) ?_
        refine lv_iconst (v := 1) hx hb d_M_ahead_63 (by decide) ?_
        refine lv_isub hx hb d_M_ahead_64 ?_
        refine lv_goto (tgt := 90) hx hb d_M_ahead_65 (by decide) ?_
        exact J90 x1_j44 y0_j44 (x3_j44 - (1 : Int32)) _ _ _ h hP hD hS (lv_sub hl [1, 2, 0] rfl)
    · have h := h.2 cc_
      refine lv_iload_n hx hb d_M_ahead_52 rfl (lv_at hl 3 rfl) ?_
      refine lv_goto (tgt := 90) hx hb d_M_ahead_53 (by decide) ?_
      exact J90 x1_j44 y0_j44 x3_j44 _ _ _ h hP hD hS (lv_sub hl [1, 2, 0] rfl)
  have J32 : ∀ (x1_j32 : Int32) (x2_j32 : Int32) (x3_j32 : Int32) (x4_j32 : Int32) (x5_j32 : Int32) (y0_j32 : Int32) (H : Heap) (locs : List Loc) (ls : Array Slot), wp_M_ahead_J32 n_colours c_width c_height f_colours x1_j32 x2_j32 x3_j32 x4_j32 x5_j32 y0_j32 post → va_P (dC, dI) vwCl (cw_M_ahead cI a_this a_colours a_froms a_sizes a_layersOf a_areas a_xs a_ys a_used a_cornerAt a_counts a_costs a_firsts a_manys a_fs a_px a_py a_groups a_joinF n_colours c_code c_width c_height c_isTraced c_outlines c_points c_hasPolygon c_of c_corners c_costSum c_hasCurves c_curveCount c_sharp c_allowed f_colours) H → va_D A (cw_M_ahead cI a_this a_colours a_froms a_sizes a_layersOf a_areas a_xs a_ys a_used a_cornerAt a_counts a_costs a_firsts a_manys a_fs a_px a_py a_groups a_joinF n_colours c_code c_width c_height c_isTraced c_outlines c_points c_hasPolygon c_of c_corners c_costSum c_hasCurves c_curveCount c_sharp c_allowed f_colours) → va_S A s.heap H locs → lv_has ls 8 [(0, .ref a_this), (1, .int x1_j32), (2, .int x2_j32), (3, .int x3_j32), (4, .int x4_j32), (5, .int x5_j32)] → W p l e (headSpec w_M_ahead ({ frames := 3, cells := 0, slots := 0, locals := 67 })).room s m ([.ref a_this, .int x1, .int x2, .int x3, .int x4, .int x5] : List Value).toArray below meth c H locs 0 0 Qf (F0 m 32 ls [.int y0_j32]) := by
    intro x1_j32 x2_j32 x3_j32 x4_j32 x5_j32 y0_j32 H locs ls h hP hD hS hl
    unfold wp_M_ahead_J32 at h
    refine lv_iload hx hb d_M_ahead_32 (lv_at hl 5 rfl) ?_
    refine lv_icmp_ne (tgt := 43) hx hb d_M_ahead_34 (by decide) (fun cc_ => ?_) (fun cc_ => ?_)
    · have h := h.1 cc_
      refine lv_iload_n hx hb d_M_ahead_43 rfl (lv_at hl 2 rfl) ?_
      exact J44 x1_j32 x3_j32 x4_j32 x5_j32 x2_j32 _ _ _ h hP hD hS (lv_sub hl [0, 1, 3, 4, 5] rfl)
    · have h := h.2 cc_
      refine lv_iload_n hx hb d_M_ahead_37 rfl (lv_at hl 2 rfl) ?_
      refine lv_iconst (v := 1) hx hb d_M_ahead_38 (by decide) ?_
      refine lv_isub hx hb d_M_ahead_39 ?_
      refine lv_goto (tgt := 44) hx hb d_M_ahead_40 (by decide) ?_
      exact J44 x1_j32 x3_j32 x4_j32 x5_j32 (x2_j32 - (1 : Int32)) _ _ _ h hP hD hS (lv_sub hl [0, 1, 3, 4, 5] rfl)
  refine lv_iload hx hb d_M_ahead_0 (lv_at hl 4 rfl) ?_
  refine lv_if_ne (tgt := 9) hx hb d_M_ahead_2 (by decide) (fun cc_ => ?_) (fun cc_ => ?_)
  · have h := h.1 cc_
    refine lv_iload hx hb d_M_ahead_9 (lv_at hl 4 rfl) ?_
    refine lv_iconst (v := 2) hx hb d_M_ahead_11 (by decide) ?_
    refine lv_icmp_ne (tgt := 21) hx hb d_M_ahead_12 (by decide) (fun cc_ => ?_) (fun cc_ => ?_)
    · have h := h.1 cc_
      refine lv_iload hx hb d_M_ahead_21 (lv_at hl 4 rfl) ?_
      refine lv_iconst (v := 1) hx hb d_M_ahead_23 (by decide) ?_
      refine lv_icmp_ne (tgt := 31) hx hb d_M_ahead_24 (by decide) (fun cc_ => ?_) (fun cc_ => ?_)
      · have h := h.1 cc_
        refine lv_iconst (v := 0) hx hb d_M_ahead_31 (by decide) ?_
        exact J32 x1 x2 x3 x4 x5 (0 : Int32) _ _ _ h hP hD hS (lv_sub hl [0, 1, 2, 3, 4, 5] rfl)
      · have h := h.2 cc_
        refine lv_iconst (v := 1) hx hb d_M_ahead_27 (by decide) ?_
        refine lv_goto (tgt := 32) hx hb d_M_ahead_28 (by decide) ?_
        exact J32 x1 x2 x3 x4 x5 (1 : Int32) _ _ _ h hP hD hS (lv_sub hl [0, 1, 2, 3, 4, 5] rfl)
    · have h := h.2 cc_
      refine lv_iload_n hx hb d_M_ahead_15 rfl (lv_at hl 2 rfl) ?_
      refine lv_iconst (v := 1) hx hb d_M_ahead_16 (by decide) ?_
      refine lv_isub hx hb d_M_ahead_17 ?_
      refine lv_goto (tgt := 44) hx hb d_M_ahead_18 (by decide) ?_
      exact J44 x1 x3 x4 x5 (x2 - (1 : Int32)) _ _ _ h hP hD hS (lv_sub hl [0, 1, 3, 4, 5] rfl)
  · have h := h.2 cc_
    refine lv_iload_n hx hb d_M_ahead_5 rfl (lv_at hl 2 rfl) ?_
    refine lv_goto (tgt := 44) hx hb d_M_ahead_6 (by decide) ?_
    exact J44 x1 x3 x4 x5 x2 _ _ _ h hP hD hS (lv_sub hl [0, 1, 3, 4, 5] rfl)
def wp_M_turnsLeft_J83 (n_colours : Nat) (c_width : Int32) (c_height : Int32) (f_colours : Nat → Int32) (x1 : Int32) (x2 : Int32) (x3 : Int32) (x6 : Int32) (x7 : Int32) (y0 : Int32) (y1 : Int32) (back54 : (Int32 × Int32) → Prop) (back44 : (Int32 × Int32) → Prop) (post : Int32 → Unit → Prop) : Prop :=
  ∀ x5_84 : Int32, x5_84 = (y1 + y0) → ∀ x7_86 : Int32, x7_86 = x7 + (1 : Int32) → back54 (x5_84, x7_86)
def wp_M_turnsLeft_L54 (n_colours : Nat) (c_width : Int32) (c_height : Int32) (f_colours : Nat → Int32) (x1 : Int32) (x2 : Int32) (x3 : Int32) (x6 : Int32) (back44 : (Int32 × Int32) → Prop) (post : Int32 → Unit → Prop) (back54 : (Int32 × Int32) → Prop) (x5 : Int32) (x7 : Int32) : Prop :=
  ((2 : Int32) ≤ x7 → ∀ x6_92 : Int32, x6_92 = x6 + (1 : Int32) → back44 (x5, x6_92)) ∧ (¬ (2 : Int32) ≤ x7 → ∃ Q72 : Int32 → Unit → Prop, wp_M_isInside n_colours c_width c_height f_colours x1 (x2 + x7) (x3 + x6) Q72 ∧ ∀ (r72 : Int32), Q72 r72 () → (r72 = 0 → wp_M_turnsLeft_J83 n_colours c_width c_height f_colours x1 x2 x3 x6 x7 (0 : Int32) x5 back54 back44 post) ∧ (¬ r72 = 0 → wp_M_turnsLeft_J83 n_colours c_width c_height f_colours x1 x2 x3 x6 x7 (1 : Int32) x5 back54 back44 post))
def wp_M_turnsLeft_L44 (n_colours : Nat) (c_width : Int32) (c_height : Int32) (f_colours : Nat → Int32) (x1 : Int32) (x2 : Int32) (x3 : Int32) (post : Int32 → Unit → Prop) (back44 : (Int32 × Int32) → Prop) (x5 : Int32) (x6 : Int32) : Prop :=
  ((2 : Int32) ≤ x6 → ((8 : Int32) < x5 → post (0 : Int32) ()) ∧ (¬ (8 : Int32) < x5 → post (1 : Int32) ())) ∧ (¬ (2 : Int32) ≤ x6 → lpW (fun b z => wp_M_turnsLeft_L54 n_colours c_width c_height f_colours x1 x2 x3 x6 back44 post b z.1 z.2) (x5, (-2 : Int32)))
def wp_M_turnsLeft (n_colours : Nat) (c_width : Int32) (c_height : Int32) (f_colours : Nat → Int32) (x1 : Int32) (x2 : Int32) (x3 : Int32) (x4 : Int32) (post : Int32 → Unit → Prop) : Prop :=
  ((2 : Int32) ≤ x4 → (¬ x4 = (3 : Int32) → lpW (fun b z => wp_M_turnsLeft_L44 n_colours c_width c_height f_colours x1 x2 x3 post b z.1 z.2) ((0 : Int32), (-2 : Int32))) ∧ (x4 = (3 : Int32) → (¬ ((x2 + x3) - (x2 + x3) / (2 : Int32) * (2 : Int32)) = 0 → post (0 : Int32) ()) ∧ (((x2 + x3) - (x2 + x3) / (2 : Int32) * (2 : Int32)) = 0 → post (1 : Int32) ()))) ∧ (¬ (2 : Int32) ≤ x4 → (¬ x4 = 0 → post (0 : Int32) ()) ∧ (x4 = 0 → post (1 : Int32) ()))
abbrev cw_M_turnsLeft (cI : ClassId) (a_this a_colours a_froms a_sizes a_layersOf a_areas a_xs a_ys a_used a_cornerAt a_counts a_costs a_firsts a_manys a_fs a_px a_py a_groups a_joinF : Nat) (n_colours : Nat) (c_code : Int32) (c_width : Int32) (c_height : Int32) (c_isTraced : Int32) (c_outlines : Int32) (c_points : Int32) (c_hasPolygon : Int32) (c_of : Int32) (c_corners : Int32) (c_costSum : Int32) (c_hasCurves : Int32) (c_curveCount : Int32) (c_sharp : Int32) (c_allowed : Int32) (f_colours : Nat → Int32) : va_W := [(a_this, .inr (5, [.int c_code, .int c_width, .int c_height, .ref a_colours, .int c_isTraced, .int c_outlines, .ref a_froms, .ref a_sizes, .ref a_layersOf, .ref a_areas, .int c_points, .ref a_xs, .ref a_ys, .ref a_used, .int c_hasPolygon, .int c_of, .int c_corners, .int c_costSum, .ref a_cornerAt, .ref a_counts, .ref a_costs, .int c_hasCurves, .int c_curveCount, .ref a_firsts, .ref a_manys, .ref a_fs, .int c_sharp, .int c_allowed, .ref a_px, .ref a_py, .ref a_groups, .ref a_joinF])), (a_colours, .inl (cI, n_colours, .inl f_colours))]
abbrev qq_M_turnsLeft (dC : Nat → ClassId) (dI : Nat → Nat → Nat) (cI cB cJ cZ : ClassId) (a_this a_colours a_froms a_sizes a_layersOf a_areas a_xs a_ys a_used a_cornerAt a_counts a_costs a_firsts a_manys a_fs a_px a_py a_groups a_joinF : Nat) (n_colours : Nat) (c_code : Int32) (c_width : Int32) (c_height : Int32) (c_isTraced : Int32) (c_outlines : Int32) (c_points : Int32) (c_hasPolygon : Int32) (c_of : Int32) (c_corners : Int32) (c_costSum : Int32) (c_hasCurves : Int32) (c_curveCount : Int32) (c_sharp : Int32) (c_allowed : Int32) (f_colours : Nat → Int32) (A : Nat → Prop) (post : Int32 → Unit → Prop) : Array Value → State → Outcome → State → Prop := va_Qi post (fun _ t => va_P (dC, dI) vwCl (cw_M_turnsLeft cI a_this a_colours a_froms a_sizes a_layersOf a_areas a_xs a_ys a_used a_cornerAt a_counts a_costs a_firsts a_manys a_fs a_px a_py a_groups a_joinF n_colours c_code c_width c_height c_isTraced c_outlines c_points c_hasPolygon c_of c_corners c_costSum c_hasCurves c_curveCount c_sharp c_allowed f_colours) t.heap ∧ va_K (dC, dI) vwCl [(cI, .int), (cB, .byte), (cJ, .long), (cZ, .boolean)] t ∧ va_D A (cw_M_turnsLeft cI a_this a_colours a_froms a_sizes a_layersOf a_areas a_xs a_ys a_used a_cornerAt a_counts a_costs a_firsts a_manys a_fs a_px a_py a_groups a_joinF n_colours c_code c_width c_height c_isTraced c_outlines c_points c_hasPolygon c_of c_corners c_costSum c_hasCurves c_curveCount c_sharp c_allowed f_colours)) A
set_option maxHeartbeats 4000000 in
set_option maxRecDepth 100000 in
theorem c_M_turnsLeft (l : Launch) (dC : Nat → ClassId) (dI : Nat → Nat → Nat) (cI cB cJ cZ : ClassId) (a_this a_colours a_froms a_sizes a_layersOf a_areas a_xs a_ys a_used a_cornerAt a_counts a_costs a_firsts a_manys a_fs a_px a_py a_groups a_joinF : Nat) (sz : Nat) (n_colours : Nat) (c_code : Int32) (c_width : Int32) (c_height : Int32) (c_isTraced : Int32) (c_outlines : Int32) (c_points : Int32) (c_hasPolygon : Int32) (c_of : Int32) (c_corners : Int32) (c_costSum : Int32) (c_hasCurves : Int32) (c_curveCount : Int32) (c_sharp : Int32) (c_allowed : Int32) (f_colours : Nat → Int32) (x1 : Int32) (x2 : Int32) (x3 : Int32) (x4 : Int32) (post : Int32 → Unit → Prop) (h : wp_M_turnsLeft n_colours c_width c_height f_colours x1 x2 x3 x4 post) : Met l y_M_turnsLeft w_M_turnsLeft ({ frames := 3, cells := 0, slots := 0, locals := 67 }) (va_Pc [.ref a_this, .int x1, .int x2, .int x3, .int x4] (fun U => U.heap.size = sz ∧ va_P (dC, dI) vwCl (cw_M_turnsLeft cI a_this a_colours a_froms a_sizes a_layersOf a_areas a_xs a_ys a_used a_cornerAt a_counts a_costs a_firsts a_manys a_fs a_px a_py a_groups a_joinF n_colours c_code c_width c_height c_isTraced c_outlines c_points c_hasPolygon c_of c_corners c_costSum c_hasCurves c_curveCount c_sharp c_allowed f_colours) U.heap ∧ va_K (dC, dI) vwCl [(cI, .int), (cB, .byte), (cJ, .long), (cZ, .boolean)] U ∧ va_D (fun _ => True) (cw_M_turnsLeft cI a_this a_colours a_froms a_sizes a_layersOf a_areas a_xs a_ys a_used a_cornerAt a_counts a_costs a_firsts a_manys a_fs a_px a_py a_groups a_joinF n_colours c_code c_width c_height c_isTraced c_outlines c_points c_hasPolygon c_of c_corners c_costSum c_hasCurves c_curveCount c_sharp c_allowed f_colours))) (qq_M_turnsLeft dC dI cI cB cJ cZ a_this a_colours a_froms a_sizes a_layersOf a_areas a_xs a_ys a_used a_cornerAt a_counts a_costs a_firsts a_manys a_fs a_px a_py a_groups a_joinF n_colours c_code c_width c_height c_isTraced c_outlines c_points c_hasPolygon c_of c_corners c_costSum c_hasCurves c_curveCount c_sharp c_allowed f_colours (va_A (cw_M_turnsLeft cI a_this a_colours a_froms a_sizes a_layersOf a_areas a_xs a_ys a_used a_cornerAt a_counts a_costs a_firsts a_manys a_fs a_px a_py a_groups a_joinF n_colours c_code c_width c_height c_isTraced c_outlines c_points c_hasPolygon c_of c_corners c_costSum c_hasCurves c_curveCount c_sharp c_allowed f_colours) sz) post) 0 0 (va_A (cw_M_turnsLeft cI a_this a_colours a_froms a_sizes a_layersOf a_areas a_xs a_ys a_used a_cornerAt a_counts a_costs a_firsts a_manys a_fs a_px a_py a_groups a_joinF n_colours c_code c_width c_height c_isTraced c_outlines c_points c_hasPolygon c_of c_corners c_costSum c_hasCurves c_curveCount c_sharp c_allowed f_colours) sz) := by
  refine Met.ofW (cc := b_M_turnsLeft) (maxL := 8) (ret := (some .boolean)) (by decide +kernel) rfl ?_
  intro p e s m args below meth c s₁ B hml hv
  obtain ⟨rfl, hsz, hP, hK, hD0⟩ := hv
  have hx := B.exec
  have hb := B.bytes
  have hr := B.returns
  have hts : ∀ w ∈ allW, w.before _ s = true := fun w hw => atoms_spec (ws := w_M_turnsLeft) B.pre w (List.mem_cons_of_mem _ hw)
  have hown : s.vm.findClass R_M = some m.cls := findClass_of_methodNamed B.named
  have hlocks := B.notSynchronized
  subst hsz
  have hD := hD0.self (sz := s.heap.size)
  generalize hAe : va_A (cw_M_turnsLeft cI a_this a_colours a_froms a_sizes a_layersOf a_areas a_xs a_ys a_used a_cornerAt a_counts a_costs a_firsts a_manys a_fs a_px a_py a_groups a_joinF n_colours c_code c_width c_height c_isTraced c_outlines c_points c_hasPolygon c_of c_corners c_costSum c_hasCurves c_curveCount c_sharp c_allowed f_colours) s.heap.size = A at hD ⊢
  have hA : ∀ q : Nat, s.heap.size ≤ q → A q := fun q h => by rw [← hAe]; exact Or.inr h
  have hS : va_S A s.heap s.heap [] := va_S.rf
  clear hD0
  generalize hQf : MQ below (qq_M_turnsLeft dC dI cI cB cJ cZ a_this a_colours a_froms a_sizes a_layersOf a_areas a_xs a_ys a_used a_cornerAt a_counts a_costs a_firsts a_manys a_fs a_px a_py a_groups a_joinF n_colours c_code c_width c_height c_isTraced c_outlines c_points c_hasPolygon c_of c_corners c_costSum c_hasCurves c_curveCount c_sharp c_allowed f_colours A post) ([.ref a_this, .int x1, .int x2, .int x3, .int x4] : List Value).toArray s 0 0 A = Qf
  have hl := lv_entry ([.ref a_this, .int x1, .int x2, .int x3, .int x4]) (n := 8) (Nat.le_of_ble_eq_true rfl)
  rw [lg_entry_eq]
  generalize (lg_sl ([.ref a_this, .int x1, .int x2, .int x3, .int x4]) ++ List.replicate (8 - (lg_sl ([.ref a_this, .int x1, .int x2, .int x3, .int x4])).length) Slot.unset).toArray = ls at hl ⊢
  have hl : lv_has ls 8 [(0, .ref a_this), (1, .int x1), (2, .int x2), (3, .int x3), (4, .int x4)] := hl
  unfold wp_M_turnsLeft at h
  refine lv_iload hx hb d_M_turnsLeft_0 (lv_at hl 4 rfl) ?_
  refine lv_iconst (v := 2) hx hb d_M_turnsLeft_2 (by decide) ?_
  refine lv_icmp_ge (tgt := 17) hx hb d_M_turnsLeft_3 (by decide) (fun cc_ => ?_) (fun cc_ => ?_)
  · have h := h.1 cc_
    refine lv_iload hx hb d_M_turnsLeft_17 (lv_at hl 4 rfl) ?_
    refine lv_iconst (v := 3) hx hb d_M_turnsLeft_19 (by decide) ?_
    refine lv_icmp_ne (tgt := 37) hx hb d_M_turnsLeft_20 (by decide) (fun cc_ => ?_) (fun cc_ => ?_)
    · have h := h.1 cc_
      refine lv_iconst (v := 0) hx hb d_M_turnsLeft_37 (by decide) ?_
      refine lv_istore (lv' := [(5, .int (0 : Int32)), (0, .ref a_this), (1, .int x1), (2, .int x2), (3, .int x3), (4, .int x4)]) hx hb d_M_turnsLeft_38 hl (by decide) rfl (fun ls hl => ?_)
      refine lv_bipush (v := -2) hx hb d_M_turnsLeft_40 (by decide) ?_
      refine lv_istore (lv' := [(6, .int (-2 : Int32)), (5, .int (0 : Int32)), (0, .ref a_this), (1, .int x1), (2, .int x2), (3, .int x3), (4, .int x4)]) hx hb d_M_turnsLeft_42 hl (by decide) rfl (fun ls hl => ?_)
      refine lpW_ind (Wp := fun z => ∀ (H : Heap) (locs : List Loc) (ls : Array Slot), va_P (dC, dI) vwCl (cw_M_turnsLeft cI a_this a_colours a_froms a_sizes a_layersOf a_areas a_xs a_ys a_used a_cornerAt a_counts a_costs a_firsts a_manys a_fs a_px a_py a_groups a_joinF n_colours c_code c_width c_height c_isTraced c_outlines c_points c_hasPolygon c_of c_corners c_costSum c_hasCurves c_curveCount c_sharp c_allowed f_colours) H → va_D A (cw_M_turnsLeft cI a_this a_colours a_froms a_sizes a_layersOf a_areas a_xs a_ys a_used a_cornerAt a_counts a_costs a_firsts a_manys a_fs a_px a_py a_groups a_joinF n_colours c_code c_width c_height c_isTraced c_outlines c_points c_hasPolygon c_of c_corners c_costSum c_hasCurves c_curveCount c_sharp c_allowed f_colours) → va_S A s.heap H locs → lv_has ls 8 [(0, .ref a_this), (1, .int x1), (2, .int x2), (3, .int x3), (5, .int z.1), (6, .int z.2)] → W p l e (headSpec w_M_turnsLeft ({ frames := 3, cells := 0, slots := 0, locals := 67 })).room s m ([.ref a_this, .int x1, .int x2, .int x3, .int x4] : List Value).toArray below meth c H locs 0 0 Qf (F0 m 44 ls [])) h ?_ _ _ _ hP hD hS (lv_sub hl [2, 3, 4, 5, 1, 0] rfl)
      rintro ⟨x5_l44, x6_l44⟩ back44 h hb44 H locs ls hP hD hS hl
      have h : wp_M_turnsLeft_L44 n_colours c_width c_height f_colours x1 x2 x3 post back44 x5_l44 x6_l44 := h
      have hP : va_P (dC, dI) vwCl (cw_M_turnsLeft cI a_this a_colours a_froms a_sizes a_layersOf a_areas a_xs a_ys a_used a_cornerAt a_counts a_costs a_firsts a_manys a_fs a_px a_py a_groups a_joinF n_colours c_code c_width c_height c_isTraced c_outlines c_points c_hasPolygon c_of c_corners c_costSum c_hasCurves c_curveCount c_sharp c_allowed f_colours) H := hP
      have hD : va_D A (cw_M_turnsLeft cI a_this a_colours a_froms a_sizes a_layersOf a_areas a_xs a_ys a_used a_cornerAt a_counts a_costs a_firsts a_manys a_fs a_px a_py a_groups a_joinF n_colours c_code c_width c_height c_isTraced c_outlines c_points c_hasPolygon c_of c_corners c_costSum c_hasCurves c_curveCount c_sharp c_allowed f_colours) := hD
      have hl : lv_has ls 8 [(0, .ref a_this), (1, .int x1), (2, .int x2), (3, .int x3), (5, .int x5_l44), (6, .int x6_l44)] := hl
      unfold wp_M_turnsLeft_L44 at h
      refine lv_iload hx hb d_M_turnsLeft_44 (lv_at hl 5 rfl) ?_
      refine lv_iconst (v := 2) hx hb d_M_turnsLeft_46 (by decide) ?_
      refine lv_icmp_ge (tgt := 98) hx hb d_M_turnsLeft_47 (by decide) (fun cc_ => ?_) (fun cc_ => ?_)
      · have h := h.1 cc_
        refine lv_iload hx hb d_M_turnsLeft_98 (lv_at hl 4 rfl) ?_
        refine lv_bipush (v := 8) hx hb d_M_turnsLeft_100 (by decide) ?_
        refine lv_icmp_gt (tgt := 109) hx hb d_M_turnsLeft_102 (by decide) (fun cc_ => ?_) (fun cc_ => ?_)
        · have h := h.1 cc_
          refine lv_iconst (v := 0) hx hb d_M_turnsLeft_109 (by decide) ?_
          subst hQf
          exact W.zret (v := (0 : Int32)) hx hb hr (by rfl) (fun t ht hW => ⟨⟨(0 : Int32), (), rfl, h, by rw [ht]; exact hP, va_K.moved hW.alike hK, hD⟩, hS.F ht⟩) hS.2.2 d_M_turnsLeft_110
        · have h := h.2 cc_
          refine lv_iconst (v := 1) hx hb d_M_turnsLeft_105 (by decide) ?_
          refine lv_goto (tgt := 110) hx hb d_M_turnsLeft_106 (by decide) ?_
          subst hQf
          exact W.zret (v := (1 : Int32)) hx hb hr (by rfl) (fun t ht hW => ⟨⟨(1 : Int32), (), rfl, h, by rw [ht]; exact hP, va_K.moved hW.alike hK, hD⟩, hS.F ht⟩) hS.2.2 d_M_turnsLeft_110
      · have h := h.2 cc_
        refine lv_bipush (v := -2) hx hb d_M_turnsLeft_50 (by decide) ?_
        refine lv_istore (lv' := [(7, .int (-2 : Int32)), (0, .ref a_this), (1, .int x1), (2, .int x2), (3, .int x3), (5, .int x5_l44), (6, .int x6_l44)]) hx hb d_M_turnsLeft_52 hl (by decide) rfl (fun ls hl => ?_)
        refine lpW_ind (Wp := fun z => ∀ (H : Heap) (locs : List Loc) (ls : Array Slot), va_P (dC, dI) vwCl (cw_M_turnsLeft cI a_this a_colours a_froms a_sizes a_layersOf a_areas a_xs a_ys a_used a_cornerAt a_counts a_costs a_firsts a_manys a_fs a_px a_py a_groups a_joinF n_colours c_code c_width c_height c_isTraced c_outlines c_points c_hasPolygon c_of c_corners c_costSum c_hasCurves c_curveCount c_sharp c_allowed f_colours) H → va_D A (cw_M_turnsLeft cI a_this a_colours a_froms a_sizes a_layersOf a_areas a_xs a_ys a_used a_cornerAt a_counts a_costs a_firsts a_manys a_fs a_px a_py a_groups a_joinF n_colours c_code c_width c_height c_isTraced c_outlines c_points c_hasPolygon c_of c_corners c_costSum c_hasCurves c_curveCount c_sharp c_allowed f_colours) → va_S A s.heap H locs → lv_has ls 8 [(0, .ref a_this), (1, .int x1), (2, .int x2), (3, .int x3), (5, .int z.1), (6, .int x6_l44), (7, .int z.2)] → W p l e (headSpec w_M_turnsLeft ({ frames := 3, cells := 0, slots := 0, locals := 67 })).room s m ([.ref a_this, .int x1, .int x2, .int x3, .int x4] : List Value).toArray below meth c H locs 0 0 Qf (F0 m 54 ls [])) h ?_ _ _ _ hP hD hS (lv_sub hl [1, 2, 3, 4, 5, 6, 0] rfl)
        rintro ⟨x5_l54, x7_l54⟩ back54 h hb54 H locs ls hP hD hS hl
        have h : wp_M_turnsLeft_L54 n_colours c_width c_height f_colours x1 x2 x3 x6_l44 back44 post back54 x5_l54 x7_l54 := h
        have hP : va_P (dC, dI) vwCl (cw_M_turnsLeft cI a_this a_colours a_froms a_sizes a_layersOf a_areas a_xs a_ys a_used a_cornerAt a_counts a_costs a_firsts a_manys a_fs a_px a_py a_groups a_joinF n_colours c_code c_width c_height c_isTraced c_outlines c_points c_hasPolygon c_of c_corners c_costSum c_hasCurves c_curveCount c_sharp c_allowed f_colours) H := hP
        have hD : va_D A (cw_M_turnsLeft cI a_this a_colours a_froms a_sizes a_layersOf a_areas a_xs a_ys a_used a_cornerAt a_counts a_costs a_firsts a_manys a_fs a_px a_py a_groups a_joinF n_colours c_code c_width c_height c_isTraced c_outlines c_points c_hasPolygon c_of c_corners c_costSum c_hasCurves c_curveCount c_sharp c_allowed f_colours) := hD
        have hl : lv_has ls 8 [(0, .ref a_this), (1, .int x1), (2, .int x2), (3, .int x3), (5, .int x5_l54), (6, .int x6_l44), (7, .int x7_l54)] := hl
        unfold wp_M_turnsLeft_L54 at h
        have J83 : ∀ (x7_j83 : Int32) (y0_j83 : Int32) (y1_j83 : Int32) (H : Heap) (locs : List Loc) (ls : Array Slot), wp_M_turnsLeft_J83 n_colours c_width c_height f_colours x1 x2 x3 x6_l44 x7_j83 y0_j83 y1_j83 back54 back44 post → va_P (dC, dI) vwCl (cw_M_turnsLeft cI a_this a_colours a_froms a_sizes a_layersOf a_areas a_xs a_ys a_used a_cornerAt a_counts a_costs a_firsts a_manys a_fs a_px a_py a_groups a_joinF n_colours c_code c_width c_height c_isTraced c_outlines c_points c_hasPolygon c_of c_corners c_costSum c_hasCurves c_curveCount c_sharp c_allowed f_colours) H → va_D A (cw_M_turnsLeft cI a_this a_colours a_froms a_sizes a_layersOf a_areas a_xs a_ys a_used a_cornerAt a_counts a_costs a_firsts a_manys a_fs a_px a_py a_groups a_joinF n_colours c_code c_width c_height c_isTraced c_outlines c_points c_hasPolygon c_of c_corners c_costSum c_hasCurves c_curveCount c_sharp c_allowed f_colours) → va_S A s.heap H locs → lv_has ls 8 [(0, .ref a_this), (1, .int x1), (2, .int x2), (3, .int x3), (6, .int x6_l44), (7, .int x7_j83)] → W p l e (headSpec w_M_turnsLeft ({ frames := 3, cells := 0, slots := 0, locals := 67 })).room s m ([.ref a_this, .int x1, .int x2, .int x3, .int x4] : List Value).toArray below meth c H locs 0 0 Qf (F0 m 83 ls [.int y0_j83, .int y1_j83]) := by
          intro x7_j83 y0_j83 y1_j83 H locs ls h hP hD hS hl
          unfold wp_M_turnsLeft_J83 at h
          refine lv_iadd hx hb d_M_turnsLeft_83 ?_
          refine lv_topi (fun x5_84 e_x5_84 => ?_)
          have h := h x5_84 e_x5_84
          refine lv_istore (lv' := [(5, .int x5_84), (0, .ref a_this), (1, .int x1), (2, .int x2), (3, .int x3), (6, .int x6_l44), (7, .int x7_j83)]) hx hb d_M_turnsLeft_84 hl (by decide) rfl (fun ls hl => ?_)
          obtain ⟨x7_86, e_x7_86⟩ : ∃ y : Int32, y = x7_j83 + (1 : Int32) := ⟨_, rfl⟩
          have h := h x7_86 e_x7_86
          refine lv_iinc (v := x7_86) (lv' := [(7, .int x7_86), (5, .int x5_84), (0, .ref a_this), (1, .int x1), (2, .int x2), (3, .int x3), (6, .int x6_l44)]) hx hb d_M_turnsLeft_86 hl (k := 6) rfl (by rw [e_x7_86]; rfl) (by decide) rfl (fun ls hl => ?_)
          refine lv_goto (tgt := 54) hx hb d_M_turnsLeft_89 (by decide) ?_
          exact hb54 _ h _ _ _ hP hD hS (lv_sub hl [2, 3, 4, 5, 1, 6, 0] rfl)
        refine lv_iload hx hb d_M_turnsLeft_54 (lv_at hl 6 rfl) ?_
        refine lv_iconst (v := 2) hx hb d_M_turnsLeft_56 (by decide) ?_
        refine lv_icmp_ge (tgt := 92) hx hb d_M_turnsLeft_57 (by decide) (fun cc_ => ?_) (fun cc_ => ?_)
        · have h := h.1 cc_
          obtain ⟨x6_92, e_x6_92⟩ : ∃ y : Int32, y = x6_l44 + (1 : Int32) := ⟨_, rfl⟩
          have h := h x6_92 e_x6_92
          refine lv_iinc (v := x6_92) (lv' := [(6, .int x6_92), (0, .ref a_this), (1, .int x1), (2, .int x2), (3, .int x3), (5, .int x5_l54), (7, .int x7_l54)]) hx hb d_M_turnsLeft_92 hl (k := 5) rfl (by rw [e_x6_92]; rfl) (by decide) rfl (fun ls hl => ?_)
          refine lv_goto (tgt := 44) hx hb d_M_turnsLeft_95 (by decide) ?_
          exact hb44 _ h _ _ _ hP hD hS (lv_sub hl [1, 2, 3, 4, 5, 0] rfl)
        · have h := h.2 cc_
          refine lv_iload hx hb d_M_turnsLeft_60 (lv_at hl 4 rfl) ?_
          refine lv_aload_n hx hb d_M_turnsLeft_62 rfl (lv_at hl 0 rfl) ?_
          refine lv_iload_n hx hb d_M_turnsLeft_63 rfl (lv_at hl 1 rfl) ?_
          refine lv_iload_n hx hb d_M_turnsLeft_64 rfl (lv_at hl 2 rfl) ?_
          refine lv_iload hx hb d_M_turnsLeft_65 (lv_at hl 6 rfl) ?_
          refine lv_iadd hx hb d_M_turnsLeft_67 ?_
          refine lv_iload_n hx hb d_M_turnsLeft_68 rfl (lv_at hl 3 rfl) ?_
          refine lv_iload hx hb d_M_turnsLeft_69 (lv_at hl 5 rfl) ?_
          refine lv_iadd hx hb d_M_turnsLeft_71 ?_
          obtain ⟨Q72, hq72, h⟩ := h
          have hPc := hP.sub (ws' := (cw_M_isInside cI a_this a_colours a_froms a_sizes a_layersOf a_areas a_xs a_ys a_used a_cornerAt a_counts a_costs a_firsts a_manys a_fs a_px a_py a_groups a_joinF n_colours c_code c_width c_height c_isTraced c_outlines c_points c_hasPolygon c_of c_corners c_costSum c_hasCurves c_curveCount c_sharp c_allowed f_colours)) [0, 1] rfl
          have hDc := hD.sub (ws' := (cw_M_isInside cI a_this a_colours a_froms a_sizes a_layersOf a_areas a_xs a_ys a_used a_cornerAt a_counts a_costs a_firsts a_manys a_fs a_px a_py a_groups a_joinF n_colours c_code c_width c_height c_isTraced c_outlines c_points c_hasPolygon c_of c_corners c_costSum c_hasCurves c_curveCount c_sharp c_allowed f_colours)) [0, 1] (by decide) rfl
          have hFc := va_free (wc := (cw_M_isInside cI a_this a_colours a_froms a_sizes a_layersOf a_areas a_xs a_ys a_used a_cornerAt a_counts a_costs a_firsts a_manys a_fs a_px a_py a_groups a_joinF n_colours c_code c_width c_height c_isTraced c_outlines c_points c_hasPolygon c_of c_corners c_costSum c_hasCurves c_curveCount c_sharp c_allowed f_colours)) hD hS hA [0, 1] rfl
          refine va_calli (va_runV (As := [.int x1, .int (x2 + x7_l54), .int (x3 + x6_l44)]) (rest := [.int x5_l54]) ⟨hx, hb, hml, hown, hts⟩ (c_M_isInside l dC dI cI cB cJ cZ a_this a_colours a_froms a_sizes a_layersOf a_areas a_xs a_ys a_used a_cornerAt a_counts a_costs a_firsts a_manys a_fs a_px a_py a_groups a_joinF H.size n_colours c_code c_width c_height c_isTraced c_outlines c_points c_hasPolygon c_of c_corners c_costSum c_hasCurves c_curveCount c_sharp c_allowed f_colours x1 (x2 + x7_l54) (x3 + x6_l44) Q72 hq72) (cwV 3 hts (goodV q_786 q_788 q_p33 q_7 q_789) rfl rfl rfl (by decide +kernel) ⟨Nat.le_of_ble_eq_true rfl, Nat.le_of_ble_eq_true rfl⟩) ⟨fun a U g mk q => by obtain ⟨q0, q1, qP, qK, qD⟩ := q; exact ⟨q0, q1, qP, va_K.moved (u := U) (U := U.calling g mk a) (Vm.Alike.refl U.vm) qK, qD⟩, va_recv hK hPc (ci := 5) (q0 := 0) rfl rfl, fun U hU hW => ⟨rfl, by rw [hU], by rw [hU]; exact hPc, va_K.moved hW.alike hK, hDc.weaken (fun _ _ _ _ => trivial)⟩⟩ rfl rfl hl.1 rfl (lv_room (Nat.le_of_ble_eq_true rfl)) d_M_turnsLeft_72 ⟨Nat.le_of_ble_eq_true rfl, Nat.le_of_ble_eq_true rfl⟩) hS (fun q _ h => hFc q h) hFc (fun r72 u72 t H1 locs ht hvm hw hB hz1 hk1 hS => ?_)
          cases u72
          obtain ⟨hP1, -, hD1⟩ := hB
          rw [ht] at hP1
          have h := h r72 hw
          obtain ⟨hP, hD⟩ := va_join (wr := []) (w1 := (cw_M_isInside cI a_this a_colours a_froms a_sizes a_layersOf a_areas a_xs a_ys a_used a_cornerAt a_counts a_costs a_firsts a_manys a_fs a_px a_py a_groups a_joinF n_colours c_code c_width c_height c_isTraced c_outlines c_points c_hasPolygon c_of c_corners c_costSum c_hasCurves c_curveCount c_sharp c_allowed f_colours)) hP hD [0, 1] [] rfl rfl (by decide) (by decide) hk1 hFc hP1 hD1
          clear hP1 hD1 hk1 hPc hDc hFc
          generalize H1 = H at hP hS ⊢
          have hP : va_P (dC, dI) vwCl (cw_M_turnsLeft cI a_this a_colours a_froms a_sizes a_layersOf a_areas a_xs a_ys a_used a_cornerAt a_counts a_costs a_firsts a_manys a_fs a_px a_py a_groups a_joinF n_colours c_code c_width c_height c_isTraced c_outlines c_points c_hasPolygon c_of c_corners c_costSum c_hasCurves c_curveCount c_sharp c_allowed f_colours) H := hP.sub [0, 1] rfl
          have hD : va_D A (cw_M_turnsLeft cI a_this a_colours a_froms a_sizes a_layersOf a_areas a_xs a_ys a_used a_cornerAt a_counts a_costs a_firsts a_manys a_fs a_px a_py a_groups a_joinF n_colours c_code c_width c_height c_isTraced c_outlines c_points c_hasPolygon c_of c_corners c_costSum c_hasCurves c_curveCount c_sharp c_allowed f_colours) := hD.sub [0, 1] (by decide) rfl
          refine lv_if_eq (tgt := 82) hx hb d_M_turnsLeft_75 (by decide) (fun cc_ => ?_) (fun cc_ => ?_)
          · have h := h.1 cc_
            refine lv_iconst (v := 0) hx hb d_M_turnsLeft_82 (by decide) ?_
            exact J83 x7_l54 (0 : Int32) x5_l54 _ _ _ h hP hD hS (lv_sub hl [0, 1, 2, 3, 5, 6] rfl)
          · have h := h.2 cc_
            refine lv_iconst (v := 1) hx hb d_M_turnsLeft_78 (by decide) ?_
            refine lv_goto (tgt := 83) hx hb d_M_turnsLeft_79 (by decide) ?_
            exact J83 x7_l54 (1 : Int32) x5_l54 _ _ _ h hP hD hS (lv_sub hl [0, 1, 2, 3, 5, 6] rfl)
    · have h := h.2 cc_
      refine lv_iload_n hx hb d_M_turnsLeft_23 rfl (lv_at hl 2 rfl) ?_
      refine lv_iload_n hx hb d_M_turnsLeft_24 rfl (lv_at hl 3 rfl) ?_
      refine lv_iadd hx hb d_M_turnsLeft_25 ?_
      refine lv_iconst (v := 2) hx hb d_M_turnsLeft_26 (by decide) ?_
      refine lv_irem hx hb d_M_turnsLeft_27 (by decide) ?_
      refine lv_if_ne (tgt := 35) hx hb d_M_turnsLeft_28 (by decide) (fun cc_ => ?_) (fun cc_ => ?_)
      · have h := h.1 cc_
        refine lv_iconst (v := 0) hx hb d_M_turnsLeft_35 (by decide) ?_
        subst hQf
        exact W.zret (v := (0 : Int32)) hx hb hr (by rfl) (fun t ht hW => ⟨⟨(0 : Int32), (), rfl, h, by rw [ht]; exact hP, va_K.moved hW.alike hK, hD⟩, hS.F ht⟩) hS.2.2 d_M_turnsLeft_36
      · have h := h.2 cc_
        refine lv_iconst (v := 1) hx hb d_M_turnsLeft_31 (by decide) ?_
        refine lv_goto (tgt := 36) hx hb d_M_turnsLeft_32 (by decide) ?_
        subst hQf
        exact W.zret (v := (1 : Int32)) hx hb hr (by rfl) (fun t ht hW => ⟨⟨(1 : Int32), (), rfl, h, by rw [ht]; exact hP, va_K.moved hW.alike hK, hD⟩, hS.F ht⟩) hS.2.2 d_M_turnsLeft_36
  · have h := h.2 cc_
    refine lv_iload hx hb d_M_turnsLeft_6 (lv_at hl 4 rfl) ?_
    refine lv_if_ne (tgt := 15) hx hb d_M_turnsLeft_8 (by decide) (fun cc_ => ?_) (fun cc_ => ?_)
    · have h := h.1 cc_
      refine lv_iconst (v := 0) hx hb d_M_turnsLeft_15 (by decide) ?_
      subst hQf
      exact W.zret (v := (0 : Int32)) hx hb hr (by rfl) (fun t ht hW => ⟨⟨(0 : Int32), (), rfl, h, by rw [ht]; exact hP, va_K.moved hW.alike hK, hD⟩, hS.F ht⟩) hS.2.2 d_M_turnsLeft_16
    · have h := h.2 cc_
      refine lv_iconst (v := 1) hx hb d_M_turnsLeft_11 (by decide) ?_
      refine lv_goto (tgt := 16) hx hb d_M_turnsLeft_12 (by decide) ?_
      subst hQf
      exact W.zret (v := (1 : Int32)) hx hb hr (by rfl) (fun t ht hW => ⟨⟨(1 : Int32), (), rfl, h, by rw [ht]; exact hP, va_K.moved hW.alike hK, hD⟩, hS.F ht⟩) hS.2.2 d_M_turnsLeft_16
def wp_M_next_J68 (n_colours : Nat) (c_width : Int32) (c_height : Int32) (f_colours : Nat → Int32) (x4 : Int32) (x8 : Int32) (y0 : Int32) (post : Int32 → Unit → Prop) : Prop :=
  (y0 = 0 → (x8 = 0 → post ((x4 + (1 : Int32)) - (x4 + (1 : Int32)) / (4 : Int32) * (4 : Int32)) ()) ∧ (¬ x8 = 0 → post ((x4 + (3 : Int32)) - (x4 + (3 : Int32)) / (4 : Int32) * (4 : Int32)) ())) ∧ (¬ y0 = 0 → post x4 ())
def wp_M_next_J67 (n_colours : Nat) (c_width : Int32) (c_height : Int32) (f_colours : Nat → Int32) (x4 : Int32) (x8 : Int32) (post : Int32 → Unit → Prop) : Prop :=
  wp_M_next_J68 n_colours c_width c_height f_colours x4 x8 (0 : Int32) post
def wp_M_next_J51 (n_colours : Nat) (c_width : Int32) (c_height : Int32) (f_colours : Nat → Int32) (x4 : Int32) (x6 : Int32) (x7 : Int32) (y0 : Int32) (post : Int32 → Unit → Prop) : Prop :=
  (x6 = 0 → wp_M_next_J67 n_colours c_width c_height f_colours x4 y0 post) ∧ (¬ x6 = 0 → (¬ x7 = 0 → wp_M_next_J67 n_colours c_width c_height f_colours x4 y0 post) ∧ (x7 = 0 → wp_M_next_J68 n_colours c_width c_height f_colours x4 y0 (1 : Int32) post))
def wp_M_next_J50 (n_colours : Nat) (c_width : Int32) (c_height : Int32) (f_colours : Nat → Int32) (x4 : Int32) (x6 : Int32) (x7 : Int32) (post : Int32 → Unit → Prop) : Prop :=
  wp_M_next_J51 n_colours c_width c_height f_colours x4 x6 x7 (0 : Int32) post
def wp_M_next_J46 (n_colours : Nat) (c_width : Int32) (c_height : Int32) (f_colours : Nat → Int32) (x4 : Int32) (x6 : Int32) (x7 : Int32) (post : Int32 → Unit → Prop) : Prop :=
  wp_M_next_J51 n_colours c_width c_height f_colours x4 x6 x7 (1 : Int32) post
def wp_M_next (n_colours : Nat) (c_width : Int32) (c_height : Int32) (f_colours : Nat → Int32) (x1 : Int32) (x2 : Int32) (x3 : Int32) (x4 : Int32) (x5 : Int32) (post : Int32 → Unit → Prop) : Prop :=
  ∃ Q7 : Int32 → Unit → Prop, wp_M_ahead n_colours c_width c_height f_colours x1 x2 x3 x4 (1 : Int32) Q7 ∧ ∀ (r7 : Int32), Q7 r7 () → ∃ Q19 : Int32 → Unit → Prop, wp_M_ahead n_colours c_width c_height f_colours x1 x2 x3 x4 (0 : Int32) Q19 ∧ ∀ (r19 : Int32), Q19 r19 () → (r19 = 0 → wp_M_next_J50 n_colours c_width c_height f_colours x4 r7 r19 post) ∧ (¬ r19 = 0 → (¬ r7 = 0 → wp_M_next_J46 n_colours c_width c_height f_colours x4 r7 r19 post) ∧ (r7 = 0 → ∃ Q40 : Int32 → Unit → Prop, wp_M_turnsLeft n_colours c_width c_height f_colours x1 x2 x3 x5 Q40 ∧ ∀ (r40 : Int32), Q40 r40 () → (r40 = 0 → wp_M_next_J50 n_colours c_width c_height f_colours x4 r7 r19 post) ∧ (¬ r40 = 0 → wp_M_next_J46 n_colours c_width c_height f_colours x4 r7 r19 post)))
abbrev cw_M_next (cI : ClassId) (a_this a_colours a_froms a_sizes a_layersOf a_areas a_xs a_ys a_used a_cornerAt a_counts a_costs a_firsts a_manys a_fs a_px a_py a_groups a_joinF : Nat) (n_colours : Nat) (c_code : Int32) (c_width : Int32) (c_height : Int32) (c_isTraced : Int32) (c_outlines : Int32) (c_points : Int32) (c_hasPolygon : Int32) (c_of : Int32) (c_corners : Int32) (c_costSum : Int32) (c_hasCurves : Int32) (c_curveCount : Int32) (c_sharp : Int32) (c_allowed : Int32) (f_colours : Nat → Int32) : va_W := [(a_this, .inr (5, [.int c_code, .int c_width, .int c_height, .ref a_colours, .int c_isTraced, .int c_outlines, .ref a_froms, .ref a_sizes, .ref a_layersOf, .ref a_areas, .int c_points, .ref a_xs, .ref a_ys, .ref a_used, .int c_hasPolygon, .int c_of, .int c_corners, .int c_costSum, .ref a_cornerAt, .ref a_counts, .ref a_costs, .int c_hasCurves, .int c_curveCount, .ref a_firsts, .ref a_manys, .ref a_fs, .int c_sharp, .int c_allowed, .ref a_px, .ref a_py, .ref a_groups, .ref a_joinF])), (a_colours, .inl (cI, n_colours, .inl f_colours))]
abbrev qq_M_next (dC : Nat → ClassId) (dI : Nat → Nat → Nat) (cI cB cJ cZ : ClassId) (a_this a_colours a_froms a_sizes a_layersOf a_areas a_xs a_ys a_used a_cornerAt a_counts a_costs a_firsts a_manys a_fs a_px a_py a_groups a_joinF : Nat) (n_colours : Nat) (c_code : Int32) (c_width : Int32) (c_height : Int32) (c_isTraced : Int32) (c_outlines : Int32) (c_points : Int32) (c_hasPolygon : Int32) (c_of : Int32) (c_corners : Int32) (c_costSum : Int32) (c_hasCurves : Int32) (c_curveCount : Int32) (c_sharp : Int32) (c_allowed : Int32) (f_colours : Nat → Int32) (A : Nat → Prop) (post : Int32 → Unit → Prop) : Array Value → State → Outcome → State → Prop := va_Qi post (fun _ t => va_P (dC, dI) vwCl (cw_M_next cI a_this a_colours a_froms a_sizes a_layersOf a_areas a_xs a_ys a_used a_cornerAt a_counts a_costs a_firsts a_manys a_fs a_px a_py a_groups a_joinF n_colours c_code c_width c_height c_isTraced c_outlines c_points c_hasPolygon c_of c_corners c_costSum c_hasCurves c_curveCount c_sharp c_allowed f_colours) t.heap ∧ va_K (dC, dI) vwCl [(cI, .int), (cB, .byte), (cJ, .long), (cZ, .boolean)] t ∧ va_D A (cw_M_next cI a_this a_colours a_froms a_sizes a_layersOf a_areas a_xs a_ys a_used a_cornerAt a_counts a_costs a_firsts a_manys a_fs a_px a_py a_groups a_joinF n_colours c_code c_width c_height c_isTraced c_outlines c_points c_hasPolygon c_of c_corners c_costSum c_hasCurves c_curveCount c_sharp c_allowed f_colours)) A
set_option maxHeartbeats 4000000 in
set_option maxRecDepth 100000 in
theorem c_M_next (l : Launch) (dC : Nat → ClassId) (dI : Nat → Nat → Nat) (cI cB cJ cZ : ClassId) (a_this a_colours a_froms a_sizes a_layersOf a_areas a_xs a_ys a_used a_cornerAt a_counts a_costs a_firsts a_manys a_fs a_px a_py a_groups a_joinF : Nat) (sz : Nat) (n_colours : Nat) (c_code : Int32) (c_width : Int32) (c_height : Int32) (c_isTraced : Int32) (c_outlines : Int32) (c_points : Int32) (c_hasPolygon : Int32) (c_of : Int32) (c_corners : Int32) (c_costSum : Int32) (c_hasCurves : Int32) (c_curveCount : Int32) (c_sharp : Int32) (c_allowed : Int32) (f_colours : Nat → Int32) (x1 : Int32) (x2 : Int32) (x3 : Int32) (x4 : Int32) (x5 : Int32) (post : Int32 → Unit → Prop) (h : wp_M_next n_colours c_width c_height f_colours x1 x2 x3 x4 x5 post) : Met l y_M_next w_M_next ({ frames := 4, cells := 0, slots := 0, locals := 94 }) (va_Pc [.ref a_this, .int x1, .int x2, .int x3, .int x4, .int x5] (fun U => U.heap.size = sz ∧ va_P (dC, dI) vwCl (cw_M_next cI a_this a_colours a_froms a_sizes a_layersOf a_areas a_xs a_ys a_used a_cornerAt a_counts a_costs a_firsts a_manys a_fs a_px a_py a_groups a_joinF n_colours c_code c_width c_height c_isTraced c_outlines c_points c_hasPolygon c_of c_corners c_costSum c_hasCurves c_curveCount c_sharp c_allowed f_colours) U.heap ∧ va_K (dC, dI) vwCl [(cI, .int), (cB, .byte), (cJ, .long), (cZ, .boolean)] U ∧ va_D (fun _ => True) (cw_M_next cI a_this a_colours a_froms a_sizes a_layersOf a_areas a_xs a_ys a_used a_cornerAt a_counts a_costs a_firsts a_manys a_fs a_px a_py a_groups a_joinF n_colours c_code c_width c_height c_isTraced c_outlines c_points c_hasPolygon c_of c_corners c_costSum c_hasCurves c_curveCount c_sharp c_allowed f_colours))) (qq_M_next dC dI cI cB cJ cZ a_this a_colours a_froms a_sizes a_layersOf a_areas a_xs a_ys a_used a_cornerAt a_counts a_costs a_firsts a_manys a_fs a_px a_py a_groups a_joinF n_colours c_code c_width c_height c_isTraced c_outlines c_points c_hasPolygon c_of c_corners c_costSum c_hasCurves c_curveCount c_sharp c_allowed f_colours (va_A (cw_M_next cI a_this a_colours a_froms a_sizes a_layersOf a_areas a_xs a_ys a_used a_cornerAt a_counts a_costs a_firsts a_manys a_fs a_px a_py a_groups a_joinF n_colours c_code c_width c_height c_isTraced c_outlines c_points c_hasPolygon c_of c_corners c_costSum c_hasCurves c_curveCount c_sharp c_allowed f_colours) sz) post) 0 0 (va_A (cw_M_next cI a_this a_colours a_froms a_sizes a_layersOf a_areas a_xs a_ys a_used a_cornerAt a_counts a_costs a_firsts a_manys a_fs a_px a_py a_groups a_joinF n_colours c_code c_width c_height c_isTraced c_outlines c_points c_hasPolygon c_of c_corners c_costSum c_hasCurves c_curveCount c_sharp c_allowed f_colours) sz) := by
  refine Met.ofW (cc := b_M_next) (maxL := 10) (ret := (some .int)) (by decide +kernel) rfl ?_
  intro p e s m args below meth c s₁ B hml hv
  obtain ⟨rfl, hsz, hP, hK, hD0⟩ := hv
  have hx := B.exec
  have hb := B.bytes
  have hr := B.returns
  have hts : ∀ w ∈ allW, w.before _ s = true := fun w hw => atoms_spec (ws := w_M_next) B.pre w (List.mem_cons_of_mem _ hw)
  have hown : s.vm.findClass R_M = some m.cls := findClass_of_methodNamed B.named
  have hlocks := B.notSynchronized
  subst hsz
  have hD := hD0.self (sz := s.heap.size)
  generalize hAe : va_A (cw_M_next cI a_this a_colours a_froms a_sizes a_layersOf a_areas a_xs a_ys a_used a_cornerAt a_counts a_costs a_firsts a_manys a_fs a_px a_py a_groups a_joinF n_colours c_code c_width c_height c_isTraced c_outlines c_points c_hasPolygon c_of c_corners c_costSum c_hasCurves c_curveCount c_sharp c_allowed f_colours) s.heap.size = A at hD ⊢
  have hA : ∀ q : Nat, s.heap.size ≤ q → A q := fun q h => by rw [← hAe]; exact Or.inr h
  have hS : va_S A s.heap s.heap [] := va_S.rf
  clear hD0
  generalize hQf : MQ below (qq_M_next dC dI cI cB cJ cZ a_this a_colours a_froms a_sizes a_layersOf a_areas a_xs a_ys a_used a_cornerAt a_counts a_costs a_firsts a_manys a_fs a_px a_py a_groups a_joinF n_colours c_code c_width c_height c_isTraced c_outlines c_points c_hasPolygon c_of c_corners c_costSum c_hasCurves c_curveCount c_sharp c_allowed f_colours A post) ([.ref a_this, .int x1, .int x2, .int x3, .int x4, .int x5] : List Value).toArray s 0 0 A = Qf
  have hl := lv_entry ([.ref a_this, .int x1, .int x2, .int x3, .int x4, .int x5]) (n := 10) (Nat.le_of_ble_eq_true rfl)
  rw [lg_entry_eq]
  generalize (lg_sl ([.ref a_this, .int x1, .int x2, .int x3, .int x4, .int x5]) ++ List.replicate (10 - (lg_sl ([.ref a_this, .int x1, .int x2, .int x3, .int x4, .int x5])).length) Slot.unset).toArray = ls at hl ⊢
  have hl : lv_has ls 10 [(0, .ref a_this), (1, .int x1), (2, .int x2), (3, .int x3), (4, .int x4), (5, .int x5)] := hl
  unfold wp_M_next at h
  have J68 : ∀ (x4_j68 : Int32) (x8_j68 : Int32) (y0_j68 : Int32) (H : Heap) (locs : List Loc) (ls : Array Slot), wp_M_next_J68 n_colours c_width c_height f_colours x4_j68 x8_j68 y0_j68 post → va_P (dC, dI) vwCl (cw_M_next cI a_this a_colours a_froms a_sizes a_layersOf a_areas a_xs a_ys a_used a_cornerAt a_counts a_costs a_firsts a_manys a_fs a_px a_py a_groups a_joinF n_colours c_code c_width c_height c_isTraced c_outlines c_points c_hasPolygon c_of c_corners c_costSum c_hasCurves c_curveCount c_sharp c_allowed f_colours) H → va_D A (cw_M_next cI a_this a_colours a_froms a_sizes a_layersOf a_areas a_xs a_ys a_used a_cornerAt a_counts a_costs a_firsts a_manys a_fs a_px a_py a_groups a_joinF n_colours c_code c_width c_height c_isTraced c_outlines c_points c_hasPolygon c_of c_corners c_costSum c_hasCurves c_curveCount c_sharp c_allowed f_colours) → va_S A s.heap H locs → lv_has ls 10 [(4, .int x4_j68), (8, .int x8_j68)] → W p l e (headSpec w_M_next ({ frames := 4, cells := 0, slots := 0, locals := 94 })).room s m ([.ref a_this, .int x1, .int x2, .int x3, .int x4, .int x5] : List Value).toArray below meth c H locs 0 0 Qf (F0 m 68 ls [.int y0_j68]) := by
    intro x4_j68 x8_j68 y0_j68 H locs ls h hP hD hS hl
    unfold wp_M_next_J68 at h
    refine lv_istore (lv' := [(9, .int y0_j68), (4, .int x4_j68), (8, .int x8_j68)]) hx hb d_M_next_68 hl (by decide) rfl (fun ls hl => ?_)
    refine lv_iload hx hb d_M_next_70 (lv_at hl 0 rfl) ?_
    refine lv_if_eq (tgt := 80) hx hb d_M_next_72 (by decide) (fun cc_ => ?_) (fun cc_ => ?_)
    · have h := h.1 cc_
      refine lv_iload hx hb d_M_next_80 (lv_at hl 2 rfl) ?_
      refine lv_if_eq (tgt := 94) hx hb d_M_next_82 (by decide) (fun cc_ => ?_) (fun cc_ => ?_)
      · have h := h.1 cc_
        refine lv_iload hx hb d_M_next_94 (lv_at hl 1 rfl) ?_
        refine lv_iconst (v := 1) hx hb d_M_next_96 (by decide) ?_
        refine lv_iadd hx hb d_M_next_97 ?_
        refine lv_iconst (v := 4) hx hb d_M_next_98 (by decide) ?_
        refine lv_irem hx hb d_M_next_99 (by decide) ?_
        subst hQf
        exact W.iret (v := ((x4_j68 + (1 : Int32)) - (x4_j68 + (1 : Int32)) / (4 : Int32) * (4 : Int32))) hx hb hr (fun t ht hW => ⟨⟨((x4_j68 + (1 : Int32)) - (x4_j68 + (1 : Int32)) / (4 : Int32) * (4 : Int32)), (), rfl, h, by rw [ht]; exact hP, va_K.moved hW.alike hK, hD⟩, hS.F ht⟩) hS.2.2 d_M_next_100
      · have h := h.2 cc_
        refine lv_iload hx hb d_M_next_85 (lv_at hl 1 rfl) ?_
        refine lv_iconst (v := 3) hx hb d_M_next_87 (by decide) ?_
        refine lv_iadd hx hb d_M_next_88 ?_
        refine lv_iconst (v := 4) hx hb d_M_next_89 (by decide) ?_
        refine lv_irem hx hb d_M_next_90 (by decide) ?_
        refine lv_goto (tgt := 100) hx hb d_M_next_91 (by decide) ?_
        subst hQf
        exact W.iret (v := ((x4_j68 + (3 : Int32)) - (x4_j68 + (3 : Int32)) / (4 : Int32) * (4 : Int32))) hx hb hr (fun t ht hW => ⟨⟨((x4_j68 + (3 : Int32)) - (x4_j68 + (3 : Int32)) / (4 : Int32) * (4 : Int32)), (), rfl, h, by rw [ht]; exact hP, va_K.moved hW.alike hK, hD⟩, hS.F ht⟩) hS.2.2 d_M_next_100
    · have h := h.2 cc_
      refine lv_iload hx hb d_M_next_75 (lv_at hl 1 rfl) ?_
      refine lv_goto (tgt := 100) hx hb d_M_next_77 (by decide) ?_
      subst hQf
      exact W.iret (v := x4_j68) hx hb hr (fun t ht hW => ⟨⟨x4_j68, (), rfl, h, by rw [ht]; exact hP, va_K.moved hW.alike hK, hD⟩, hS.F ht⟩) hS.2.2 d_M_next_100
  have J67 : ∀ (x4_j67 : Int32) (x8_j67 : Int32) (H : Heap) (locs : List Loc) (ls : Array Slot), wp_M_next_J67 n_colours c_width c_height f_colours x4_j67 x8_j67 post → va_P (dC, dI) vwCl (cw_M_next cI a_this a_colours a_froms a_sizes a_layersOf a_areas a_xs a_ys a_used a_cornerAt a_counts a_costs a_firsts a_manys a_fs a_px a_py a_groups a_joinF n_colours c_code c_width c_height c_isTraced c_outlines c_points c_hasPolygon c_of c_corners c_costSum c_hasCurves c_curveCount c_sharp c_allowed f_colours) H → va_D A (cw_M_next cI a_this a_colours a_froms a_sizes a_layersOf a_areas a_xs a_ys a_used a_cornerAt a_counts a_costs a_firsts a_manys a_fs a_px a_py a_groups a_joinF n_colours c_code c_width c_height c_isTraced c_outlines c_points c_hasPolygon c_of c_corners c_costSum c_hasCurves c_curveCount c_sharp c_allowed f_colours) → va_S A s.heap H locs → lv_has ls 10 [(4, .int x4_j67), (8, .int x8_j67)] → W p l e (headSpec w_M_next ({ frames := 4, cells := 0, slots := 0, locals := 94 })).room s m ([.ref a_this, .int x1, .int x2, .int x3, .int x4, .int x5] : List Value).toArray below meth c H locs 0 0 Qf (F0 m 67 ls []) := by
    intro x4_j67 x8_j67 H locs ls h hP hD hS hl
    unfold wp_M_next_J67 at h
    refine lv_iconst (v := 0) hx hb d_M_next_67 (by decide) ?_
    exact J68 x4_j67 x8_j67 (0 : Int32) _ _ _ h hP hD hS (lv_sub hl [0, 1] rfl)
  have J51 : ∀ (x4_j51 : Int32) (x6_j51 : Int32) (x7_j51 : Int32) (y0_j51 : Int32) (H : Heap) (locs : List Loc) (ls : Array Slot), wp_M_next_J51 n_colours c_width c_height f_colours x4_j51 x6_j51 x7_j51 y0_j51 post → va_P (dC, dI) vwCl (cw_M_next cI a_this a_colours a_froms a_sizes a_layersOf a_areas a_xs a_ys a_used a_cornerAt a_counts a_costs a_firsts a_manys a_fs a_px a_py a_groups a_joinF n_colours c_code c_width c_height c_isTraced c_outlines c_points c_hasPolygon c_of c_corners c_costSum c_hasCurves c_curveCount c_sharp c_allowed f_colours) H → va_D A (cw_M_next cI a_this a_colours a_froms a_sizes a_layersOf a_areas a_xs a_ys a_used a_cornerAt a_counts a_costs a_firsts a_manys a_fs a_px a_py a_groups a_joinF n_colours c_code c_width c_height c_isTraced c_outlines c_points c_hasPolygon c_of c_corners c_costSum c_hasCurves c_curveCount c_sharp c_allowed f_colours) → va_S A s.heap H locs → lv_has ls 10 [(4, .int x4_j51), (6, .int x6_j51), (7, .int x7_j51)] → W p l e (headSpec w_M_next ({ frames := 4, cells := 0, slots := 0, locals := 94 })).room s m ([.ref a_this, .int x1, .int x2, .int x3, .int x4, .int x5] : List Value).toArray below meth c H locs 0 0 Qf (F0 m 51 ls [.int y0_j51]) := by
    intro x4_j51 x6_j51 x7_j51 y0_j51 H locs ls h hP hD hS hl
    unfold wp_M_next_J51 at h
    refine lv_istore (lv' := [(8, .int y0_j51), (4, .int x4_j51), (6, .int x6_j51), (7, .int x7_j51)]) hx hb d_M_next_51 hl (by decide) rfl (fun ls hl => ?_)
    refine lv_iload hx hb d_M_next_53 (lv_at hl 2 rfl) ?_
    refine lv_if_eq (tgt := 67) hx hb d_M_next_55 (by decide) (fun cc_ => ?_) (fun cc_ => ?_)
    · have h := h.1 cc_
      exact J67 x4_j51 y0_j51 _ _ _ h hP hD hS (lv_sub hl [1, 0] rfl)
    · have h := h.2 cc_
      refine lv_iload hx hb d_M_next_58 (lv_at hl 3 rfl) ?_
      refine lv_if_ne (tgt := 67) hx hb d_M_next_60 (by decide) (fun cc_ => ?_) (fun cc_ => ?_)
      · have h := h.1 cc_
        exact J67 x4_j51 y0_j51 _ _ _ h hP hD hS (lv_sub hl [1, 0] rfl)
      · have h := h.2 cc_
        refine lv_iconst (v := 1) hx hb d_M_next_63 (by decide) ?_
        refine lv_goto (tgt := 68) hx hb d_M_next_64 (by decide) ?_
        exact J68 x4_j51 y0_j51 (1 : Int32) _ _ _ h hP hD hS (lv_sub hl [1, 0] rfl)
  have J46 : ∀ (x4_j46 : Int32) (x6_j46 : Int32) (x7_j46 : Int32) (H : Heap) (locs : List Loc) (ls : Array Slot), wp_M_next_J46 n_colours c_width c_height f_colours x4_j46 x6_j46 x7_j46 post → va_P (dC, dI) vwCl (cw_M_next cI a_this a_colours a_froms a_sizes a_layersOf a_areas a_xs a_ys a_used a_cornerAt a_counts a_costs a_firsts a_manys a_fs a_px a_py a_groups a_joinF n_colours c_code c_width c_height c_isTraced c_outlines c_points c_hasPolygon c_of c_corners c_costSum c_hasCurves c_curveCount c_sharp c_allowed f_colours) H → va_D A (cw_M_next cI a_this a_colours a_froms a_sizes a_layersOf a_areas a_xs a_ys a_used a_cornerAt a_counts a_costs a_firsts a_manys a_fs a_px a_py a_groups a_joinF n_colours c_code c_width c_height c_isTraced c_outlines c_points c_hasPolygon c_of c_corners c_costSum c_hasCurves c_curveCount c_sharp c_allowed f_colours) → va_S A s.heap H locs → lv_has ls 10 [(4, .int x4_j46), (6, .int x6_j46), (7, .int x7_j46)] → W p l e (headSpec w_M_next ({ frames := 4, cells := 0, slots := 0, locals := 94 })).room s m ([.ref a_this, .int x1, .int x2, .int x3, .int x4, .int x5] : List Value).toArray below meth c H locs 0 0 Qf (F0 m 46 ls []) := by
    intro x4_j46 x6_j46 x7_j46 H locs ls h hP hD hS hl
    unfold wp_M_next_J46 at h
    refine lv_iconst (v := 1) hx hb d_M_next_46 (by decide) ?_
    refine lv_goto (tgt := 51) hx hb d_M_next_47 (by decide) ?_
    exact J51 x4_j46 x6_j46 x7_j46 (1 : Int32) _ _ _ h hP hD hS (lv_sub hl [0, 1, 2] rfl)
  have J50 : ∀ (x4_j50 : Int32) (x6_j50 : Int32) (x7_j50 : Int32) (H : Heap) (locs : List Loc) (ls : Array Slot), wp_M_next_J50 n_colours c_width c_height f_colours x4_j50 x6_j50 x7_j50 post → va_P (dC, dI) vwCl (cw_M_next cI a_this a_colours a_froms a_sizes a_layersOf a_areas a_xs a_ys a_used a_cornerAt a_counts a_costs a_firsts a_manys a_fs a_px a_py a_groups a_joinF n_colours c_code c_width c_height c_isTraced c_outlines c_points c_hasPolygon c_of c_corners c_costSum c_hasCurves c_curveCount c_sharp c_allowed f_colours) H → va_D A (cw_M_next cI a_this a_colours a_froms a_sizes a_layersOf a_areas a_xs a_ys a_used a_cornerAt a_counts a_costs a_firsts a_manys a_fs a_px a_py a_groups a_joinF n_colours c_code c_width c_height c_isTraced c_outlines c_points c_hasPolygon c_of c_corners c_costSum c_hasCurves c_curveCount c_sharp c_allowed f_colours) → va_S A s.heap H locs → lv_has ls 10 [(4, .int x4_j50), (6, .int x6_j50), (7, .int x7_j50)] → W p l e (headSpec w_M_next ({ frames := 4, cells := 0, slots := 0, locals := 94 })).room s m ([.ref a_this, .int x1, .int x2, .int x3, .int x4, .int x5] : List Value).toArray below meth c H locs 0 0 Qf (F0 m 50 ls []) := by
    intro x4_j50 x6_j50 x7_j50 H locs ls h hP hD hS hl
    unfold wp_M_next_J50 at h
    refine lv_iconst (v := 0) hx hb d_M_next_50 (by decide) ?_
    exact J51 x4_j50 x6_j50 x7_j50 (0 : Int32) _ _ _ h hP hD hS (lv_sub hl [0, 1, 2] rfl)
  refine lv_aload_n hx hb d_M_next_0 rfl (lv_at hl 0 rfl) ?_
  refine lv_iload_n hx hb d_M_next_1 rfl (lv_at hl 1 rfl) ?_
  refine lv_iload_n hx hb d_M_next_2 rfl (lv_at hl 2 rfl) ?_
  refine lv_iload_n hx hb d_M_next_3 rfl (lv_at hl 3 rfl) ?_
  refine lv_iload hx hb d_M_next_4 (lv_at hl 4 rfl) ?_
  refine lv_iconst (v := 1) hx hb d_M_next_6 (by decide) ?_
  obtain ⟨Q7, hq7, h⟩ := h
  have hPc := hP.sub (ws' := (cw_M_ahead cI a_this a_colours a_froms a_sizes a_layersOf a_areas a_xs a_ys a_used a_cornerAt a_counts a_costs a_firsts a_manys a_fs a_px a_py a_groups a_joinF n_colours c_code c_width c_height c_isTraced c_outlines c_points c_hasPolygon c_of c_corners c_costSum c_hasCurves c_curveCount c_sharp c_allowed f_colours)) [0, 1] rfl
  have hDc := hD.sub (ws' := (cw_M_ahead cI a_this a_colours a_froms a_sizes a_layersOf a_areas a_xs a_ys a_used a_cornerAt a_counts a_costs a_firsts a_manys a_fs a_px a_py a_groups a_joinF n_colours c_code c_width c_height c_isTraced c_outlines c_points c_hasPolygon c_of c_corners c_costSum c_hasCurves c_curveCount c_sharp c_allowed f_colours)) [0, 1] (by decide) rfl
  have hFc := va_free (wc := (cw_M_ahead cI a_this a_colours a_froms a_sizes a_layersOf a_areas a_xs a_ys a_used a_cornerAt a_counts a_costs a_firsts a_manys a_fs a_px a_py a_groups a_joinF n_colours c_code c_width c_height c_isTraced c_outlines c_points c_hasPolygon c_of c_corners c_costSum c_hasCurves c_curveCount c_sharp c_allowed f_colours)) hD hS hA [0, 1] rfl
  refine va_calli (va_runV (As := [.int x1, .int x2, .int x3, .int x4, .int (1 : Int32)]) (rest := []) ⟨hx, hb, hml, hown, hts⟩ (c_M_ahead l dC dI cI cB cJ cZ a_this a_colours a_froms a_sizes a_layersOf a_areas a_xs a_ys a_used a_cornerAt a_counts a_costs a_firsts a_manys a_fs a_px a_py a_groups a_joinF s.heap.size n_colours c_code c_width c_height c_isTraced c_outlines c_points c_hasPolygon c_of c_corners c_costSum c_hasCurves c_curveCount c_sharp c_allowed f_colours x1 x2 x3 x4 (1 : Int32) Q7 hq7) (cwV 5 hts (goodV q_804 q_806 q_p36 q_7 q_807) rfl rfl rfl (by decide +kernel) ⟨Nat.le_of_ble_eq_true rfl, Nat.le_of_ble_eq_true rfl⟩) ⟨fun a U g mk q => by obtain ⟨q0, q1, qP, qK, qD⟩ := q; exact ⟨q0, q1, qP, va_K.moved (u := U) (U := U.calling g mk a) (Vm.Alike.refl U.vm) qK, qD⟩, va_recv hK hPc (ci := 5) (q0 := 0) rfl rfl, fun U hU hW => ⟨rfl, by rw [hU], by rw [hU]; exact hPc, va_K.moved hW.alike hK, hDc.weaken (fun _ _ _ _ => trivial)⟩⟩ rfl rfl hl.1 rfl (lv_room (Nat.le_of_ble_eq_true rfl)) d_M_next_7 ⟨Nat.le_of_ble_eq_true rfl, Nat.le_of_ble_eq_true rfl⟩) hS (fun q _ h => hFc q h) hFc (fun r7 u7 t H1 locs ht hvm hw hB hz1 hk1 hS => ?_)
  cases u7
  obtain ⟨hP1, -, hD1⟩ := hB
  rw [ht] at hP1
  have h := h r7 hw
  obtain ⟨hP, hD⟩ := va_join (wr := []) (w1 := (cw_M_ahead cI a_this a_colours a_froms a_sizes a_layersOf a_areas a_xs a_ys a_used a_cornerAt a_counts a_costs a_firsts a_manys a_fs a_px a_py a_groups a_joinF n_colours c_code c_width c_height c_isTraced c_outlines c_points c_hasPolygon c_of c_corners c_costSum c_hasCurves c_curveCount c_sharp c_allowed f_colours)) hP hD [0, 1] [] rfl rfl (by decide) (by decide) hk1 hFc hP1 hD1
  clear hP1 hD1 hk1 hPc hDc hFc
  generalize H1 = H at hP hS ⊢
  have hP : va_P (dC, dI) vwCl (cw_M_next cI a_this a_colours a_froms a_sizes a_layersOf a_areas a_xs a_ys a_used a_cornerAt a_counts a_costs a_firsts a_manys a_fs a_px a_py a_groups a_joinF n_colours c_code c_width c_height c_isTraced c_outlines c_points c_hasPolygon c_of c_corners c_costSum c_hasCurves c_curveCount c_sharp c_allowed f_colours) H := hP.sub [0, 1] rfl
  have hD : va_D A (cw_M_next cI a_this a_colours a_froms a_sizes a_layersOf a_areas a_xs a_ys a_used a_cornerAt a_counts a_costs a_firsts a_manys a_fs a_px a_py a_groups a_joinF n_colours c_code c_width c_height c_isTraced c_outlines c_points c_hasPolygon c_of c_corners c_costSum c_hasCurves c_curveCount c_sharp c_allowed f_colours) := hD.sub [0, 1] (by decide) rfl
  refine lv_istore (lv' := [(6, .int r7), (0, .ref a_this), (1, .int x1), (2, .int x2), (3, .int x3), (4, .int x4), (5, .int x5)]) hx hb d_M_next_10 hl (by decide) rfl (fun ls hl => ?_)
  refine lv_aload_n hx hb d_M_next_12 rfl (lv_at hl 1 rfl) ?_
  refine lv_iload_n hx hb d_M_next_13 rfl (lv_at hl 2 rfl) ?_
  refine lv_iload_n hx hb d_M_next_14 rfl (lv_at hl 3 rfl) ?_
  refine lv_iload_n hx hb d_M_next_15 rfl (lv_at hl 4 rfl) ?_
  refine lv_iload hx hb d_M_next_16 (lv_at hl 5 rfl) ?_
  refine lv_iconst (v := 0) hx hb d_M_next_18 (by decide) ?_
  obtain ⟨Q19, hq19, h⟩ := h
  have hPc := hP.sub (ws' := (cw_M_ahead cI a_this a_colours a_froms a_sizes a_layersOf a_areas a_xs a_ys a_used a_cornerAt a_counts a_costs a_firsts a_manys a_fs a_px a_py a_groups a_joinF n_colours c_code c_width c_height c_isTraced c_outlines c_points c_hasPolygon c_of c_corners c_costSum c_hasCurves c_curveCount c_sharp c_allowed f_colours)) [0, 1] rfl
  have hDc := hD.sub (ws' := (cw_M_ahead cI a_this a_colours a_froms a_sizes a_layersOf a_areas a_xs a_ys a_used a_cornerAt a_counts a_costs a_firsts a_manys a_fs a_px a_py a_groups a_joinF n_colours c_code c_width c_height c_isTraced c_outlines c_points c_hasPolygon c_of c_corners c_costSum c_hasCurves c_curveCount c_sharp c_allowed f_colours)) [0, 1] (by decide) rfl
  have hFc := va_free (wc := (cw_M_ahead cI a_this a_colours a_froms a_sizes a_layersOf a_areas a_xs a_ys a_used a_cornerAt a_counts a_costs a_firsts a_manys a_fs a_px a_py a_groups a_joinF n_colours c_code c_width c_height c_isTraced c_outlines c_points c_hasPolygon c_of c_corners c_costSum c_hasCurves c_curveCount c_sharp c_allowed f_colours)) hD hS hA [0, 1] rfl
  refine va_calli (va_runV (As := [.int x1, .int x2, .int x3, .int x4, .int (0 : Int32)]) (rest := []) ⟨hx, hb, hml, hown, hts⟩ (c_M_ahead l dC dI cI cB cJ cZ a_this a_colours a_froms a_sizes a_layersOf a_areas a_xs a_ys a_used a_cornerAt a_counts a_costs a_firsts a_manys a_fs a_px a_py a_groups a_joinF H.size n_colours c_code c_width c_height c_isTraced c_outlines c_points c_hasPolygon c_of c_corners c_costSum c_hasCurves c_curveCount c_sharp c_allowed f_colours x1 x2 x3 x4 (0 : Int32) Q19 hq19) (cwV 5 hts (goodV q_804 q_806 q_p36 q_7 q_807) rfl rfl rfl (by decide +kernel) ⟨Nat.le_of_ble_eq_true rfl, Nat.le_of_ble_eq_true rfl⟩) ⟨fun a U g mk q => by obtain ⟨q0, q1, qP, qK, qD⟩ := q; exact ⟨q0, q1, qP, va_K.moved (u := U) (U := U.calling g mk a) (Vm.Alike.refl U.vm) qK, qD⟩, va_recv hK hPc (ci := 5) (q0 := 0) rfl rfl, fun U hU hW => ⟨rfl, by rw [hU], by rw [hU]; exact hPc, va_K.moved hW.alike hK, hDc.weaken (fun _ _ _ _ => trivial)⟩⟩ rfl rfl hl.1 rfl (lv_room (Nat.le_of_ble_eq_true rfl)) d_M_next_19 ⟨Nat.le_of_ble_eq_true rfl, Nat.le_of_ble_eq_true rfl⟩) hS (fun q _ h => hFc q h) hFc (fun r19 u19 t H1 locs ht hvm hw hB hz1 hk1 hS => ?_)
  cases u19
  obtain ⟨hP1, -, hD1⟩ := hB
  rw [ht] at hP1
  have h := h r19 hw
  obtain ⟨hP, hD⟩ := va_join (wr := []) (w1 := (cw_M_ahead cI a_this a_colours a_froms a_sizes a_layersOf a_areas a_xs a_ys a_used a_cornerAt a_counts a_costs a_firsts a_manys a_fs a_px a_py a_groups a_joinF n_colours c_code c_width c_height c_isTraced c_outlines c_points c_hasPolygon c_of c_corners c_costSum c_hasCurves c_curveCount c_sharp c_allowed f_colours)) hP hD [0, 1] [] rfl rfl (by decide) (by decide) hk1 hFc hP1 hD1
  clear hP1 hD1 hk1 hPc hDc hFc
  generalize H1 = H at hP hS ⊢
  have hP : va_P (dC, dI) vwCl (cw_M_next cI a_this a_colours a_froms a_sizes a_layersOf a_areas a_xs a_ys a_used a_cornerAt a_counts a_costs a_firsts a_manys a_fs a_px a_py a_groups a_joinF n_colours c_code c_width c_height c_isTraced c_outlines c_points c_hasPolygon c_of c_corners c_costSum c_hasCurves c_curveCount c_sharp c_allowed f_colours) H := hP.sub [0, 1] rfl
  have hD : va_D A (cw_M_next cI a_this a_colours a_froms a_sizes a_layersOf a_areas a_xs a_ys a_used a_cornerAt a_counts a_costs a_firsts a_manys a_fs a_px a_py a_groups a_joinF n_colours c_code c_width c_height c_isTraced c_outlines c_points c_hasPolygon c_of c_corners c_costSum c_hasCurves c_curveCount c_sharp c_allowed f_colours) := hD.sub [0, 1] (by decide) rfl
  refine lv_istore (lv' := [(7, .int r19), (6, .int r7), (0, .ref a_this), (1, .int x1), (2, .int x2), (3, .int x3), (4, .int x4), (5, .int x5)]) hx hb d_M_next_22 hl (by decide) rfl (fun ls hl => ?_)
  refine lv_iload hx hb d_M_next_24 (lv_at hl 0 rfl) ?_
  refine lv_if_eq (tgt := 50) hx hb d_M_next_26 (by decide) (fun cc_ => ?_) (fun cc_ => ?_)
  · have h := h.1 cc_
    exact J50 x4 r7 r19 _ _ _ h hP hD hS (lv_sub hl [6, 1, 0] rfl)
  · have h := h.2 cc_
    refine lv_iload hx hb d_M_next_29 (lv_at hl 1 rfl) ?_
    refine lv_if_ne (tgt := 46) hx hb d_M_next_31 (by decide) (fun cc_ => ?_) (fun cc_ => ?_)
    · have h := h.1 cc_
      exact J46 x4 r7 r19 _ _ _ h hP hD hS (lv_sub hl [6, 1, 0] rfl)
    · have h := h.2 cc_
      refine lv_aload_n hx hb d_M_next_34 rfl (lv_at hl 2 rfl) ?_
      refine lv_iload_n hx hb d_M_next_35 rfl (lv_at hl 3 rfl) ?_
      refine lv_iload_n hx hb d_M_next_36 rfl (lv_at hl 4 rfl) ?_
      refine lv_iload_n hx hb d_M_next_37 rfl (lv_at hl 5 rfl) ?_
      refine lv_iload hx hb d_M_next_38 (lv_at hl 7 rfl) ?_
      obtain ⟨Q40, hq40, h⟩ := h
      have hPc := hP.sub (ws' := (cw_M_turnsLeft cI a_this a_colours a_froms a_sizes a_layersOf a_areas a_xs a_ys a_used a_cornerAt a_counts a_costs a_firsts a_manys a_fs a_px a_py a_groups a_joinF n_colours c_code c_width c_height c_isTraced c_outlines c_points c_hasPolygon c_of c_corners c_costSum c_hasCurves c_curveCount c_sharp c_allowed f_colours)) [0, 1] rfl
      have hDc := hD.sub (ws' := (cw_M_turnsLeft cI a_this a_colours a_froms a_sizes a_layersOf a_areas a_xs a_ys a_used a_cornerAt a_counts a_costs a_firsts a_manys a_fs a_px a_py a_groups a_joinF n_colours c_code c_width c_height c_isTraced c_outlines c_points c_hasPolygon c_of c_corners c_costSum c_hasCurves c_curveCount c_sharp c_allowed f_colours)) [0, 1] (by decide) rfl
      have hFc := va_free (wc := (cw_M_turnsLeft cI a_this a_colours a_froms a_sizes a_layersOf a_areas a_xs a_ys a_used a_cornerAt a_counts a_costs a_firsts a_manys a_fs a_px a_py a_groups a_joinF n_colours c_code c_width c_height c_isTraced c_outlines c_points c_hasPolygon c_of c_corners c_costSum c_hasCurves c_curveCount c_sharp c_allowed f_colours)) hD hS hA [0, 1] rfl
      refine va_calli (va_runV (As := [.int x1, .int x2, .int x3, .int x5]) (rest := []) ⟨hx, hb, hml, hown, hts⟩ (c_M_turnsLeft l dC dI cI cB cJ cZ a_this a_colours a_froms a_sizes a_layersOf a_areas a_xs a_ys a_used a_cornerAt a_counts a_costs a_firsts a_manys a_fs a_px a_py a_groups a_joinF H.size n_colours c_code c_width c_height c_isTraced c_outlines c_points c_hasPolygon c_of c_corners c_costSum c_hasCurves c_curveCount c_sharp c_allowed f_colours x1 x2 x3 x5 Q40 hq40) (cwV 4 hts (goodV q_808 q_810 q_p37 q_7 q_811) rfl rfl rfl (by decide +kernel) ⟨Nat.le_of_ble_eq_true rfl, Nat.le_of_ble_eq_true rfl⟩) ⟨fun a U g mk q => by obtain ⟨q0, q1, qP, qK, qD⟩ := q; exact ⟨q0, q1, qP, va_K.moved (u := U) (U := U.calling g mk a) (Vm.Alike.refl U.vm) qK, qD⟩, va_recv hK hPc (ci := 5) (q0 := 0) rfl rfl, fun U hU hW => ⟨rfl, by rw [hU], by rw [hU]; exact hPc, va_K.moved hW.alike hK, hDc.weaken (fun _ _ _ _ => trivial)⟩⟩ rfl rfl hl.1 rfl (lv_room (Nat.le_of_ble_eq_true rfl)) d_M_next_40 ⟨Nat.le_of_ble_eq_true rfl, Nat.le_of_ble_eq_true rfl⟩) hS (fun q _ h => hFc q h) hFc (fun r40 u40 t H1 locs ht hvm hw hB hz1 hk1 hS => ?_)
      cases u40
      obtain ⟨hP1, -, hD1⟩ := hB
      rw [ht] at hP1
      have h := h r40 hw
      obtain ⟨hP, hD⟩ := va_join (wr := []) (w1 := (cw_M_turnsLeft cI a_this a_colours a_froms a_sizes a_layersOf a_areas a_xs a_ys a_used a_cornerAt a_counts a_costs a_firsts a_manys a_fs a_px a_py a_groups a_joinF n_colours c_code c_width c_height c_isTraced c_outlines c_points c_hasPolygon c_of c_corners c_costSum c_hasCurves c_curveCount c_sharp c_allowed f_colours)) hP hD [0, 1] [] rfl rfl (by decide) (by decide) hk1 hFc hP1 hD1
      clear hP1 hD1 hk1 hPc hDc hFc
      generalize H1 = H at hP hS ⊢
      have hP : va_P (dC, dI) vwCl (cw_M_next cI a_this a_colours a_froms a_sizes a_layersOf a_areas a_xs a_ys a_used a_cornerAt a_counts a_costs a_firsts a_manys a_fs a_px a_py a_groups a_joinF n_colours c_code c_width c_height c_isTraced c_outlines c_points c_hasPolygon c_of c_corners c_costSum c_hasCurves c_curveCount c_sharp c_allowed f_colours) H := hP.sub [0, 1] rfl
      have hD : va_D A (cw_M_next cI a_this a_colours a_froms a_sizes a_layersOf a_areas a_xs a_ys a_used a_cornerAt a_counts a_costs a_firsts a_manys a_fs a_px a_py a_groups a_joinF n_colours c_code c_width c_height c_isTraced c_outlines c_points c_hasPolygon c_of c_corners c_costSum c_hasCurves c_curveCount c_sharp c_allowed f_colours) := hD.sub [0, 1] (by decide) rfl
      refine lv_if_eq (tgt := 50) hx hb d_M_next_43 (by decide) (fun cc_ => ?_) (fun cc_ => ?_)
      · have h := h.1 cc_
        exact J50 x4 r7 r19 _ _ _ h hP hD hS (lv_sub hl [6, 1, 0] rfl)
      · have h := h.2 cc_
        exact J46 x4 r7 r19 _ _ _ h hP hD hS (lv_sub hl [6, 1, 0] rfl)
def wp_M_walk_J174 (n_froms n_sizes n_layersOf n_areas n_xs n_ys n_colours n_used : Nat) (c_width : Int32) (c_height : Int32) (f_colours : Nat → Int32) (c_outlines : Int32) (c_points : Int32) (f_froms : Nat → Int32) (f_sizes : Nat → Int32) (f_layersOf : Nat → Int32) (f_areas : Nat → Int32) (f_xs : Nat → Int32) (f_ys : Nat → Int32) (f_used : Nat → Int32) (x1 : Int32) (x6 : Int32) (x10 : Int32) (post : (Int32 × Int32 × (Nat → Int32) × (Nat → Int32) × (Nat → Int32) × (Nat → Int32) × (Nat → Int32) × (Nat → Int32) × (Nat → Int32)) → Prop) : Prop :=
  vp_in c_outlines n_froms ∧ ∀ f184 : Nat → Int32, f184 = upd f_froms c_outlines.toNatClampNeg x6 → vp_in c_outlines n_sizes ∧ ∀ f200 : Nat → Int32, f200 = upd f_sizes c_outlines.toNatClampNeg (c_points - x6) → vp_in c_outlines n_layersOf ∧ ∀ f210 : Nat → Int32, f210 = upd f_layersOf c_outlines.toNatClampNeg x1 → vp_in c_outlines n_areas ∧ ∀ f221 : Nat → Int32, f221 = upd f_areas c_outlines.toNatClampNeg x10 → ∀ v229 : Int32, v229 = (c_outlines + (1 : Int32)) → post (v229, c_points, f184, f200, f210, f221, f_xs, f_ys, f_used)
def wp_M_walk_J147 (n_froms n_sizes n_layersOf n_areas n_xs n_ys n_colours n_used : Nat) (c_width : Int32) (c_height : Int32) (f_colours : Nat → Int32) (c_outlines : Int32) (c_points : Int32) (f_froms : Nat → Int32) (f_sizes : Nat → Int32) (f_layersOf : Nat → Int32) (f_areas : Nat → Int32) (f_xs : Nat → Int32) (f_ys : Nat → Int32) (f_used : Nat → Int32) (x1 : Int32) (x2 : Int32) (x3 : Int32) (x4 : Int32) (x5 : Int32) (x6 : Int32) (x7 : Int32) (x8 : Int32) (x9 : Int32) (x10 : Int32) (y0 : Int32) (back21 : (Int32 × Int32 × Int32 × Int32 × Int32 × Int32 × (Nat → Int32) × (Nat → Int32) × (Nat → Int32)) → Prop) (post : (Int32 × Int32 × (Nat → Int32) × (Nat → Int32) × (Nat → Int32) × (Nat → Int32) × (Nat → Int32) × (Nat → Int32) × (Nat → Int32)) → Prop) : Prop :=
  back21 (x7, x8, x9, x10, y0, c_points, f_xs, f_ys, f_used)
def wp_M_walk_J142 (n_froms n_sizes n_layersOf n_areas n_xs n_ys n_colours n_used : Nat) (c_width : Int32) (c_height : Int32) (f_colours : Nat → Int32) (c_outlines : Int32) (c_points : Int32) (f_froms : Nat → Int32) (f_sizes : Nat → Int32) (f_layersOf : Nat → Int32) (f_areas : Nat → Int32) (f_xs : Nat → Int32) (f_ys : Nat → Int32) (f_used : Nat → Int32) (x1 : Int32) (x2 : Int32) (x3 : Int32) (x4 : Int32) (x5 : Int32) (x6 : Int32) (x7 : Int32) (x8 : Int32) (x9 : Int32) (x10 : Int32) (back21 : (Int32 × Int32 × Int32 × Int32 × Int32 × Int32 × (Nat → Int32) × (Nat → Int32) × (Nat → Int32)) → Prop) (post : (Int32 × Int32 × (Nat → Int32) × (Nat → Int32) × (Nat → Int32) × (Nat → Int32) × (Nat → Int32) × (Nat → Int32) × (Nat → Int32)) → Prop) : Prop :=
  wp_M_walk_J147 n_froms n_sizes n_layersOf n_areas n_xs n_ys n_colours n_used c_width c_height f_colours c_outlines c_points f_froms f_sizes f_layersOf f_areas f_xs f_ys f_used x1 x2 x3 x4 x5 x6 x7 x8 x9 x10 (1 : Int32) back21 post
def wp_M_walk_J45 (n_froms n_sizes n_layersOf n_areas n_xs n_ys n_colours n_used : Nat) (c_width : Int32) (c_height : Int32) (f_colours : Nat → Int32) (c_outlines : Int32) (c_points : Int32) (f_froms : Nat → Int32) (f_sizes : Nat → Int32) (f_layersOf : Nat → Int32) (f_areas : Nat → Int32) (f_xs : Nat → Int32) (f_ys : Nat → Int32) (f_used : Nat → Int32) (x1 : Int32) (x2 : Int32) (x3 : Int32) (x4 : Int32) (x5 : Int32) (x6 : Int32) (x7 : Int32) (x8 : Int32) (x9 : Int32) (x10 : Int32) (back21 : (Int32 × Int32 × Int32 × Int32 × Int32 × Int32 × (Nat → Int32) × (Nat → Int32) × (Nat → Int32)) → Prop) (post : (Int32 × Int32 × (Nat → Int32) × (Nat → Int32) × (Nat → Int32) × (Nat → Int32) × (Nat → Int32) × (Nat → Int32) × (Nat → Int32)) → Prop) : Prop :=
  vp_in c_points n_xs ∧ ∀ f55 : Nat → Int32, f55 = upd f_xs c_points.toNatClampNeg x7 → vp_in c_points n_ys ∧ ∀ f66 : Nat → Int32, f66 = upd f_ys c_points.toNatClampNeg x8 → ∀ v74 : Int32, v74 = (c_points + (1 : Int32)) → ∃ Q83 : Int32 → Unit → Prop, wp_M_stepY x9 Q83 ∧ ∀ (r83 : Int32), Q83 r83 () → ∀ x10_88 : Int32, x10_88 = (x10 + (x7 * r83)) → ∃ Q94 : Int32 → Unit → Prop, wp_M_stepX x9 Q94 ∧ ∀ (r94 : Int32), Q94 r94 () → ∀ x7_98 : Int32, x7_98 = (x7 + r94) → ∃ Q104 : Int32 → Unit → Prop, wp_M_stepY x9 Q104 ∧ ∀ (r104 : Int32), Q104 r104 () → ∀ x8_108 : Int32, x8_108 = (x8 + r104) → ∃ Q120 : Int32 → Unit → Prop, wp_M_next n_colours c_width c_height f_colours x1 x7_98 x8_108 x9 x4 Q120 ∧ ∀ (r120 : Int32), Q120 r120 () → (¬ x7_98 = x2 → wp_M_walk_J142 n_froms n_sizes n_layersOf n_areas n_xs n_ys n_colours n_used c_width c_height f_colours c_outlines v74 f_froms f_sizes f_layersOf f_areas f55 f66 f_used x1 x2 x3 x4 x5 x6 x7_98 x8_108 r120 x10_88 back21 post) ∧ (x7_98 = x2 → (¬ x8_108 = x3 → wp_M_walk_J142 n_froms n_sizes n_layersOf n_areas n_xs n_ys n_colours n_used c_width c_height f_colours c_outlines v74 f_froms f_sizes f_layersOf f_areas f55 f66 f_used x1 x2 x3 x4 x5 x6 x7_98 x8_108 r120 x10_88 back21 post) ∧ (x8_108 = x3 → (r120 = 0 → wp_M_walk_J147 n_froms n_sizes n_layersOf n_areas n_xs n_ys n_colours n_used c_width c_height f_colours c_outlines v74 f_froms f_sizes f_layersOf f_areas f55 f66 f_used x1 x2 x3 x4 x5 x6 x7_98 x8_108 r120 x10_88 (0 : Int32) back21 post) ∧ (¬ r120 = 0 → wp_M_walk_J142 n_froms n_sizes n_layersOf n_areas n_xs n_ys n_colours n_used c_width c_height f_colours c_outlines v74 f_froms f_sizes f_layersOf f_areas f55 f66 f_used x1 x2 x3 x4 x5 x6 x7_98 x8_108 r120 x10_88 back21 post)))
def wp_M_walk_L21 (n_froms n_sizes n_layersOf n_areas n_xs n_ys n_colours n_used : Nat) (c_width : Int32) (c_height : Int32) (f_colours : Nat → Int32) (c_outlines : Int32) (f_froms : Nat → Int32) (f_sizes : Nat → Int32) (f_layersOf : Nat → Int32) (f_areas : Nat → Int32) (x1 : Int32) (x2 : Int32) (x3 : Int32) (x4 : Int32) (x5 : Int32) (x6 : Int32) (post : (Int32 × Int32 × (Nat → Int32) × (Nat → Int32) × (Nat → Int32) × (Nat → Int32) × (Nat → Int32) × (Nat → Int32) × (Nat → Int32)) → Prop) (back21 : (Int32 × Int32 × Int32 × Int32 × Int32 × Int32 × (Nat → Int32) × (Nat → Int32) × (Nat → Int32)) → Prop) (x7 : Int32) (x8 : Int32) (x9 : Int32) (x10 : Int32) (x11 : Int32) (c_points : Int32) (f_xs : Nat → Int32) (f_ys : Nat → Int32) (f_used : Nat → Int32) : Prop :=
  (x11 = 0 → (x5 < x10 → wp_M_walk_J174 n_froms n_sizes n_layersOf n_areas n_xs n_ys n_colours n_used c_width c_height f_colours c_outlines c_points f_froms f_sizes f_layersOf f_areas f_xs f_ys f_used x1 x6 x10 post) ∧ (¬ x5 < x10 → (x10 < (-x5) → wp_M_walk_J174 n_froms n_sizes n_layersOf n_areas n_xs n_ys n_colours n_used c_width c_height f_colours c_outlines c_points f_froms f_sizes f_layersOf f_areas f_xs f_ys f_used x1 x6 x10 post) ∧ (¬ x10 < (-x5) → post (c_outlines, x6, f_froms, f_sizes, f_layersOf, f_areas, f_xs, f_ys, f_used)))) ∧ (¬ x11 = 0 → (¬ x9 = 0 → wp_M_walk_J45 n_froms n_sizes n_layersOf n_areas n_xs n_ys n_colours n_used c_width c_height f_colours c_outlines c_points f_froms f_sizes f_layersOf f_areas f_xs f_ys f_used x1 x2 x3 x4 x5 x6 x7 x8 x9 x10 back21 post) ∧ (x9 = 0 → vp_in (((16 : Int32) * x8) + x7) n_used ∧ ∀ f44 : Nat → Int32, f44 = upd f_used (((16 : Int32) * x8) + x7).toNatClampNeg (vp_nar .boolean (1 : Int32)) → wp_M_walk_J45 n_froms n_sizes n_layersOf n_areas n_xs n_ys n_colours n_used c_width c_height f_colours c_outlines c_points f_froms f_sizes f_layersOf f_areas f_xs f_ys f44 x1 x2 x3 x4 x5 x6 x7 x8 x9 x10 back21 post))
def wp_M_walk (n_froms n_sizes n_layersOf n_areas n_xs n_ys n_colours n_used : Nat) (c_width : Int32) (c_height : Int32) (c_outlines : Int32) (c_points : Int32) (f_froms : Nat → Int32) (f_sizes : Nat → Int32) (f_layersOf : Nat → Int32) (f_areas : Nat → Int32) (f_xs : Nat → Int32) (f_ys : Nat → Int32) (f_colours : Nat → Int32) (f_used : Nat → Int32) (x1 : Int32) (x2 : Int32) (x3 : Int32) (x4 : Int32) (x5 : Int32) (post : (Int32 × Int32 × (Nat → Int32) × (Nat → Int32) × (Nat → Int32) × (Nat → Int32) × (Nat → Int32) × (Nat → Int32) × (Nat → Int32)) → Prop) : Prop :=
  lpW (fun b z => wp_M_walk_L21 n_froms n_sizes n_layersOf n_areas n_xs n_ys n_colours n_used c_width c_height f_colours c_outlines f_froms f_sizes f_layersOf f_areas x1 x2 x3 x4 x5 c_points post b z.1 z.2.1 z.2.2.1 z.2.2.2.1 z.2.2.2.2.1 z.2.2.2.2.2.1 z.2.2.2.2.2.2.1 z.2.2.2.2.2.2.2.1 z.2.2.2.2.2.2.2.2) (x2, x3, (0 : Int32), (0 : Int32), (1 : Int32), c_points, f_xs, f_ys, f_used)
abbrev cw_M_walk (cI cZ : ClassId) (a_this a_froms a_sizes a_layersOf a_areas a_xs a_ys a_colours a_used a_cornerAt a_counts a_costs a_firsts a_manys a_fs a_px a_py a_groups a_joinF : Nat) (n_froms n_sizes n_layersOf n_areas n_xs n_ys n_colours n_used : Nat) (c_code : Int32) (c_width : Int32) (c_height : Int32) (c_isTraced : Int32) (c_outlines : Int32) (c_points : Int32) (c_hasPolygon : Int32) (c_of : Int32) (c_corners : Int32) (c_costSum : Int32) (c_hasCurves : Int32) (c_curveCount : Int32) (c_sharp : Int32) (c_allowed : Int32) (f_froms : Nat → Int32) (f_sizes : Nat → Int32) (f_layersOf : Nat → Int32) (f_areas : Nat → Int32) (f_xs : Nat → Int32) (f_ys : Nat → Int32) (f_colours : Nat → Int32) (f_used : Nat → Int32) : va_W := [(a_this, .inr (5, [.int c_code, .int c_width, .int c_height, .ref a_colours, .int c_isTraced, .int c_outlines, .ref a_froms, .ref a_sizes, .ref a_layersOf, .ref a_areas, .int c_points, .ref a_xs, .ref a_ys, .ref a_used, .int c_hasPolygon, .int c_of, .int c_corners, .int c_costSum, .ref a_cornerAt, .ref a_counts, .ref a_costs, .int c_hasCurves, .int c_curveCount, .ref a_firsts, .ref a_manys, .ref a_fs, .int c_sharp, .int c_allowed, .ref a_px, .ref a_py, .ref a_groups, .ref a_joinF])), (a_froms, .inl (cI, n_froms, .inl f_froms)), (a_sizes, .inl (cI, n_sizes, .inl f_sizes)), (a_layersOf, .inl (cI, n_layersOf, .inl f_layersOf)), (a_areas, .inl (cI, n_areas, .inl f_areas)), (a_xs, .inl (cI, n_xs, .inl f_xs)), (a_ys, .inl (cI, n_ys, .inl f_ys)), (a_colours, .inl (cI, n_colours, .inl f_colours)), (a_used, .inl (cZ, n_used, .inl f_used))]
abbrev qq_M_walk (dC : Nat → ClassId) (dI : Nat → Nat → Nat) (cI cB cJ cZ : ClassId) (a_this a_froms a_sizes a_layersOf a_areas a_xs a_ys a_colours a_used a_cornerAt a_counts a_costs a_firsts a_manys a_fs a_px a_py a_groups a_joinF : Nat) (n_froms n_sizes n_layersOf n_areas n_xs n_ys n_colours n_used : Nat) (c_code : Int32) (c_width : Int32) (c_height : Int32) (c_isTraced : Int32) (c_hasPolygon : Int32) (c_of : Int32) (c_corners : Int32) (c_costSum : Int32) (c_hasCurves : Int32) (c_curveCount : Int32) (c_sharp : Int32) (c_allowed : Int32) (f_colours : Nat → Int32) (A : Nat → Prop) (post : (Int32 × Int32 × (Nat → Int32) × (Nat → Int32) × (Nat → Int32) × (Nat → Int32) × (Nat → Int32) × (Nat → Int32) × (Nat → Int32)) → Prop) : Array Value → State → Outcome → State → Prop := va_Qv post (fun u t => va_P (dC, dI) vwCl (cw_M_walk cI cZ a_this a_froms a_sizes a_layersOf a_areas a_xs a_ys a_colours a_used a_cornerAt a_counts a_costs a_firsts a_manys a_fs a_px a_py a_groups a_joinF n_froms n_sizes n_layersOf n_areas n_xs n_ys n_colours n_used c_code c_width c_height c_isTraced u.1 u.2.1 c_hasPolygon c_of c_corners c_costSum c_hasCurves c_curveCount c_sharp c_allowed u.2.2.1 u.2.2.2.1 u.2.2.2.2.1 u.2.2.2.2.2.1 u.2.2.2.2.2.2.1 u.2.2.2.2.2.2.2.1 f_colours u.2.2.2.2.2.2.2.2) t.heap ∧ va_K (dC, dI) vwCl [(cI, .int), (cB, .byte), (cJ, .long), (cZ, .boolean)] t ∧ va_D A (cw_M_walk cI cZ a_this a_froms a_sizes a_layersOf a_areas a_xs a_ys a_colours a_used a_cornerAt a_counts a_costs a_firsts a_manys a_fs a_px a_py a_groups a_joinF n_froms n_sizes n_layersOf n_areas n_xs n_ys n_colours n_used c_code c_width c_height c_isTraced u.1 u.2.1 c_hasPolygon c_of c_corners c_costSum c_hasCurves c_curveCount c_sharp c_allowed u.2.2.1 u.2.2.2.1 u.2.2.2.2.1 u.2.2.2.2.2.1 u.2.2.2.2.2.2.1 u.2.2.2.2.2.2.2.1 f_colours u.2.2.2.2.2.2.2.2)) A
set_option maxHeartbeats 4000000 in
set_option maxRecDepth 100000 in
theorem c_M_walk (l : Launch) (dC : Nat → ClassId) (dI : Nat → Nat → Nat) (cI cB cJ cZ : ClassId) (a_this a_froms a_sizes a_layersOf a_areas a_xs a_ys a_colours a_used a_cornerAt a_counts a_costs a_firsts a_manys a_fs a_px a_py a_groups a_joinF : Nat) (sz : Nat) (n_froms n_sizes n_layersOf n_areas n_xs n_ys n_colours n_used : Nat) (c_code : Int32) (c_width : Int32) (c_height : Int32) (c_isTraced : Int32) (c_outlines : Int32) (c_points : Int32) (c_hasPolygon : Int32) (c_of : Int32) (c_corners : Int32) (c_costSum : Int32) (c_hasCurves : Int32) (c_curveCount : Int32) (c_sharp : Int32) (c_allowed : Int32) (f_froms : Nat → Int32) (f_sizes : Nat → Int32) (f_layersOf : Nat → Int32) (f_areas : Nat → Int32) (f_xs : Nat → Int32) (f_ys : Nat → Int32) (f_colours : Nat → Int32) (f_used : Nat → Int32) (x1 : Int32) (x2 : Int32) (x3 : Int32) (x4 : Int32) (x5 : Int32) (post : (Int32 × Int32 × (Nat → Int32) × (Nat → Int32) × (Nat → Int32) × (Nat → Int32) × (Nat → Int32) × (Nat → Int32) × (Nat → Int32)) → Prop) (h : wp_M_walk n_froms n_sizes n_layersOf n_areas n_xs n_ys n_colours n_used c_width c_height c_outlines c_points f_froms f_sizes f_layersOf f_areas f_xs f_ys f_colours f_used x1 x2 x3 x4 x5 post) : Met l y_M_walk w_M_walk ({ frames := 5, cells := 0, slots := 0, locals := 123 }) (va_Pc [.ref a_this, .int x1, .int x2, .int x3, .int x4, .int x5] (fun U => U.heap.size = sz ∧ va_P (dC, dI) vwCl (cw_M_walk cI cZ a_this a_froms a_sizes a_layersOf a_areas a_xs a_ys a_colours a_used a_cornerAt a_counts a_costs a_firsts a_manys a_fs a_px a_py a_groups a_joinF n_froms n_sizes n_layersOf n_areas n_xs n_ys n_colours n_used c_code c_width c_height c_isTraced c_outlines c_points c_hasPolygon c_of c_corners c_costSum c_hasCurves c_curveCount c_sharp c_allowed f_froms f_sizes f_layersOf f_areas f_xs f_ys f_colours f_used) U.heap ∧ va_K (dC, dI) vwCl [(cI, .int), (cB, .byte), (cJ, .long), (cZ, .boolean)] U ∧ va_D (fun _ => True) (cw_M_walk cI cZ a_this a_froms a_sizes a_layersOf a_areas a_xs a_ys a_colours a_used a_cornerAt a_counts a_costs a_firsts a_manys a_fs a_px a_py a_groups a_joinF n_froms n_sizes n_layersOf n_areas n_xs n_ys n_colours n_used c_code c_width c_height c_isTraced c_outlines c_points c_hasPolygon c_of c_corners c_costSum c_hasCurves c_curveCount c_sharp c_allowed f_froms f_sizes f_layersOf f_areas f_xs f_ys f_colours f_used))) (qq_M_walk dC dI cI cB cJ cZ a_this a_froms a_sizes a_layersOf a_areas a_xs a_ys a_colours a_used a_cornerAt a_counts a_costs a_firsts a_manys a_fs a_px a_py a_groups a_joinF n_froms n_sizes n_layersOf n_areas n_xs n_ys n_colours n_used c_code c_width c_height c_isTraced c_hasPolygon c_of c_corners c_costSum c_hasCurves c_curveCount c_sharp c_allowed f_colours (va_A (cw_M_walk cI cZ a_this a_froms a_sizes a_layersOf a_areas a_xs a_ys a_colours a_used a_cornerAt a_counts a_costs a_firsts a_manys a_fs a_px a_py a_groups a_joinF n_froms n_sizes n_layersOf n_areas n_xs n_ys n_colours n_used c_code c_width c_height c_isTraced c_outlines c_points c_hasPolygon c_of c_corners c_costSum c_hasCurves c_curveCount c_sharp c_allowed f_froms f_sizes f_layersOf f_areas f_xs f_ys f_colours f_used) sz) post) 0 0 (va_A (cw_M_walk cI cZ a_this a_froms a_sizes a_layersOf a_areas a_xs a_ys a_colours a_used a_cornerAt a_counts a_costs a_firsts a_manys a_fs a_px a_py a_groups a_joinF n_froms n_sizes n_layersOf n_areas n_xs n_ys n_colours n_used c_code c_width c_height c_isTraced c_outlines c_points c_hasPolygon c_of c_corners c_costSum c_hasCurves c_curveCount c_sharp c_allowed f_froms f_sizes f_layersOf f_areas f_xs f_ys f_colours f_used) sz) := by
  refine Met.ofW (cc := b_M_walk) (maxL := 12) (ret := none) (by decide +kernel) rfl ?_
  intro p e s m args below meth c s₁ B hml hv
  obtain ⟨rfl, hsz, hP, hK, hD0⟩ := hv
  have hx := B.exec
  have hb := B.bytes
  have hr := B.returns
  have hts : ∀ w ∈ allW, w.before _ s = true := fun w hw => atoms_spec (ws := w_M_walk) B.pre w (List.mem_cons_of_mem _ hw)
  have hown : s.vm.findClass R_M = some m.cls := findClass_of_methodNamed B.named
  have hlocks := B.notSynchronized
  subst hsz
  have hD := hD0.self (sz := s.heap.size)
  generalize hAe : va_A (cw_M_walk cI cZ a_this a_froms a_sizes a_layersOf a_areas a_xs a_ys a_colours a_used a_cornerAt a_counts a_costs a_firsts a_manys a_fs a_px a_py a_groups a_joinF n_froms n_sizes n_layersOf n_areas n_xs n_ys n_colours n_used c_code c_width c_height c_isTraced c_outlines c_points c_hasPolygon c_of c_corners c_costSum c_hasCurves c_curveCount c_sharp c_allowed f_froms f_sizes f_layersOf f_areas f_xs f_ys f_colours f_used) s.heap.size = A at hD ⊢
  have hA : ∀ q : Nat, s.heap.size ≤ q → A q := fun q h => by rw [← hAe]; exact Or.inr h
  have hS : va_S A s.heap s.heap [] := va_S.rf
  clear hD0
  generalize hQf : MQ below (qq_M_walk dC dI cI cB cJ cZ a_this a_froms a_sizes a_layersOf a_areas a_xs a_ys a_colours a_used a_cornerAt a_counts a_costs a_firsts a_manys a_fs a_px a_py a_groups a_joinF n_froms n_sizes n_layersOf n_areas n_xs n_ys n_colours n_used c_code c_width c_height c_isTraced c_hasPolygon c_of c_corners c_costSum c_hasCurves c_curveCount c_sharp c_allowed f_colours A post) ([.ref a_this, .int x1, .int x2, .int x3, .int x4, .int x5] : List Value).toArray s 0 0 A = Qf
  have hl := lv_entry ([.ref a_this, .int x1, .int x2, .int x3, .int x4, .int x5]) (n := 12) (Nat.le_of_ble_eq_true rfl)
  rw [lg_entry_eq]
  generalize (lg_sl ([.ref a_this, .int x1, .int x2, .int x3, .int x4, .int x5]) ++ List.replicate (12 - (lg_sl ([.ref a_this, .int x1, .int x2, .int x3, .int x4, .int x5])).length) Slot.unset).toArray = ls at hl ⊢
  have hl : lv_has ls 12 [(0, .ref a_this), (1, .int x1), (2, .int x2), (3, .int x3), (4, .int x4), (5, .int x5)] := hl
  unfold wp_M_walk at h
  have J174 : ∀ (x1_j174 : Int32) (x6_j174 : Int32) (x10_j174 : Int32) (c_outlines_j174 : Int32) (c_points_j174 : Int32) (f_froms_j174 : Nat → Int32) (f_sizes_j174 : Nat → Int32) (f_layersOf_j174 : Nat → Int32) (f_areas_j174 : Nat → Int32) (f_xs_j174 : Nat → Int32) (f_ys_j174 : Nat → Int32) (f_used_j174 : Nat → Int32) (H : Heap) (locs : List Loc) (ls : Array Slot), wp_M_walk_J174 n_froms n_sizes n_layersOf n_areas n_xs n_ys n_colours n_used c_width c_height f_colours c_outlines_j174 c_points_j174 f_froms_j174 f_sizes_j174 f_layersOf_j174 f_areas_j174 f_xs_j174 f_ys_j174 f_used_j174 x1_j174 x6_j174 x10_j174 post → va_P (dC, dI) vwCl (cw_M_walk cI cZ a_this a_froms a_sizes a_layersOf a_areas a_xs a_ys a_colours a_used a_cornerAt a_counts a_costs a_firsts a_manys a_fs a_px a_py a_groups a_joinF n_froms n_sizes n_layersOf n_areas n_xs n_ys n_colours n_used c_code c_width c_height c_isTraced c_outlines_j174 c_points_j174 c_hasPolygon c_of c_corners c_costSum c_hasCurves c_curveCount c_sharp c_allowed f_froms_j174 f_sizes_j174 f_layersOf_j174 f_areas_j174 f_xs_j174 f_ys_j174 f_colours f_used_j174) H → va_D A (cw_M_walk cI cZ a_this a_froms a_sizes a_layersOf a_areas a_xs a_ys a_colours a_used a_cornerAt a_counts a_costs a_firsts a_manys a_fs a_px a_py a_groups a_joinF n_froms n_sizes n_layersOf n_areas n_xs n_ys n_colours n_used c_code c_width c_height c_isTraced c_outlines_j174 c_points_j174 c_hasPolygon c_of c_corners c_costSum c_hasCurves c_curveCount c_sharp c_allowed f_froms_j174 f_sizes_j174 f_layersOf_j174 f_areas_j174 f_xs_j174 f_ys_j174 f_colours f_used_j174) → va_S A s.heap H locs → lv_has ls 12 [(0, .ref a_this), (1, .int x1_j174), (6, .int x6_j174), (10, .int x10_j174)] → W p l e (headSpec w_M_walk ({ frames := 5, cells := 0, slots := 0, locals := 123 })).room s m ([.ref a_this, .int x1, .int x2, .int x3, .int x4, .int x5] : List Value).toArray below meth c H locs 0 0 Qf (F0 m 174 ls []) := by
    intro x1_j174 x6_j174 x10_j174 c_outlines_j174 c_points_j174 f_froms_j174 f_sizes_j174 f_layersOf_j174 f_areas_j174 f_xs_j174 f_ys_j174 f_used_j174 H locs ls h hP hD hS hl
    unfold wp_M_walk_J174 at h
    refine lv_aload_n hx hb d_M_walk_174 rfl (lv_at hl 0 rfl) ?_
    refine va_get (D := (dC, dI)) (ci := 5) (v := .ref a_froms) (C := R_M) (T := F_M) (N := 32) hx hb hts i_M_in hown hK hP 0 rfl rfl 6 (by decide) (hts _ q_667) (fun _ h9 => h9) rfl d_M_walk_175 ?_
    refine lv_aload_n hx hb d_M_walk_178 rfl (lv_at hl 0 rfl) ?_
    refine va_get (D := (dC, dI)) (ci := 5) (v := .int c_outlines_j174) (C := R_M) (T := F_M) (N := 32) hx hb hts i_M_in hown hK hP 0 rfl rfl 5 (by decide) (hts _ q_666) (fun _ h9 => h9) rfl d_M_walk_179 ?_
    refine lv_iload hx hb d_M_walk_182 (lv_at hl 2 rfl) ?_
    obtain ⟨hin, h⟩ := h
    refine va_iast hx hb hK hP hD hS 1 0 rfl rfl hin d_M_walk_184 (fun H locs hP hD hS => ?_)
    obtain ⟨f184, e_f184⟩ : ∃ y : Nat → Int32, y = upd f_froms_j174 c_outlines_j174.toNatClampNeg x6_j174 := ⟨_, rfl⟩
    have h := h f184 e_f184
    have hP : va_P (dC, dI) vwCl (cw_M_walk cI cZ a_this a_froms a_sizes a_layersOf a_areas a_xs a_ys a_colours a_used a_cornerAt a_counts a_costs a_firsts a_manys a_fs a_px a_py a_groups a_joinF n_froms n_sizes n_layersOf n_areas n_xs n_ys n_colours n_used c_code c_width c_height c_isTraced c_outlines_j174 c_points_j174 c_hasPolygon c_of c_corners c_costSum c_hasCurves c_curveCount c_sharp c_allowed f184 f_sizes_j174 f_layersOf_j174 f_areas_j174 f_xs_j174 f_ys_j174 f_colours f_used_j174) H := by rw [e_f184]; exact hP
    have hD : va_D A (cw_M_walk cI cZ a_this a_froms a_sizes a_layersOf a_areas a_xs a_ys a_colours a_used a_cornerAt a_counts a_costs a_firsts a_manys a_fs a_px a_py a_groups a_joinF n_froms n_sizes n_layersOf n_areas n_xs n_ys n_colours n_used c_code c_width c_height c_isTraced c_outlines_j174 c_points_j174 c_hasPolygon c_of c_corners c_costSum c_hasCurves c_curveCount c_sharp c_allowed f184 f_sizes_j174 f_layersOf_j174 f_areas_j174 f_xs_j174 f_ys_j174 f_colours f_used_j174) := by rw [e_f184]; exact hD
    refine lv_aload_n hx hb d_M_walk_185 rfl (lv_at hl 0 rfl) ?_
    refine va_get (D := (dC, dI)) (ci := 5) (v := .ref a_sizes) (C := R_M) (T := F_M) (N := 32) hx hb hts i_M_in hown hK hP 0 rfl rfl 7 (by decide) (hts _ q_668) (fun _ h9 => h9) rfl d_M_walk_186 ?_
    refine lv_aload_n hx hb d_M_walk_189 rfl (lv_at hl 0 rfl) ?_
    refine va_get (D := (dC, dI)) (ci := 5) (v := .int c_outlines_j174) (C := R_M) (T := F_M) (N := 32) hx hb hts i_M_in hown hK hP 0 rfl rfl 5 (by decide) (hts _ q_666) (fun _ h9 => h9) rfl d_M_walk_190 ?_
    refine lv_aload_n hx hb d_M_walk_193 rfl (lv_at hl 0 rfl) ?_
    refine va_get (D := (dC, dI)) (ci := 5) (v := .int c_points_j174) (C := R_M) (T := F_M) (N := 32) hx hb hts i_M_in hown hK hP 0 rfl rfl 10 (by decide) (hts _ q_671) (fun _ h9 => h9) rfl d_M_walk_194 ?_
    refine lv_iload hx hb d_M_walk_197 (lv_at hl 2 rfl) ?_
    refine lv_isub hx hb d_M_walk_199 ?_
    obtain ⟨hin, h⟩ := h
    refine va_iast hx hb hK hP hD hS 2 0 rfl rfl hin d_M_walk_200 (fun H locs hP hD hS => ?_)
    obtain ⟨f200, e_f200⟩ : ∃ y : Nat → Int32, y = upd f_sizes_j174 c_outlines_j174.toNatClampNeg (c_points_j174 - x6_j174) := ⟨_, rfl⟩
    have h := h f200 e_f200
    have hP : va_P (dC, dI) vwCl (cw_M_walk cI cZ a_this a_froms a_sizes a_layersOf a_areas a_xs a_ys a_colours a_used a_cornerAt a_counts a_costs a_firsts a_manys a_fs a_px a_py a_groups a_joinF n_froms n_sizes n_layersOf n_areas n_xs n_ys n_colours n_used c_code c_width c_height c_isTraced c_outlines_j174 c_points_j174 c_hasPolygon c_of c_corners c_costSum c_hasCurves c_curveCount c_sharp c_allowed f184 f200 f_layersOf_j174 f_areas_j174 f_xs_j174 f_ys_j174 f_colours f_used_j174) H := by rw [e_f200]; exact hP
    have hD : va_D A (cw_M_walk cI cZ a_this a_froms a_sizes a_layersOf a_areas a_xs a_ys a_colours a_used a_cornerAt a_counts a_costs a_firsts a_manys a_fs a_px a_py a_groups a_joinF n_froms n_sizes n_layersOf n_areas n_xs n_ys n_colours n_used c_code c_width c_height c_isTraced c_outlines_j174 c_points_j174 c_hasPolygon c_of c_corners c_costSum c_hasCurves c_curveCount c_sharp c_allowed f184 f200 f_layersOf_j174 f_areas_j174 f_xs_j174 f_ys_j174 f_colours f_used_j174) := by rw [e_f200]; exact hD
    refine lv_aload_n hx hb d_M_walk_201 rfl (lv_at hl 0 rfl) ?_
    refine va_get (D := (dC, dI)) (ci := 5) (v := .ref a_layersOf) (C := R_M) (T := F_M) (N := 32) hx hb hts i_M_in hown hK hP 0 rfl rfl 8 (by decide) (hts _ q_669) (fun _ h9 => h9) rfl d_M_walk_202 ?_
    refine lv_aload_n hx hb d_M_walk_205 rfl (lv_at hl 0 rfl) ?_
    refine va_get (D := (dC, dI)) (ci := 5) (v := .int c_outlines_j174) (C := R_M) (T := F_M) (N := 32) hx hb hts i_M_in hown hK hP 0 rfl rfl 5 (by decide) (hts _ q_666) (fun _ h9 => h9) rfl d_M_walk_206 ?_
    refine lv_iload_n hx hb d_M_walk_209 rfl (lv_at hl 1 rfl) ?_
    obtain ⟨hin, h⟩ := h
    refine va_iast hx hb hK hP hD hS 3 0 rfl rfl hin d_M_walk_210 (fun H locs hP hD hS => ?_)
    obtain ⟨f210, e_f210⟩ : ∃ y : Nat → Int32, y = upd f_layersOf_j174 c_outlines_j174.toNatClampNeg x1_j174 := ⟨_, rfl⟩
    have h := h f210 e_f210
    have hP : va_P (dC, dI) vwCl (cw_M_walk cI cZ a_this a_froms a_sizes a_layersOf a_areas a_xs a_ys a_colours a_used a_cornerAt a_counts a_costs a_firsts a_manys a_fs a_px a_py a_groups a_joinF n_froms n_sizes n_layersOf n_areas n_xs n_ys n_colours n_used c_code c_width c_height c_isTraced c_outlines_j174 c_points_j174 c_hasPolygon c_of c_corners c_costSum c_hasCurves c_curveCount c_sharp c_allowed f184 f200 f210 f_areas_j174 f_xs_j174 f_ys_j174 f_colours f_used_j174) H := by rw [e_f210]; exact hP
    have hD : va_D A (cw_M_walk cI cZ a_this a_froms a_sizes a_layersOf a_areas a_xs a_ys a_colours a_used a_cornerAt a_counts a_costs a_firsts a_manys a_fs a_px a_py a_groups a_joinF n_froms n_sizes n_layersOf n_areas n_xs n_ys n_colours n_used c_code c_width c_height c_isTraced c_outlines_j174 c_points_j174 c_hasPolygon c_of c_corners c_costSum c_hasCurves c_curveCount c_sharp c_allowed f184 f200 f210 f_areas_j174 f_xs_j174 f_ys_j174 f_colours f_used_j174) := by rw [e_f210]; exact hD
    refine lv_aload_n hx hb d_M_walk_211 rfl (lv_at hl 0 rfl) ?_
    refine va_get (D := (dC, dI)) (ci := 5) (v := .ref a_areas) (C := R_M) (T := F_M) (N := 32) hx hb hts i_M_in hown hK hP 0 rfl rfl 9 (by decide) (hts _ q_670) (fun _ h9 => h9) rfl d_M_walk_212 ?_
    refine lv_aload_n hx hb d_M_walk_215 rfl (lv_at hl 0 rfl) ?_
    refine va_get (D := (dC, dI)) (ci := 5) (v := .int c_outlines_j174) (C := R_M) (T := F_M) (N := 32) hx hb hts i_M_in hown hK hP 0 rfl rfl 5 (by decide) (hts _ q_666) (fun _ h9 => h9) rfl d_M_walk_216 ?_
    refine lv_iload hx hb d_M_walk_219 (lv_at hl 3 rfl) ?_
    obtain ⟨hin, h⟩ := h
    refine va_iast hx hb hK hP hD hS 4 0 rfl rfl hin d_M_walk_221 (fun H locs hP hD hS => ?_)
    obtain ⟨f221, e_f221⟩ : ∃ y : Nat → Int32, y = upd f_areas_j174 c_outlines_j174.toNatClampNeg x10_j174 := ⟨_, rfl⟩
    have h := h f221 e_f221
    have hP : va_P (dC, dI) vwCl (cw_M_walk cI cZ a_this a_froms a_sizes a_layersOf a_areas a_xs a_ys a_colours a_used a_cornerAt a_counts a_costs a_firsts a_manys a_fs a_px a_py a_groups a_joinF n_froms n_sizes n_layersOf n_areas n_xs n_ys n_colours n_used c_code c_width c_height c_isTraced c_outlines_j174 c_points_j174 c_hasPolygon c_of c_corners c_costSum c_hasCurves c_curveCount c_sharp c_allowed f184 f200 f210 f221 f_xs_j174 f_ys_j174 f_colours f_used_j174) H := by rw [e_f221]; exact hP
    have hD : va_D A (cw_M_walk cI cZ a_this a_froms a_sizes a_layersOf a_areas a_xs a_ys a_colours a_used a_cornerAt a_counts a_costs a_firsts a_manys a_fs a_px a_py a_groups a_joinF n_froms n_sizes n_layersOf n_areas n_xs n_ys n_colours n_used c_code c_width c_height c_isTraced c_outlines_j174 c_points_j174 c_hasPolygon c_of c_corners c_costSum c_hasCurves c_curveCount c_sharp c_allowed f184 f200 f210 f221 f_xs_j174 f_ys_j174 f_colours f_used_j174) := by rw [e_f221]; exact hD
    refine lv_aload_n hx hb d_M_walk_222 rfl (lv_at hl 0 rfl) ?_
    refine lv_dup hx hb d_M_walk_223 rfl ?_
    refine va_get (D := (dC, dI)) (ci := 5) (v := .int c_outlines_j174) (C := R_M) (T := F_M) (N := 32) hx hb hts i_M_in hown hK hP 0 rfl rfl 5 (by decide) (hts _ q_666) (fun _ h9 => h9) rfl d_M_walk_224 ?_
    refine lv_iconst (v := 1) hx hb d_M_walk_227 (by decide) ?_
    refine lv_iadd hx hb d_M_walk_228 ?_
    refine lv_topi (fun v229 e_v229 => ?_)
    have h := h v229 e_v229
    refine va_put (D := (dC, dI)) (ci := 5) (v := .int v229) (ty := .int) (C := R_M) (T := F_M) (N := 32) hx hb hts i_M_in t_M t_M_ok n_M_ne hown hK hP hD hS 0 rfl rfl 5 (by decide) (hts _ q_666) (fun _ h9 => h9) rfl (by decide +kernel) (by rfl) (by rfl) (Nat.le_of_ble_eq_true rfl) d_M_walk_229 (fun H locs hP hD hS => ?_)
    have hP : va_P (dC, dI) vwCl (cw_M_walk cI cZ a_this a_froms a_sizes a_layersOf a_areas a_xs a_ys a_colours a_used a_cornerAt a_counts a_costs a_firsts a_manys a_fs a_px a_py a_groups a_joinF n_froms n_sizes n_layersOf n_areas n_xs n_ys n_colours n_used c_code c_width c_height c_isTraced v229 c_points_j174 c_hasPolygon c_of c_corners c_costSum c_hasCurves c_curveCount c_sharp c_allowed f184 f200 f210 f221 f_xs_j174 f_ys_j174 f_colours f_used_j174) H := hP
    have hD : va_D A (cw_M_walk cI cZ a_this a_froms a_sizes a_layersOf a_areas a_xs a_ys a_colours a_used a_cornerAt a_counts a_costs a_firsts a_manys a_fs a_px a_py a_groups a_joinF n_froms n_sizes n_layersOf n_areas n_xs n_ys n_colours n_used c_code c_width c_height c_isTraced v229 c_points_j174 c_hasPolygon c_of c_corners c_costSum c_hasCurves c_curveCount c_sharp c_allowed f184 f200 f210 f221 f_xs_j174 f_ys_j174 f_colours f_used_j174) := hD
    subst hQf
    exact W.vret hx hb hr (fun t ht hW => ⟨⟨(v229, c_points_j174, f184, f200, f210, f221, f_xs_j174, f_ys_j174, f_used_j174), rfl, h, by rw [ht]; exact hP, va_K.moved hW.alike hK, hD⟩, hS.F ht⟩) hS.2.2 d_M_walk_232
  refine lv_aload_n hx hb d_M_walk_0 rfl (lv_at hl 0 rfl) ?_
  refine va_get (D := (dC, dI)) (ci := 5) (v := .int c_points) (C := R_M) (T := F_M) (N := 32) hx hb hts i_M_in hown hK hP 0 rfl rfl 10 (by decide) (hts _ q_671) (fun _ h9 => h9) rfl d_M_walk_1 ?_
  refine lv_istore (lv' := [(6, .int c_points), (0, .ref a_this), (1, .int x1), (2, .int x2), (3, .int x3), (4, .int x4), (5, .int x5)]) hx hb d_M_walk_4 hl (by decide) rfl (fun ls hl => ?_)
  refine lv_iload_n hx hb d_M_walk_6 rfl (lv_at hl 3 rfl) ?_
  refine lv_istore (lv' := [(7, .int x2), (6, .int c_points), (0, .ref a_this), (1, .int x1), (2, .int x2), (3, .int x3), (4, .int x4), (5, .int x5)]) hx hb d_M_walk_7 hl (by decide) rfl (fun ls hl => ?_)
  refine lv_iload_n hx hb d_M_walk_9 rfl (lv_at hl 5 rfl) ?_
  refine lv_istore (lv' := [(8, .int x3), (7, .int x2), (6, .int c_points), (0, .ref a_this), (1, .int x1), (2, .int x2), (3, .int x3), (4, .int x4), (5, .int x5)]) hx hb d_M_walk_10 hl (by decide) rfl (fun ls hl => ?_)
  refine lv_iconst (v := 0) hx hb d_M_walk_12 (by decide) ?_
  refine lv_istore (lv' := [(9, .int (0 : Int32)), (8, .int x3), (7, .int x2), (6, .int c_points), (0, .ref a_this), (1, .int x1), (2, .int x2), (3, .int x3), (4, .int x4), (5, .int x5)]) hx hb d_M_walk_13 hl (by decide) rfl (fun ls hl => ?_)
  refine lv_iconst (v := 0) hx hb d_M_walk_15 (by decide) ?_
  refine lv_istore (lv' := [(10, .int (0 : Int32)), (9, .int (0 : Int32)), (8, .int x3), (7, .int x2), (6, .int c_points), (0, .ref a_this), (1, .int x1), (2, .int x2), (3, .int x3), (4, .int x4), (5, .int x5)]) hx hb d_M_walk_16 hl (by decide) rfl (fun ls hl => ?_)
  refine lv_iconst (v := 1) hx hb d_M_walk_18 (by decide) ?_
  refine lv_istore (lv' := [(11, .int (1 : Int32)), (10, .int (0 : Int32)), (9, .int (0 : Int32)), (8, .int x3), (7, .int x2), (6, .int c_points), (0, .ref a_this), (1, .int x1), (2, .int x2), (3, .int x3), (4, .int x4), (5, .int x5)]) hx hb d_M_walk_19 hl (by decide) rfl (fun ls hl => ?_)
  refine lpW_ind (Wp := fun z => ∀ (H : Heap) (locs : List Loc) (ls : Array Slot), va_P (dC, dI) vwCl (cw_M_walk cI cZ a_this a_froms a_sizes a_layersOf a_areas a_xs a_ys a_colours a_used a_cornerAt a_counts a_costs a_firsts a_manys a_fs a_px a_py a_groups a_joinF n_froms n_sizes n_layersOf n_areas n_xs n_ys n_colours n_used c_code c_width c_height c_isTraced c_outlines z.2.2.2.2.2.1 c_hasPolygon c_of c_corners c_costSum c_hasCurves c_curveCount c_sharp c_allowed f_froms f_sizes f_layersOf f_areas z.2.2.2.2.2.2.1 z.2.2.2.2.2.2.2.1 f_colours z.2.2.2.2.2.2.2.2) H → va_D A (cw_M_walk cI cZ a_this a_froms a_sizes a_layersOf a_areas a_xs a_ys a_colours a_used a_cornerAt a_counts a_costs a_firsts a_manys a_fs a_px a_py a_groups a_joinF n_froms n_sizes n_layersOf n_areas n_xs n_ys n_colours n_used c_code c_width c_height c_isTraced c_outlines z.2.2.2.2.2.1 c_hasPolygon c_of c_corners c_costSum c_hasCurves c_curveCount c_sharp c_allowed f_froms f_sizes f_layersOf f_areas z.2.2.2.2.2.2.1 z.2.2.2.2.2.2.2.1 f_colours z.2.2.2.2.2.2.2.2) → va_S A s.heap H locs → lv_has ls 12 [(0, .ref a_this), (1, .int x1), (2, .int x2), (3, .int x3), (4, .int x4), (5, .int x5), (6, .int c_points), (7, .int z.1), (8, .int z.2.1), (9, .int z.2.2.1), (10, .int z.2.2.2.1), (11, .int z.2.2.2.2.1)] → W p l e (headSpec w_M_walk ({ frames := 5, cells := 0, slots := 0, locals := 123 })).room s m ([.ref a_this, .int x1, .int x2, .int x3, .int x4, .int x5] : List Value).toArray below meth c H locs 0 0 Qf (F0 m 21 ls [])) h ?_ _ _ _ hP hD hS (lv_sub hl [6, 7, 8, 9, 10, 11, 5, 4, 3, 2, 1, 0] rfl)
  rintro ⟨x7_l21, x8_l21, x9_l21, x10_l21, x11_l21, c_points_l21, f_xs_l21, f_ys_l21, f_used_l21⟩ back21 h hb21 H locs ls hP hD hS hl
  have h : wp_M_walk_L21 n_froms n_sizes n_layersOf n_areas n_xs n_ys n_colours n_used c_width c_height f_colours c_outlines f_froms f_sizes f_layersOf f_areas x1 x2 x3 x4 x5 c_points post back21 x7_l21 x8_l21 x9_l21 x10_l21 x11_l21 c_points_l21 f_xs_l21 f_ys_l21 f_used_l21 := h
  have hP : va_P (dC, dI) vwCl (cw_M_walk cI cZ a_this a_froms a_sizes a_layersOf a_areas a_xs a_ys a_colours a_used a_cornerAt a_counts a_costs a_firsts a_manys a_fs a_px a_py a_groups a_joinF n_froms n_sizes n_layersOf n_areas n_xs n_ys n_colours n_used c_code c_width c_height c_isTraced c_outlines c_points_l21 c_hasPolygon c_of c_corners c_costSum c_hasCurves c_curveCount c_sharp c_allowed f_froms f_sizes f_layersOf f_areas f_xs_l21 f_ys_l21 f_colours f_used_l21) H := hP
  have hD : va_D A (cw_M_walk cI cZ a_this a_froms a_sizes a_layersOf a_areas a_xs a_ys a_colours a_used a_cornerAt a_counts a_costs a_firsts a_manys a_fs a_px a_py a_groups a_joinF n_froms n_sizes n_layersOf n_areas n_xs n_ys n_colours n_used c_code c_width c_height c_isTraced c_outlines c_points_l21 c_hasPolygon c_of c_corners c_costSum c_hasCurves c_curveCount c_sharp c_allowed f_froms f_sizes f_layersOf f_areas f_xs_l21 f_ys_l21 f_colours f_used_l21) := hD
  have hl : lv_has ls 12 [(0, .ref a_this), (1, .int x1), (2, .int x2), (3, .int x3), (4, .int x4), (5, .int x5), (6, .int c_points), (7, .int x7_l21), (8, .int x8_l21), (9, .int x9_l21), (10, .int x10_l21), (11, .int x11_l21)] := hl
  unfold wp_M_walk_L21 at h
  have J147 : ∀ (x7_j147 : Int32) (x8_j147 : Int32) (x9_j147 : Int32) (x10_j147 : Int32) (y0_j147 : Int32) (c_points_j147 : Int32) (f_xs_j147 : Nat → Int32) (f_ys_j147 : Nat → Int32) (f_used_j147 : Nat → Int32) (H : Heap) (locs : List Loc) (ls : Array Slot), wp_M_walk_J147 n_froms n_sizes n_layersOf n_areas n_xs n_ys n_colours n_used c_width c_height f_colours c_outlines c_points_j147 f_froms f_sizes f_layersOf f_areas f_xs_j147 f_ys_j147 f_used_j147 x1 x2 x3 x4 x5 c_points x7_j147 x8_j147 x9_j147 x10_j147 y0_j147 back21 post → va_P (dC, dI) vwCl (cw_M_walk cI cZ a_this a_froms a_sizes a_layersOf a_areas a_xs a_ys a_colours a_used a_cornerAt a_counts a_costs a_firsts a_manys a_fs a_px a_py a_groups a_joinF n_froms n_sizes n_layersOf n_areas n_xs n_ys n_colours n_used c_code c_width c_height c_isTraced c_outlines c_points_j147 c_hasPolygon c_of c_corners c_costSum c_hasCurves c_curveCount c_sharp c_allowed f_froms f_sizes f_layersOf f_areas f_xs_j147 f_ys_j147 f_colours f_used_j147) H → va_D A (cw_M_walk cI cZ a_this a_froms a_sizes a_layersOf a_areas a_xs a_ys a_colours a_used a_cornerAt a_counts a_costs a_firsts a_manys a_fs a_px a_py a_groups a_joinF n_froms n_sizes n_layersOf n_areas n_xs n_ys n_colours n_used c_code c_width c_height c_isTraced c_outlines c_points_j147 c_hasPolygon c_of c_corners c_costSum c_hasCurves c_curveCount c_sharp c_allowed f_froms f_sizes f_layersOf f_areas f_xs_j147 f_ys_j147 f_colours f_used_j147) → va_S A s.heap H locs → lv_has ls 12 [(0, .ref a_this), (1, .int x1), (2, .int x2), (3, .int x3), (4, .int x4), (5, .int x5), (6, .int c_points), (7, .int x7_j147), (8, .int x8_j147), (9, .int x9_j147), (10, .int x10_j147)] → W p l e (headSpec w_M_walk ({ frames := 5, cells := 0, slots := 0, locals := 123 })).room s m ([.ref a_this, .int x1, .int x2, .int x3, .int x4, .int x5] : List Value).toArray below meth c H locs 0 0 Qf (F0 m 147 ls [.int y0_j147]) := by
    intro x7_j147 x8_j147 x9_j147 x10_j147 y0_j147 c_points_j147 f_xs_j147 f_ys_j147 f_used_j147 H locs ls h hP hD hS hl
    unfold wp_M_walk_J147 at h
    refine lv_istore (lv' := [(11, .int y0_j147), (0, .ref a_this), (1, .int x1), (2, .int x2), (3, .int x3), (4, .int x4), (5, .int x5), (6, .int c_points), (7, .int x7_j147), (8, .int x8_j147), (9, .int x9_j147), (10, .int x10_j147)]) hx hb d_M_walk_147 hl (by decide) rfl (fun ls hl => ?_)
    refine lv_goto (tgt := 21) hx hb d_M_walk_149 (by decide) ?_
    exact hb21 _ h _ _ _ hP hD hS (lv_sub hl [1, 2, 3, 4, 5, 6, 7, 8, 9, 10, 11, 0] rfl)
  have J142 : ∀ (x7_j142 : Int32) (x8_j142 : Int32) (x9_j142 : Int32) (x10_j142 : Int32) (c_points_j142 : Int32) (f_xs_j142 : Nat → Int32) (f_ys_j142 : Nat → Int32) (f_used_j142 : Nat → Int32) (H : Heap) (locs : List Loc) (ls : Array Slot), wp_M_walk_J142 n_froms n_sizes n_layersOf n_areas n_xs n_ys n_colours n_used c_width c_height f_colours c_outlines c_points_j142 f_froms f_sizes f_layersOf f_areas f_xs_j142 f_ys_j142 f_used_j142 x1 x2 x3 x4 x5 c_points x7_j142 x8_j142 x9_j142 x10_j142 back21 post → va_P (dC, dI) vwCl (cw_M_walk cI cZ a_this a_froms a_sizes a_layersOf a_areas a_xs a_ys a_colours a_used a_cornerAt a_counts a_costs a_firsts a_manys a_fs a_px a_py a_groups a_joinF n_froms n_sizes n_layersOf n_areas n_xs n_ys n_colours n_used c_code c_width c_height c_isTraced c_outlines c_points_j142 c_hasPolygon c_of c_corners c_costSum c_hasCurves c_curveCount c_sharp c_allowed f_froms f_sizes f_layersOf f_areas f_xs_j142 f_ys_j142 f_colours f_used_j142) H → va_D A (cw_M_walk cI cZ a_this a_froms a_sizes a_layersOf a_areas a_xs a_ys a_colours a_used a_cornerAt a_counts a_costs a_firsts a_manys a_fs a_px a_py a_groups a_joinF n_froms n_sizes n_layersOf n_areas n_xs n_ys n_colours n_used c_code c_width c_height c_isTraced c_outlines c_points_j142 c_hasPolygon c_of c_corners c_costSum c_hasCurves c_curveCount c_sharp c_allowed f_froms f_sizes f_layersOf f_areas f_xs_j142 f_ys_j142 f_colours f_used_j142) → va_S A s.heap H locs → lv_has ls 12 [(0, .ref a_this), (1, .int x1), (2, .int x2), (3, .int x3), (4, .int x4), (5, .int x5), (6, .int c_points), (7, .int x7_j142), (8, .int x8_j142), (9, .int x9_j142), (10, .int x10_j142)] → W p l e (headSpec w_M_walk ({ frames := 5, cells := 0, slots := 0, locals := 123 })).room s m ([.ref a_this, .int x1, .int x2, .int x3, .int x4, .int x5] : List Value).toArray below meth c H locs 0 0 Qf (F0 m 142 ls []) := by
    intro x7_j142 x8_j142 x9_j142 x10_j142 c_points_j142 f_xs_j142 f_ys_j142 f_used_j142 H locs ls h hP hD hS hl
    unfold wp_M_walk_J142 at h
    refine lv_iconst (v := 1) hx hb d_M_walk_142 (by decide) ?_
    refine lv_goto (tgt := 147) hx hb d_M_walk_143 (by decide) ?_
    exact J147 x7_j142 x8_j142 x9_j142 x10_j142 (1 : Int32) c_points_j142 f_xs_j142 f_ys_j142 f_used_j142 _ _ _ h hP hD hS (lv_sub hl [0, 1, 2, 3, 4, 5, 6, 7, 8, 9, 10] rfl)
  have J45 : ∀ (x7_j45 : Int32) (x8_j45 : Int32) (x9_j45 : Int32) (x10_j45 : Int32) (c_points_j45 : Int32) (f_xs_j45 : Nat → Int32) (f_ys_j45 : Nat → Int32) (f_used_j45 : Nat → Int32) (H : Heap) (locs : List Loc) (ls : Array Slot), wp_M_walk_J45 n_froms n_sizes n_layersOf n_areas n_xs n_ys n_colours n_used c_width c_height f_colours c_outlines c_points_j45 f_froms f_sizes f_layersOf f_areas f_xs_j45 f_ys_j45 f_used_j45 x1 x2 x3 x4 x5 c_points x7_j45 x8_j45 x9_j45 x10_j45 back21 post → va_P (dC, dI) vwCl (cw_M_walk cI cZ a_this a_froms a_sizes a_layersOf a_areas a_xs a_ys a_colours a_used a_cornerAt a_counts a_costs a_firsts a_manys a_fs a_px a_py a_groups a_joinF n_froms n_sizes n_layersOf n_areas n_xs n_ys n_colours n_used c_code c_width c_height c_isTraced c_outlines c_points_j45 c_hasPolygon c_of c_corners c_costSum c_hasCurves c_curveCount c_sharp c_allowed f_froms f_sizes f_layersOf f_areas f_xs_j45 f_ys_j45 f_colours f_used_j45) H → va_D A (cw_M_walk cI cZ a_this a_froms a_sizes a_layersOf a_areas a_xs a_ys a_colours a_used a_cornerAt a_counts a_costs a_firsts a_manys a_fs a_px a_py a_groups a_joinF n_froms n_sizes n_layersOf n_areas n_xs n_ys n_colours n_used c_code c_width c_height c_isTraced c_outlines c_points_j45 c_hasPolygon c_of c_corners c_costSum c_hasCurves c_curveCount c_sharp c_allowed f_froms f_sizes f_layersOf f_areas f_xs_j45 f_ys_j45 f_colours f_used_j45) → va_S A s.heap H locs → lv_has ls 12 [(0, .ref a_this), (1, .int x1), (2, .int x2), (3, .int x3), (4, .int x4), (5, .int x5), (6, .int c_points), (7, .int x7_j45), (8, .int x8_j45), (9, .int x9_j45), (10, .int x10_j45)] → W p l e (headSpec w_M_walk ({ frames := 5, cells := 0, slots := 0, locals := 123 })).room s m ([.ref a_this, .int x1, .int x2, .int x3, .int x4, .int x5] : List Value).toArray below meth c H locs 0 0 Qf (F0 m 45 ls []) := by
    intro x7_j45 x8_j45 x9_j45 x10_j45 c_points_j45 f_xs_j45 f_ys_j45 f_used_j45 H locs ls h hP hD hS hl
    unfold wp_M_walk_J45 at h
    refine lv_aload_n hx hb d_M_walk_45 rfl (lv_at hl 0 rfl) ?_
    refine va_get (D := (dC, dI)) (ci := 5) (v := .ref a_xs) (C := R_M) (T := F_M) (N := 32) hx hb hts i_M_in hown hK hP 0 rfl rfl 11 (by decide) (hts _ q_672) (fun _ h9 => h9) rfl d_M_walk_46 ?_
    refine lv_aload_n hx hb d_M_walk_49 rfl (lv_at hl 0 rfl) ?_
    refine va_get (D := (dC, dI)) (ci := 5) (v := .int c_points_j45) (C := R_M) (T := F_M) (N := 32) hx hb hts i_M_in hown hK hP 0 rfl rfl 10 (by decide) (hts _ q_671) (fun _ h9 => h9) rfl d_M_walk_50 ?_
    refine lv_iload hx hb d_M_walk_53 (lv_at hl 7 rfl) ?_
    obtain ⟨hin, h⟩ := h
    refine va_iast hx hb hK hP hD hS 5 0 rfl rfl hin d_M_walk_55 (fun H locs hP hD hS => ?_)
    obtain ⟨f55, e_f55⟩ : ∃ y : Nat → Int32, y = upd f_xs_j45 c_points_j45.toNatClampNeg x7_j45 := ⟨_, rfl⟩
    have h := h f55 e_f55
    have hP : va_P (dC, dI) vwCl (cw_M_walk cI cZ a_this a_froms a_sizes a_layersOf a_areas a_xs a_ys a_colours a_used a_cornerAt a_counts a_costs a_firsts a_manys a_fs a_px a_py a_groups a_joinF n_froms n_sizes n_layersOf n_areas n_xs n_ys n_colours n_used c_code c_width c_height c_isTraced c_outlines c_points_j45 c_hasPolygon c_of c_corners c_costSum c_hasCurves c_curveCount c_sharp c_allowed f_froms f_sizes f_layersOf f_areas f55 f_ys_j45 f_colours f_used_j45) H := by rw [e_f55]; exact hP
    have hD : va_D A (cw_M_walk cI cZ a_this a_froms a_sizes a_layersOf a_areas a_xs a_ys a_colours a_used a_cornerAt a_counts a_costs a_firsts a_manys a_fs a_px a_py a_groups a_joinF n_froms n_sizes n_layersOf n_areas n_xs n_ys n_colours n_used c_code c_width c_height c_isTraced c_outlines c_points_j45 c_hasPolygon c_of c_corners c_costSum c_hasCurves c_curveCount c_sharp c_allowed f_froms f_sizes f_layersOf f_areas f55 f_ys_j45 f_colours f_used_j45) := by rw [e_f55]; exact hD
    refine lv_aload_n hx hb d_M_walk_56 rfl (lv_at hl 0 rfl) ?_
    refine va_get (D := (dC, dI)) (ci := 5) (v := .ref a_ys) (C := R_M) (T := F_M) (N := 32) hx hb hts i_M_in hown hK hP 0 rfl rfl 12 (by decide) (hts _ q_673) (fun _ h9 => h9) rfl d_M_walk_57 ?_
    refine lv_aload_n hx hb d_M_walk_60 rfl (lv_at hl 0 rfl) ?_
    refine va_get (D := (dC, dI)) (ci := 5) (v := .int c_points_j45) (C := R_M) (T := F_M) (N := 32) hx hb hts i_M_in hown hK hP 0 rfl rfl 10 (by decide) (hts _ q_671) (fun _ h9 => h9) rfl d_M_walk_61 ?_
    refine lv_iload hx hb d_M_walk_64 (lv_at hl 8 rfl) ?_
    obtain ⟨hin, h⟩ := h
    refine va_iast hx hb hK hP hD hS 6 0 rfl rfl hin d_M_walk_66 (fun H locs hP hD hS => ?_)
    obtain ⟨f66, e_f66⟩ : ∃ y : Nat → Int32, y = upd f_ys_j45 c_points_j45.toNatClampNeg x8_j45 := ⟨_, rfl⟩
    have h := h f66 e_f66
    have hP : va_P (dC, dI) vwCl (cw_M_walk cI cZ a_this a_froms a_sizes a_layersOf a_areas a_xs a_ys a_colours a_used a_cornerAt a_counts a_costs a_firsts a_manys a_fs a_px a_py a_groups a_joinF n_froms n_sizes n_layersOf n_areas n_xs n_ys n_colours n_used c_code c_width c_height c_isTraced c_outlines c_points_j45 c_hasPolygon c_of c_corners c_costSum c_hasCurves c_curveCount c_sharp c_allowed f_froms f_sizes f_layersOf f_areas f55 f66 f_colours f_used_j45) H := by rw [e_f66]; exact hP
    have hD : va_D A (cw_M_walk cI cZ a_this a_froms a_sizes a_layersOf a_areas a_xs a_ys a_colours a_used a_cornerAt a_counts a_costs a_firsts a_manys a_fs a_px a_py a_groups a_joinF n_froms n_sizes n_layersOf n_areas n_xs n_ys n_colours n_used c_code c_width c_height c_isTraced c_outlines c_points_j45 c_hasPolygon c_of c_corners c_costSum c_hasCurves c_curveCount c_sharp c_allowed f_froms f_sizes f_layersOf f_areas f55 f66 f_colours f_used_j45) := by rw [e_f66]; exact hD
    refine lv_aload_n hx hb d_M_walk_67 rfl (lv_at hl 0 rfl) ?_
    refine lv_dup hx hb d_M_walk_68 rfl ?_
    refine va_get (D := (dC, dI)) (ci := 5) (v := .int c_points_j45) (C := R_M) (T := F_M) (N := 32) hx hb hts i_M_in hown hK hP 0 rfl rfl 10 (by decide) (hts _ q_671) (fun _ h9 => h9) rfl d_M_walk_69 ?_
    refine lv_iconst (v := 1) hx hb d_M_walk_72 (by decide) ?_
    refine lv_iadd hx hb d_M_walk_73 ?_
    refine lv_topi (fun v74 e_v74 => ?_)
    have h := h v74 e_v74
    refine va_put (D := (dC, dI)) (ci := 5) (v := .int v74) (ty := .int) (C := R_M) (T := F_M) (N := 32) hx hb hts i_M_in t_M t_M_ok n_M_ne hown hK hP hD hS 0 rfl rfl 10 (by decide) (hts _ q_671) (fun _ h9 => h9) rfl (by decide +kernel) (by rfl) (by rfl) (Nat.le_of_ble_eq_true rfl) d_M_walk_74 (fun H locs hP hD hS => ?_)
    have hP : va_P (dC, dI) vwCl (cw_M_walk cI cZ a_this a_froms a_sizes a_layersOf a_areas a_xs a_ys a_colours a_used a_cornerAt a_counts a_costs a_firsts a_manys a_fs a_px a_py a_groups a_joinF n_froms n_sizes n_layersOf n_areas n_xs n_ys n_colours n_used c_code c_width c_height c_isTraced c_outlines v74 c_hasPolygon c_of c_corners c_costSum c_hasCurves c_curveCount c_sharp c_allowed f_froms f_sizes f_layersOf f_areas f55 f66 f_colours f_used_j45) H := hP
    have hD : va_D A (cw_M_walk cI cZ a_this a_froms a_sizes a_layersOf a_areas a_xs a_ys a_colours a_used a_cornerAt a_counts a_costs a_firsts a_manys a_fs a_px a_py a_groups a_joinF n_froms n_sizes n_layersOf n_areas n_xs n_ys n_colours n_used c_code c_width c_height c_isTraced c_outlines v74 c_hasPolygon c_of c_corners c_costSum c_hasCurves c_curveCount c_sharp c_allowed f_froms f_sizes f_layersOf f_areas f55 f66 f_colours f_used_j45) := hD
    refine lv_iload hx hb d_M_walk_77 (lv_at hl 10 rfl) ?_
    refine lv_iload hx hb d_M_walk_79 (lv_at hl 7 rfl) ?_
    refine lv_iload hx hb d_M_walk_81 (lv_at hl 9 rfl) ?_
    obtain ⟨Q83, hq83, h⟩ := h
    have hPc := hP.sub (ws' := (cw_M_stepY)) [] rfl
    have hDc := hD.sub (ws' := (cw_M_stepY)) [] (by decide) rfl
    have hFc := va_free (wc := (cw_M_stepY)) hD hS hA [] rfl
    refine va_calli (va_runS (As := [.int x9_j45]) (rest := [.int x7_j45, .int x10_j45]) ⟨hx, hb, hml, hown, hts⟩ (c_M_stepY l dC dI cI cB cJ cZ H.size x9_j45 Q83 hq83) (va_cwS 1 hts (goodS q_794 q_795 q_7 q_796) rfl rfl rfl (by decide +kernel) ⟨Nat.le_of_ble_eq_true rfl, Nat.le_of_ble_eq_true rfl⟩) ⟨fun a U g mk q => by obtain ⟨q0, q1, qP, qK, qD⟩ := q; exact ⟨q0, q1, qP, va_K.moved (u := U) (U := U.calling g mk a) (Vm.Alike.refl U.vm) qK, qD⟩, fun U hU hW => ⟨rfl, by rw [hU], by rw [hU]; exact hPc, va_K.moved hW.alike hK, hDc.weaken (fun _ _ _ _ => trivial)⟩⟩ rfl rfl hl.1 rfl (lv_room (Nat.le_of_ble_eq_true rfl)) d_M_walk_83 ⟨Nat.le_of_ble_eq_true rfl, Nat.le_of_ble_eq_true rfl⟩) hS (fun q _ h => hFc q h) hFc (fun r83 u83 t H1 locs ht hvm hw hB hz1 hk1 hS => ?_)
    cases u83
    obtain ⟨hP1, -, hD1⟩ := hB
    rw [ht] at hP1
    have h := h r83 hw
    obtain ⟨hP, hD⟩ := va_join (wr := [(a_this, .inr (5, [.int c_code, .int c_width, .int c_height, .ref a_colours, .int c_isTraced, .int c_outlines, .ref a_froms, .ref a_sizes, .ref a_layersOf, .ref a_areas, .int v74, .ref a_xs, .ref a_ys, .ref a_used, .int c_hasPolygon, .int c_of, .int c_corners, .int c_costSum, .ref a_cornerAt, .ref a_counts, .ref a_costs, .int c_hasCurves, .int c_curveCount, .ref a_firsts, .ref a_manys, .ref a_fs, .int c_sharp, .int c_allowed, .ref a_px, .ref a_py, .ref a_groups, .ref a_joinF])), (a_froms, .inl (cI, n_froms, .inl f_froms)), (a_sizes, .inl (cI, n_sizes, .inl f_sizes)), (a_layersOf, .inl (cI, n_layersOf, .inl f_layersOf)), (a_areas, .inl (cI, n_areas, .inl f_areas)), (a_xs, .inl (cI, n_xs, .inl f55)), (a_ys, .inl (cI, n_ys, .inl f66)), (a_colours, .inl (cI, n_colours, .inl f_colours)), (a_used, .inl (cZ, n_used, .inl f_used_j45))]) (w1 := (cw_M_stepY)) hP hD [] [0, 1, 2, 3, 4, 5, 6, 7, 8] rfl rfl (by decide) (by decide) hk1 hFc hP1 hD1
    clear hP1 hD1 hk1 hPc hDc hFc
    generalize H1 = H at hP hS ⊢
    have hP : va_P (dC, dI) vwCl (cw_M_walk cI cZ a_this a_froms a_sizes a_layersOf a_areas a_xs a_ys a_colours a_used a_cornerAt a_counts a_costs a_firsts a_manys a_fs a_px a_py a_groups a_joinF n_froms n_sizes n_layersOf n_areas n_xs n_ys n_colours n_used c_code c_width c_height c_isTraced c_outlines v74 c_hasPolygon c_of c_corners c_costSum c_hasCurves c_curveCount c_sharp c_allowed f_froms f_sizes f_layersOf f_areas f55 f66 f_colours f_used_j45) H := hP.sub [0, 1, 2, 3, 4, 5, 6, 7, 8] rfl
    have hD : va_D A (cw_M_walk cI cZ a_this a_froms a_sizes a_layersOf a_areas a_xs a_ys a_colours a_used a_cornerAt a_counts a_costs a_firsts a_manys a_fs a_px a_py a_groups a_joinF n_froms n_sizes n_layersOf n_areas n_xs n_ys n_colours n_used c_code c_width c_height c_isTraced c_outlines v74 c_hasPolygon c_of c_corners c_costSum c_hasCurves c_curveCount c_sharp c_allowed f_froms f_sizes f_layersOf f_areas f55 f66 f_colours f_used_j45) := hD.sub [0, 1, 2, 3, 4, 5, 6, 7, 8] (by decide) rfl
    refine lv_imul hx hb d_M_walk_86 ?_
    refine lv_iadd hx hb d_M_walk_87 ?_
    refine lv_topi (fun x10_88 e_x10_88 => ?_)
    have h := h x10_88 e_x10_88
    refine lv_istore (lv' := [(10, .int x10_88), (0, .ref a_this), (1, .int x1), (2, .int x2), (3, .int x3), (4, .int x4), (5, .int x5), (6, .int c_points), (7, .int x7_j45), (8, .int x8_j45), (9, .int x9_j45)]) hx hb d_M_walk_88 hl (by decide) rfl (fun ls hl => ?_)
    refine lv_iload hx hb d_M_walk_90 (lv_at hl 8 rfl) ?_
    refine lv_iload hx hb d_M_walk_92 (lv_at hl 10 rfl) ?_
    obtain ⟨Q94, hq94, h⟩ := h
    have hPc := hP.sub (ws' := (cw_M_stepX)) [] rfl
    have hDc := hD.sub (ws' := (cw_M_stepX)) [] (by decide) rfl
    have hFc := va_free (wc := (cw_M_stepX)) hD hS hA [] rfl
    refine va_calli (va_runS (As := [.int x9_j45]) (rest := [.int x7_j45]) ⟨hx, hb, hml, hown, hts⟩ (c_M_stepX l dC dI cI cB cJ cZ H.size x9_j45 Q94 hq94) (va_cwS 1 hts (goodS q_797 q_798 q_7 q_799) rfl rfl rfl (by decide +kernel) ⟨Nat.le_of_ble_eq_true rfl, Nat.le_of_ble_eq_true rfl⟩) ⟨fun a U g mk q => by obtain ⟨q0, q1, qP, qK, qD⟩ := q; exact ⟨q0, q1, qP, va_K.moved (u := U) (U := U.calling g mk a) (Vm.Alike.refl U.vm) qK, qD⟩, fun U hU hW => ⟨rfl, by rw [hU], by rw [hU]; exact hPc, va_K.moved hW.alike hK, hDc.weaken (fun _ _ _ _ => trivial)⟩⟩ rfl rfl hl.1 rfl (lv_room (Nat.le_of_ble_eq_true rfl)) d_M_walk_94 ⟨Nat.le_of_ble_eq_true rfl, Nat.le_of_ble_eq_true rfl⟩) hS (fun q _ h => hFc q h) hFc (fun r94 u94 t H1 locs ht hvm hw hB hz1 hk1 hS => ?_)
    cases u94
    obtain ⟨hP1, -, hD1⟩ := hB
    rw [ht] at hP1
    have h := h r94 hw
    obtain ⟨hP, hD⟩ := va_join (wr := [(a_this, .inr (5, [.int c_code, .int c_width, .int c_height, .ref a_colours, .int c_isTraced, .int c_outlines, .ref a_froms, .ref a_sizes, .ref a_layersOf, .ref a_areas, .int v74, .ref a_xs, .ref a_ys, .ref a_used, .int c_hasPolygon, .int c_of, .int c_corners, .int c_costSum, .ref a_cornerAt, .ref a_counts, .ref a_costs, .int c_hasCurves, .int c_curveCount, .ref a_firsts, .ref a_manys, .ref a_fs, .int c_sharp, .int c_allowed, .ref a_px, .ref a_py, .ref a_groups, .ref a_joinF])), (a_froms, .inl (cI, n_froms, .inl f_froms)), (a_sizes, .inl (cI, n_sizes, .inl f_sizes)), (a_layersOf, .inl (cI, n_layersOf, .inl f_layersOf)), (a_areas, .inl (cI, n_areas, .inl f_areas)), (a_xs, .inl (cI, n_xs, .inl f55)), (a_ys, .inl (cI, n_ys, .inl f66)), (a_colours, .inl (cI, n_colours, .inl f_colours)), (a_used, .inl (cZ, n_used, .inl f_used_j45))]) (w1 := (cw_M_stepX)) hP hD [] [0, 1, 2, 3, 4, 5, 6, 7, 8] rfl rfl (by decide) (by decide) hk1 hFc hP1 hD1
    clear hP1 hD1 hk1 hPc hDc hFc
    generalize H1 = H at hP hS ⊢
    have hP : va_P (dC, dI) vwCl (cw_M_walk cI cZ a_this a_froms a_sizes a_layersOf a_areas a_xs a_ys a_colours a_used a_cornerAt a_counts a_costs a_firsts a_manys a_fs a_px a_py a_groups a_joinF n_froms n_sizes n_layersOf n_areas n_xs n_ys n_colours n_used c_code c_width c_height c_isTraced c_outlines v74 c_hasPolygon c_of c_corners c_costSum c_hasCurves c_curveCount c_sharp c_allowed f_froms f_sizes f_layersOf f_areas f55 f66 f_colours f_used_j45) H := hP.sub [0, 1, 2, 3, 4, 5, 6, 7, 8] rfl
    have hD : va_D A (cw_M_walk cI cZ a_this a_froms a_sizes a_layersOf a_areas a_xs a_ys a_colours a_used a_cornerAt a_counts a_costs a_firsts a_manys a_fs a_px a_py a_groups a_joinF n_froms n_sizes n_layersOf n_areas n_xs n_ys n_colours n_used c_code c_width c_height c_isTraced c_outlines v74 c_hasPolygon c_of c_corners c_costSum c_hasCurves c_curveCount c_sharp c_allowed f_froms f_sizes f_layersOf f_areas f55 f66 f_colours f_used_j45) := hD.sub [0, 1, 2, 3, 4, 5, 6, 7, 8] (by decide) rfl
    refine lv_iadd hx hb d_M_walk_97 ?_
    refine lv_topi (fun x7_98 e_x7_98 => ?_)
    have h := h x7_98 e_x7_98
    refine lv_istore (lv' := [(7, .int x7_98), (10, .int x10_88), (0, .ref a_this), (1, .int x1), (2, .int x2), (3, .int x3), (4, .int x4), (5, .int x5), (6, .int c_points), (8, .int x8_j45), (9, .int x9_j45)]) hx hb d_M_walk_98 hl (by decide) rfl (fun ls hl => ?_)
    refine lv_iload hx hb d_M_walk_100 (lv_at hl 9 rfl) ?_
    refine lv_iload hx hb d_M_walk_102 (lv_at hl 10 rfl) ?_
    obtain ⟨Q104, hq104, h⟩ := h
    have hPc := hP.sub (ws' := (cw_M_stepY)) [] rfl
    have hDc := hD.sub (ws' := (cw_M_stepY)) [] (by decide) rfl
    have hFc := va_free (wc := (cw_M_stepY)) hD hS hA [] rfl
    refine va_calli (va_runS (As := [.int x9_j45]) (rest := [.int x8_j45]) ⟨hx, hb, hml, hown, hts⟩ (c_M_stepY l dC dI cI cB cJ cZ H.size x9_j45 Q104 hq104) (va_cwS 1 hts (goodS q_794 q_795 q_7 q_796) rfl rfl rfl (by decide +kernel) ⟨Nat.le_of_ble_eq_true rfl, Nat.le_of_ble_eq_true rfl⟩) ⟨fun a U g mk q => by obtain ⟨q0, q1, qP, qK, qD⟩ := q; exact ⟨q0, q1, qP, va_K.moved (u := U) (U := U.calling g mk a) (Vm.Alike.refl U.vm) qK, qD⟩, fun U hU hW => ⟨rfl, by rw [hU], by rw [hU]; exact hPc, va_K.moved hW.alike hK, hDc.weaken (fun _ _ _ _ => trivial)⟩⟩ rfl rfl hl.1 rfl (lv_room (Nat.le_of_ble_eq_true rfl)) d_M_walk_104 ⟨Nat.le_of_ble_eq_true rfl, Nat.le_of_ble_eq_true rfl⟩) hS (fun q _ h => hFc q h) hFc (fun r104 u104 t H1 locs ht hvm hw hB hz1 hk1 hS => ?_)
    cases u104
    obtain ⟨hP1, -, hD1⟩ := hB
    rw [ht] at hP1
    have h := h r104 hw
    obtain ⟨hP, hD⟩ := va_join (wr := [(a_this, .inr (5, [.int c_code, .int c_width, .int c_height, .ref a_colours, .int c_isTraced, .int c_outlines, .ref a_froms, .ref a_sizes, .ref a_layersOf, .ref a_areas, .int v74, .ref a_xs, .ref a_ys, .ref a_used, .int c_hasPolygon, .int c_of, .int c_corners, .int c_costSum, .ref a_cornerAt, .ref a_counts, .ref a_costs, .int c_hasCurves, .int c_curveCount, .ref a_firsts, .ref a_manys, .ref a_fs, .int c_sharp, .int c_allowed, .ref a_px, .ref a_py, .ref a_groups, .ref a_joinF])), (a_froms, .inl (cI, n_froms, .inl f_froms)), (a_sizes, .inl (cI, n_sizes, .inl f_sizes)), (a_layersOf, .inl (cI, n_layersOf, .inl f_layersOf)), (a_areas, .inl (cI, n_areas, .inl f_areas)), (a_xs, .inl (cI, n_xs, .inl f55)), (a_ys, .inl (cI, n_ys, .inl f66)), (a_colours, .inl (cI, n_colours, .inl f_colours)), (a_used, .inl (cZ, n_used, .inl f_used_j45))]) (w1 := (cw_M_stepY)) hP hD [] [0, 1, 2, 3, 4, 5, 6, 7, 8] rfl rfl (by decide) (by decide) hk1 hFc hP1 hD1
    clear hP1 hD1 hk1 hPc hDc hFc
    generalize H1 = H at hP hS ⊢
    have hP : va_P (dC, dI) vwCl (cw_M_walk cI cZ a_this a_froms a_sizes a_layersOf a_areas a_xs a_ys a_colours a_used a_cornerAt a_counts a_costs a_firsts a_manys a_fs a_px a_py a_groups a_joinF n_froms n_sizes n_layersOf n_areas n_xs n_ys n_colours n_used c_code c_width c_height c_isTraced c_outlines v74 c_hasPolygon c_of c_corners c_costSum c_hasCurves c_curveCount c_sharp c_allowed f_froms f_sizes f_layersOf f_areas f55 f66 f_colours f_used_j45) H := hP.sub [0, 1, 2, 3, 4, 5, 6, 7, 8] rfl
    have hD : va_D A (cw_M_walk cI cZ a_this a_froms a_sizes a_layersOf a_areas a_xs a_ys a_colours a_used a_cornerAt a_counts a_costs a_firsts a_manys a_fs a_px a_py a_groups a_joinF n_froms n_sizes n_layersOf n_areas n_xs n_ys n_colours n_used c_code c_width c_height c_isTraced c_outlines v74 c_hasPolygon c_of c_corners c_costSum c_hasCurves c_curveCount c_sharp c_allowed f_froms f_sizes f_layersOf f_areas f55 f66 f_colours f_used_j45) := hD.sub [0, 1, 2, 3, 4, 5, 6, 7, 8] (by decide) rfl
    refine lv_iadd hx hb d_M_walk_107 ?_
    refine lv_topi (fun x8_108 e_x8_108 => ?_)
    have h := h x8_108 e_x8_108
    refine lv_istore (lv' := [(8, .int x8_108), (7, .int x7_98), (10, .int x10_88), (0, .ref a_this), (1, .int x1), (2, .int x2), (3, .int x3), (4, .int x4), (5, .int x5), (6, .int c_points), (9, .int x9_j45)]) hx hb d_M_walk_108 hl (by decide) rfl (fun ls hl => ?_)
    refine lv_aload_n hx hb d_M_walk_110 rfl (lv_at hl 3 rfl) ?_
    refine lv_iload_n hx hb d_M_walk_111 rfl (lv_at hl 4 rfl) ?_
    refine lv_iload hx hb d_M_walk_112 (lv_at hl 1 rfl) ?_
    refine lv_iload hx hb d_M_walk_114 (lv_at hl 0 rfl) ?_
    refine lv_iload hx hb d_M_walk_116 (lv_at hl 10 rfl) ?_
    refine lv_iload hx hb d_M_walk_118 (lv_at hl 7 rfl) ?_
    obtain ⟨Q120, hq120, h⟩ := h
    have hPc := hP.sub (ws' := (cw_M_next cI a_this a_colours a_froms a_sizes a_layersOf a_areas a_xs a_ys a_used a_cornerAt a_counts a_costs a_firsts a_manys a_fs a_px a_py a_groups a_joinF n_colours c_code c_width c_height c_isTraced c_outlines v74 c_hasPolygon c_of c_corners c_costSum c_hasCurves c_curveCount c_sharp c_allowed f_colours)) [0, 7] rfl
    have hDc := hD.sub (ws' := (cw_M_next cI a_this a_colours a_froms a_sizes a_layersOf a_areas a_xs a_ys a_used a_cornerAt a_counts a_costs a_firsts a_manys a_fs a_px a_py a_groups a_joinF n_colours c_code c_width c_height c_isTraced c_outlines v74 c_hasPolygon c_of c_corners c_costSum c_hasCurves c_curveCount c_sharp c_allowed f_colours)) [0, 7] (by decide) rfl
    have hFc := va_free (wc := (cw_M_next cI a_this a_colours a_froms a_sizes a_layersOf a_areas a_xs a_ys a_used a_cornerAt a_counts a_costs a_firsts a_manys a_fs a_px a_py a_groups a_joinF n_colours c_code c_width c_height c_isTraced c_outlines v74 c_hasPolygon c_of c_corners c_costSum c_hasCurves c_curveCount c_sharp c_allowed f_colours)) hD hS hA [0, 7] rfl
    refine va_calli (va_runV (As := [.int x1, .int x7_98, .int x8_108, .int x9_j45, .int x4]) (rest := []) ⟨hx, hb, hml, hown, hts⟩ (c_M_next l dC dI cI cB cJ cZ a_this a_colours a_froms a_sizes a_layersOf a_areas a_xs a_ys a_used a_cornerAt a_counts a_costs a_firsts a_manys a_fs a_px a_py a_groups a_joinF H.size n_colours c_code c_width c_height c_isTraced c_outlines v74 c_hasPolygon c_of c_corners c_costSum c_hasCurves c_curveCount c_sharp c_allowed f_colours x1 x7_98 x8_108 x9_j45 x4 Q120 hq120) (cwV 5 hts (goodV q_800 q_802 q_p35 q_7 q_803) rfl rfl rfl (by decide +kernel) ⟨Nat.le_of_ble_eq_true rfl, Nat.le_of_ble_eq_true rfl⟩) ⟨fun a U g mk q => by obtain ⟨q0, q1, qP, qK, qD⟩ := q; exact ⟨q0, q1, qP, va_K.moved (u := U) (U := U.calling g mk a) (Vm.Alike.refl U.vm) qK, qD⟩, va_recv hK hPc (ci := 5) (q0 := 0) rfl rfl, fun U hU hW => ⟨rfl, by rw [hU], by rw [hU]; exact hPc, va_K.moved hW.alike hK, hDc.weaken (fun _ _ _ _ => trivial)⟩⟩ rfl rfl hl.1 rfl (lv_room (Nat.le_of_ble_eq_true rfl)) d_M_walk_120 ⟨Nat.le_of_ble_eq_true rfl, Nat.le_of_ble_eq_true rfl⟩) hS (fun q _ h => hFc q h) hFc (fun r120 u120 t H1 locs ht hvm hw hB hz1 hk1 hS => ?_)
    cases u120
    obtain ⟨hP1, -, hD1⟩ := hB
    rw [ht] at hP1
    have h := h r120 hw
    obtain ⟨hP, hD⟩ := va_join (wr := [(a_froms, .inl (cI, n_froms, .inl f_froms)), (a_sizes, .inl (cI, n_sizes, .inl f_sizes)), (a_layersOf, .inl (cI, n_layersOf, .inl f_layersOf)), (a_areas, .inl (cI, n_areas, .inl f_areas)), (a_xs, .inl (cI, n_xs, .inl f55)), (a_ys, .inl (cI, n_ys, .inl f66)), (a_used, .inl (cZ, n_used, .inl f_used_j45))]) (w1 := (cw_M_next cI a_this a_colours a_froms a_sizes a_layersOf a_areas a_xs a_ys a_used a_cornerAt a_counts a_costs a_firsts a_manys a_fs a_px a_py a_groups a_joinF n_colours c_code c_width c_height c_isTraced c_outlines v74 c_hasPolygon c_of c_corners c_costSum c_hasCurves c_curveCount c_sharp c_allowed f_colours)) hP hD [0, 7] [1, 2, 3, 4, 5, 6, 8] rfl rfl (by decide) (by decide) hk1 hFc hP1 hD1
    clear hP1 hD1 hk1 hPc hDc hFc
    generalize H1 = H at hP hS ⊢
    have hP : va_P (dC, dI) vwCl (cw_M_walk cI cZ a_this a_froms a_sizes a_layersOf a_areas a_xs a_ys a_colours a_used a_cornerAt a_counts a_costs a_firsts a_manys a_fs a_px a_py a_groups a_joinF n_froms n_sizes n_layersOf n_areas n_xs n_ys n_colours n_used c_code c_width c_height c_isTraced c_outlines v74 c_hasPolygon c_of c_corners c_costSum c_hasCurves c_curveCount c_sharp c_allowed f_froms f_sizes f_layersOf f_areas f55 f66 f_colours f_used_j45) H := hP.sub [7, 0, 1, 2, 3, 4, 5, 8, 6] rfl
    have hD : va_D A (cw_M_walk cI cZ a_this a_froms a_sizes a_layersOf a_areas a_xs a_ys a_colours a_used a_cornerAt a_counts a_costs a_firsts a_manys a_fs a_px a_py a_groups a_joinF n_froms n_sizes n_layersOf n_areas n_xs n_ys n_colours n_used c_code c_width c_height c_isTraced c_outlines v74 c_hasPolygon c_of c_corners c_costSum c_hasCurves c_curveCount c_sharp c_allowed f_froms f_sizes f_layersOf f_areas f55 f66 f_colours f_used_j45) := hD.sub [7, 0, 1, 2, 3, 4, 5, 8, 6] (by decide) rfl
    refine lv_istore (lv' := [(9, .int r120), (8, .int x8_108), (7, .int x7_98), (10, .int x10_88), (0, .ref a_this), (1, .int x1), (2, .int x2), (3, .int x3), (4, .int x4), (5, .int x5), (6, .int c_points)]) hx hb d_M_walk_123 hl (by decide) rfl (fun ls hl => ?_)
    refine lv_iload hx hb d_M_walk_125 (lv_at hl 2 rfl) ?_
    refine lv_iload_n hx hb d_M_walk_127 rfl (lv_at hl 6 rfl) ?_
    refine lv_icmp_ne (tgt := 142) hx hb d_M_walk_128 (by decide) (fun cc_ => ?_) (fun cc_ => ?_)
    · have h := h.1 cc_
      exact J142 x7_98 x8_108 r120 x10_88 v74 f55 f66 f_used_j45 _ _ _ h hP hD hS (lv_sub hl [4, 5, 6, 7, 8, 9, 10, 2, 1, 0, 3] rfl)
    · have h := h.2 cc_
      refine lv_iload hx hb d_M_walk_131 (lv_at hl 1 rfl) ?_
      refine lv_iload_n hx hb d_M_walk_133 rfl (lv_at hl 7 rfl) ?_
      refine lv_icmp_ne (tgt := 142) hx hb d_M_walk_134 (by decide) (fun cc_ => ?_) (fun cc_ => ?_)
      · have h := h.1 cc_
        exact J142 x7_98 x8_108 r120 x10_88 v74 f55 f66 f_used_j45 _ _ _ h hP hD hS (lv_sub hl [4, 5, 6, 7, 8, 9, 10, 2, 1, 0, 3] rfl)
      · have h := h.2 cc_
        refine lv_iload hx hb d_M_walk_137 (lv_at hl 0 rfl) ?_
        refine lv_if_eq (tgt := 146) hx hb d_M_walk_139 (by decide) (fun cc_ => ?_) (fun cc_ => ?_)
        · have h := h.1 cc_
          refine lv_iconst (v := 0) hx hb d_M_walk_146 (by decide) ?_
          exact J147 x7_98 x8_108 r120 x10_88 (0 : Int32) v74 f55 f66 f_used_j45 _ _ _ h hP hD hS (lv_sub hl [4, 5, 6, 7, 8, 9, 10, 2, 1, 0, 3] rfl)
        · have h := h.2 cc_
          exact J142 x7_98 x8_108 r120 x10_88 v74 f55 f66 f_used_j45 _ _ _ h hP hD hS (lv_sub hl [4, 5, 6, 7, 8, 9, 10, 2, 1, 0, 3] rfl)
  refine lv_iload hx hb d_M_walk_21 (lv_at hl 11 rfl) ?_
  refine lv_if_eq (tgt := 152) hx hb d_M_walk_23 (by decide) (fun cc_ => ?_) (fun cc_ => ?_)
  · have h := h.1 cc_
    refine lv_iload hx hb d_M_walk_152 (lv_at hl 10 rfl) ?_
    refine lv_iload hx hb d_M_walk_154 (lv_at hl 5 rfl) ?_
    refine lv_icmp_gt (tgt := 174) hx hb d_M_walk_156 (by decide) (fun cc_ => ?_) (fun cc_ => ?_)
    · have h := h.1 cc_
      exact J174 x1 c_points x10_l21 c_outlines c_points_l21 f_froms f_sizes f_layersOf f_areas f_xs_l21 f_ys_l21 f_used_l21 _ _ _ h hP hD hS (lv_sub hl [0, 1, 6, 10] rfl)
    · have h := h.2 cc_
      refine lv_iload hx hb d_M_walk_159 (lv_at hl 10 rfl) ?_
      refine lv_iload hx hb d_M_walk_161 (lv_at hl 5 rfl) ?_
      refine lv_ineg hx hb d_M_walk_163 ?_
      refine lv_icmp_lt (tgt := 174) hx hb d_M_walk_164 (by decide) (fun cc_ => ?_) (fun cc_ => ?_)
      · have h := h.1 cc_
        exact J174 x1 c_points x10_l21 c_outlines c_points_l21 f_froms f_sizes f_layersOf f_areas f_xs_l21 f_ys_l21 f_used_l21 _ _ _ h hP hD hS (lv_sub hl [0, 1, 6, 10] rfl)
      · have h := h.2 cc_
        refine lv_aload_n hx hb d_M_walk_167 rfl (lv_at hl 0 rfl) ?_
        refine lv_iload hx hb d_M_walk_168 (lv_at hl 6 rfl) ?_
        refine va_put (D := (dC, dI)) (ci := 5) (v := .int c_points) (ty := .int) (C := R_M) (T := F_M) (N := 32) hx hb hts i_M_in t_M t_M_ok n_M_ne hown hK hP hD hS 0 rfl rfl 10 (by decide) (hts _ q_671) (fun _ h9 => h9) rfl (by decide +kernel) (by rfl) (by rfl) (Nat.le_of_ble_eq_true rfl) d_M_walk_170 (fun H locs hP hD hS => ?_)
        have hP : va_P (dC, dI) vwCl (cw_M_walk cI cZ a_this a_froms a_sizes a_layersOf a_areas a_xs a_ys a_colours a_used a_cornerAt a_counts a_costs a_firsts a_manys a_fs a_px a_py a_groups a_joinF n_froms n_sizes n_layersOf n_areas n_xs n_ys n_colours n_used c_code c_width c_height c_isTraced c_outlines c_points c_hasPolygon c_of c_corners c_costSum c_hasCurves c_curveCount c_sharp c_allowed f_froms f_sizes f_layersOf f_areas f_xs_l21 f_ys_l21 f_colours f_used_l21) H := hP
        have hD : va_D A (cw_M_walk cI cZ a_this a_froms a_sizes a_layersOf a_areas a_xs a_ys a_colours a_used a_cornerAt a_counts a_costs a_firsts a_manys a_fs a_px a_py a_groups a_joinF n_froms n_sizes n_layersOf n_areas n_xs n_ys n_colours n_used c_code c_width c_height c_isTraced c_outlines c_points c_hasPolygon c_of c_corners c_costSum c_hasCurves c_curveCount c_sharp c_allowed f_froms f_sizes f_layersOf f_areas f_xs_l21 f_ys_l21 f_colours f_used_l21) := hD
        subst hQf
        exact W.vret hx hb hr (fun t ht hW => ⟨⟨(c_outlines, c_points, f_froms, f_sizes, f_layersOf, f_areas, f_xs_l21, f_ys_l21, f_used_l21), rfl, h, by rw [ht]; exact hP, va_K.moved hW.alike hK, hD⟩, hS.F ht⟩) hS.2.2 d_M_walk_173
  · have h := h.2 cc_
    refine lv_iload hx hb d_M_walk_26 (lv_at hl 9 rfl) ?_
    refine lv_if_ne (tgt := 45) hx hb d_M_walk_28 (by decide) (fun cc_ => ?_) (fun cc_ => ?_)
    · have h := h.1 cc_
      exact J45 x7_l21 x8_l21 x9_l21 x10_l21 c_points_l21 f_xs_l21 f_ys_l21 f_used_l21 _ _ _ h hP hD hS (lv_sub hl [0, 1, 2, 3, 4, 5, 6, 7, 8, 9, 10] rfl)
    · have h := h.2 cc_
      refine lv_aload_n hx hb d_M_walk_31 rfl (lv_at hl 0 rfl) ?_
      refine va_get (D := (dC, dI)) (ci := 5) (v := .ref a_used) (C := R_M) (T := F_M) (N := 32) hx hb hts i_M_in hown hK hP 0 rfl rfl 13 (by decide) (hts _ q_674) (fun _ h9 => h9) rfl d_M_walk_32 ?_
      refine lv_bipush (v := 16) hx hb d_M_walk_35 (by decide) ?_
      refine lv_iload hx hb d_M_walk_37 (lv_at hl 8 rfl) ?_
      refine lv_imul hx hb d_M_walk_39 ?_
      refine lv_iload hx hb d_M_walk_40 (lv_at hl 7 rfl) ?_
      refine lv_iadd hx hb d_M_walk_42 ?_
      refine lv_iconst (v := 1) hx hb d_M_walk_43 (by decide) ?_
      obtain ⟨hin, h⟩ := h
      refine va_zast hx hb hK hP hD hS 8 3 rfl rfl hin d_M_walk_44 (fun H locs hP hD hS => ?_)
      obtain ⟨f44, e_f44⟩ : ∃ y : Nat → Int32, y = upd f_used_l21 (((16 : Int32) * x8_l21) + x7_l21).toNatClampNeg (vp_nar .boolean (1 : Int32)) := ⟨_, rfl⟩
      have h := h f44 e_f44
      have hP : va_P (dC, dI) vwCl (cw_M_walk cI cZ a_this a_froms a_sizes a_layersOf a_areas a_xs a_ys a_colours a_used a_cornerAt a_counts a_costs a_firsts a_manys a_fs a_px a_py a_groups a_joinF n_froms n_sizes n_layersOf n_areas n_xs n_ys n_colours n_used c_code c_width c_height c_isTraced c_outlines c_points_l21 c_hasPolygon c_of c_corners c_costSum c_hasCurves c_curveCount c_sharp c_allowed f_froms f_sizes f_layersOf f_areas f_xs_l21 f_ys_l21 f_colours f44) H := by rw [e_f44]; exact hP
      have hD : va_D A (cw_M_walk cI cZ a_this a_froms a_sizes a_layersOf a_areas a_xs a_ys a_colours a_used a_cornerAt a_counts a_costs a_firsts a_manys a_fs a_px a_py a_groups a_joinF n_froms n_sizes n_layersOf n_areas n_xs n_ys n_colours n_used c_code c_width c_height c_isTraced c_outlines c_points_l21 c_hasPolygon c_of c_corners c_costSum c_hasCurves c_curveCount c_sharp c_allowed f_froms f_sizes f_layersOf f_areas f_xs_l21 f_ys_l21 f_colours f44) := by rw [e_f44]; exact hD
      exact J45 x7_l21 x8_l21 x9_l21 x10_l21 c_points_l21 f_xs_l21 f_ys_l21 f44 _ _ _ h hP hD hS (lv_sub hl [0, 1, 2, 3, 4, 5, 6, 7, 8, 9, 10] rfl)
