def wp_M_covered_J110 (n_layersOf n_sizes n_froms n_ys n_xs : Nat) (c_width : Int32) (c_height : Int32) (c_isTraced : Int32) (c_outlines : Int32) (f_layersOf : Nat → Int32) (f_sizes : Nat → Int32) (f_froms : Nat → Int32) (f_ys : Nat → Int32) (f_xs : Nat → Int32) (c_code : Int32) (x1 : Int32) (x2 : Int32) (x4 : Int32) (y0 : Int32) (back39 : (Int32 × Int32) → Prop) (post : Int32 → Int32 → Prop) : Prop :=
  ∀ x4_111 : Int32, x4_111 = x4 + (1 : Int32) → back39 (y0, x4_111)
def wp_M_covered_J87 (n_layersOf n_sizes n_froms n_ys n_xs : Nat) (c_width : Int32) (c_height : Int32) (c_isTraced : Int32) (c_outlines : Int32) (f_layersOf : Nat → Int32) (f_sizes : Nat → Int32) (f_froms : Nat → Int32) (f_ys : Nat → Int32) (f_xs : Nat → Int32) (c_code : Int32) (x1 : Int32) (x2 : Int32) (x3 : Int32) (x4 : Int32) (x6 : Int32) (y0 : Int32) (y1 : Int32) (back52 : (Int32 × Int32) → Prop) (back39 : (Int32 × Int32) → Prop) (post : Int32 → Int32 → Prop) : Prop :=
  ∀ x5_88 : Int32, x5_88 = (y1 + y0) → ∀ x6_90 : Int32, x6_90 = x6 + (1 : Int32) → back52 (x5_88, x6_90)
def wp_M_covered_L52 (n_layersOf n_sizes n_froms n_ys n_xs : Nat) (c_width : Int32) (c_height : Int32) (c_isTraced : Int32) (c_outlines : Int32) (f_layersOf : Nat → Int32) (f_sizes : Nat → Int32) (f_froms : Nat → Int32) (f_ys : Nat → Int32) (f_xs : Nat → Int32) (c_code : Int32) (x1 : Int32) (x2 : Int32) (x3 : Int32) (x4 : Int32) (back39 : (Int32 × Int32) → Prop) (post : Int32 → Int32 → Prop) (back52 : (Int32 × Int32) → Prop) (x5 : Int32) (x6 : Int32) : Prop :=
  (c_outlines ≤ x6 → (¬ (x5 - x5 / (2 : Int32) * (2 : Int32)) = (1 : Int32) → wp_M_covered_J110 n_layersOf n_sizes n_froms n_ys n_xs c_width c_height c_isTraced c_outlines f_layersOf f_sizes f_froms f_ys f_xs c_code x1 x2 x4 x3 back39 post) ∧ ((x5 - x5 / (2 : Int32) * (2 : Int32)) = (1 : Int32) → wp_M_covered_J110 n_layersOf n_sizes n_froms n_ys n_xs c_width c_height c_isTraced c_outlines f_layersOf f_sizes f_froms f_ys f_xs c_code x1 x2 x4 x4 back39 post)) ∧ (¬ c_outlines ≤ x6 → vp_in x6 n_layersOf ∧ (¬ (f_layersOf x6.toNatClampNeg) = x4 → wp_M_covered_J87 n_layersOf n_sizes n_froms n_ys n_xs c_width c_height c_isTraced c_outlines f_layersOf f_sizes f_froms f_ys f_xs c_code x1 x2 x3 x4 x6 (0 : Int32) x5 back52 back39 post) ∧ ((f_layersOf x6.toNatClampNeg) = x4 → ∃ Q80 : Int32 → Unit → Prop, wp_M_upright n_sizes n_froms n_ys n_xs f_sizes f_froms f_ys f_xs x6 x1 x2 Q80 ∧ ∀ (r80 : Int32), Q80 r80 () → wp_M_covered_J87 n_layersOf n_sizes n_froms n_ys n_xs c_width c_height c_isTraced c_outlines f_layersOf f_sizes f_froms f_ys f_xs c_code x1 x2 x3 x4 x6 r80 x5 back52 back39 post))
def wp_M_covered_L39 (n_layersOf n_sizes n_froms n_ys n_xs : Nat) (c_width : Int32) (c_height : Int32) (c_isTraced : Int32) (c_outlines : Int32) (f_layersOf : Nat → Int32) (f_sizes : Nat → Int32) (f_froms : Nat → Int32) (f_ys : Nat → Int32) (f_xs : Nat → Int32) (c_code : Int32) (x1 : Int32) (x2 : Int32) (post : Int32 → Int32 → Prop) (back39 : (Int32 × Int32) → Prop) (x3 : Int32) (x4 : Int32) : Prop :=
  ((8 : Int32) ≤ x4 → post x3 c_code) ∧ (¬ (8 : Int32) ≤ x4 → lpW (fun b z => wp_M_covered_L52 n_layersOf n_sizes n_froms n_ys n_xs c_width c_height c_isTraced c_outlines f_layersOf f_sizes f_froms f_ys f_xs c_code x1 x2 x3 x4 back39 post b z.1 z.2) ((0 : Int32), (0 : Int32)))
def wp_M_covered_J26 (n_layersOf n_sizes n_froms n_ys n_xs : Nat) (c_width : Int32) (c_height : Int32) (c_isTraced : Int32) (c_outlines : Int32) (f_layersOf : Nat → Int32) (f_sizes : Nat → Int32) (f_froms : Nat → Int32) (f_ys : Nat → Int32) (f_xs : Nat → Int32) (c_code : Int32) (x1 : Int32) (x2 : Int32) (y0 : Int32) (post : Int32 → Int32 → Prop) : Prop :=
  ∃ Q26 : Int32 → Int32 → Prop, wp_M_refuses c_code y0 Q26 ∧ ∀ (r26 : Int32) (u26_0 : Int32), Q26 r26 u26_0 → (r26 = 0 → lpW (fun b z => wp_M_covered_L39 n_layersOf n_sizes n_froms n_ys n_xs c_width c_height c_isTraced c_outlines f_layersOf f_sizes f_froms f_ys f_xs u26_0 x1 x2 post b z.1 z.2) ((0 : Int32), (1 : Int32))) ∧ (¬ r26 = 0 → post (0 : Int32) u26_0)
def wp_M_covered (n_layersOf n_sizes n_froms n_ys n_xs : Nat) (c_code : Int32) (c_width : Int32) (c_height : Int32) (c_isTraced : Int32) (c_outlines : Int32) (f_layersOf : Nat → Int32) (f_sizes : Nat → Int32) (f_froms : Nat → Int32) (f_ys : Nat → Int32) (f_xs : Nat → Int32) (x1 : Int32) (x2 : Int32) (post : Int32 → Int32 → Prop) : Prop :=
  (¬ c_isTraced = 0 → ∃ Q15 : Int32 → Unit → Prop, wp_M_isSample c_width c_height x1 x2 Q15 ∧ ∀ (r15 : Int32), Q15 r15 () → (¬ r15 = 0 → wp_M_covered_J26 n_layersOf n_sizes n_froms n_ys n_xs c_width c_height c_isTraced c_outlines f_layersOf f_sizes f_froms f_ys f_xs c_code x1 x2 (0 : Int32) post) ∧ (r15 = 0 → wp_M_covered_J26 n_layersOf n_sizes n_froms n_ys n_xs c_width c_height c_isTraced c_outlines f_layersOf f_sizes f_froms f_ys f_xs c_code x1 x2 (2 : Int32) post)) ∧ (c_isTraced = 0 → wp_M_covered_J26 n_layersOf n_sizes n_froms n_ys n_xs c_width c_height c_isTraced c_outlines f_layersOf f_sizes f_froms f_ys f_xs c_code x1 x2 (1 : Int32) post)
abbrev cw_M_covered (cI : ClassId) (a_this a_layersOf a_sizes a_froms a_ys a_xs a_colours a_areas a_used a_cornerAt a_counts a_costs a_firsts a_manys a_fs a_px a_py a_groups a_joinF : Nat) (n_layersOf n_sizes n_froms n_ys n_xs : Nat) (c_code : Int32) (c_width : Int32) (c_height : Int32) (c_isTraced : Int32) (c_outlines : Int32) (c_points : Int32) (c_hasPolygon : Int32) (c_of : Int32) (c_corners : Int32) (c_costSum : Int32) (c_hasCurves : Int32) (c_curveCount : Int32) (c_sharp : Int32) (c_allowed : Int32) (f_layersOf : Nat → Int32) (f_sizes : Nat → Int32) (f_froms : Nat → Int32) (f_ys : Nat → Int32) (f_xs : Nat → Int32) : va_W := [(a_this, .inr (5, [.int c_code, .int c_width, .int c_height, .ref a_colours, .int c_isTraced, .int c_outlines, .ref a_froms, .ref a_sizes, .ref a_layersOf, .ref a_areas, .int c_points, .ref a_xs, .ref a_ys, .ref a_used, .int c_hasPolygon, .int c_of, .int c_corners, .int c_costSum, .ref a_cornerAt, .ref a_counts, .ref a_costs, .int c_hasCurves, .int c_curveCount, .ref a_firsts, .ref a_manys, .ref a_fs, .int c_sharp, .int c_allowed, .ref a_px, .ref a_py, .ref a_groups, .ref a_joinF])), (a_layersOf, .inl (cI, n_layersOf, .inl f_layersOf)), (a_sizes, .inl (cI, n_sizes, .inl f_sizes)), (a_froms, .inl (cI, n_froms, .inl f_froms)), (a_ys, .inl (cI, n_ys, .inl f_ys)), (a_xs, .inl (cI, n_xs, .inl f_xs))]
abbrev qq_M_covered (dC : Nat → ClassId) (dI : Nat → Nat → Nat) (cI cB cJ cZ : ClassId) (a_this a_layersOf a_sizes a_froms a_ys a_xs a_colours a_areas a_used a_cornerAt a_counts a_costs a_firsts a_manys a_fs a_px a_py a_groups a_joinF : Nat) (n_layersOf n_sizes n_froms n_ys n_xs : Nat) (c_width : Int32) (c_height : Int32) (c_isTraced : Int32) (c_outlines : Int32) (c_points : Int32) (c_hasPolygon : Int32) (c_of : Int32) (c_corners : Int32) (c_costSum : Int32) (c_hasCurves : Int32) (c_curveCount : Int32) (c_sharp : Int32) (c_allowed : Int32) (f_layersOf : Nat → Int32) (f_sizes : Nat → Int32) (f_froms : Nat → Int32) (f_ys : Nat → Int32) (f_xs : Nat → Int32) (A : Nat → Prop) (post : Int32 → Int32 → Prop) : Array Value → State → Outcome → State → Prop := va_Qi post (fun u t => va_P (dC, dI) vwCl (cw_M_covered cI a_this a_layersOf a_sizes a_froms a_ys a_xs a_colours a_areas a_used a_cornerAt a_counts a_costs a_firsts a_manys a_fs a_px a_py a_groups a_joinF n_layersOf n_sizes n_froms n_ys n_xs u c_width c_height c_isTraced c_outlines c_points c_hasPolygon c_of c_corners c_costSum c_hasCurves c_curveCount c_sharp c_allowed f_layersOf f_sizes f_froms f_ys f_xs) t.heap ∧ va_K (dC, dI) vwCl [(cI, .int), (cB, .byte), (cJ, .long), (cZ, .boolean)] t ∧ va_D A (cw_M_covered cI a_this a_layersOf a_sizes a_froms a_ys a_xs a_colours a_areas a_used a_cornerAt a_counts a_costs a_firsts a_manys a_fs a_px a_py a_groups a_joinF n_layersOf n_sizes n_froms n_ys n_xs u c_width c_height c_isTraced c_outlines c_points c_hasPolygon c_of c_corners c_costSum c_hasCurves c_curveCount c_sharp c_allowed f_layersOf f_sizes f_froms f_ys f_xs)) A
set_option maxHeartbeats 4000000 in
set_option maxRecDepth 100000 in
theorem c_M_covered (l : Launch) (dC : Nat → ClassId) (dI : Nat → Nat → Nat) (cI cB cJ cZ : ClassId) (a_this a_layersOf a_sizes a_froms a_ys a_xs a_colours a_areas a_used a_cornerAt a_counts a_costs a_firsts a_manys a_fs a_px a_py a_groups a_joinF : Nat) (sz : Nat) (n_layersOf n_sizes n_froms n_ys n_xs : Nat) (c_code : Int32) (c_width : Int32) (c_height : Int32) (c_isTraced : Int32) (c_outlines : Int32) (c_points : Int32) (c_hasPolygon : Int32) (c_of : Int32) (c_corners : Int32) (c_costSum : Int32) (c_hasCurves : Int32) (c_curveCount : Int32) (c_sharp : Int32) (c_allowed : Int32) (f_layersOf : Nat → Int32) (f_sizes : Nat → Int32) (f_froms : Nat → Int32) (f_ys : Nat → Int32) (f_xs : Nat → Int32) (x1 : Int32) (x2 : Int32) (post : Int32 → Int32 → Prop) (h : wp_M_covered n_layersOf n_sizes n_froms n_ys n_xs c_code c_width c_height c_isTraced c_outlines f_layersOf f_sizes f_froms f_ys f_xs x1 x2 post) : Met l y_M_covered w_M_covered ({ frames := 2, cells := 0, slots := 0, locals := 50 }) (va_Pc [.ref a_this, .int x1, .int x2] (fun U => U.heap.size = sz ∧ va_P (dC, dI) vwCl (cw_M_covered cI a_this a_layersOf a_sizes a_froms a_ys a_xs a_colours a_areas a_used a_cornerAt a_counts a_costs a_firsts a_manys a_fs a_px a_py a_groups a_joinF n_layersOf n_sizes n_froms n_ys n_xs c_code c_width c_height c_isTraced c_outlines c_points c_hasPolygon c_of c_corners c_costSum c_hasCurves c_curveCount c_sharp c_allowed f_layersOf f_sizes f_froms f_ys f_xs) U.heap ∧ va_K (dC, dI) vwCl [(cI, .int), (cB, .byte), (cJ, .long), (cZ, .boolean)] U ∧ va_D (fun _ => True) (cw_M_covered cI a_this a_layersOf a_sizes a_froms a_ys a_xs a_colours a_areas a_used a_cornerAt a_counts a_costs a_firsts a_manys a_fs a_px a_py a_groups a_joinF n_layersOf n_sizes n_froms n_ys n_xs c_code c_width c_height c_isTraced c_outlines c_points c_hasPolygon c_of c_corners c_costSum c_hasCurves c_curveCount c_sharp c_allowed f_layersOf f_sizes f_froms f_ys f_xs))) (qq_M_covered dC dI cI cB cJ cZ a_this a_layersOf a_sizes a_froms a_ys a_xs a_colours a_areas a_used a_cornerAt a_counts a_costs a_firsts a_manys a_fs a_px a_py a_groups a_joinF n_layersOf n_sizes n_froms n_ys n_xs c_width c_height c_isTraced c_outlines c_points c_hasPolygon c_of c_corners c_costSum c_hasCurves c_curveCount c_sharp c_allowed f_layersOf f_sizes f_froms f_ys f_xs (va_A (cw_M_covered cI a_this a_layersOf a_sizes a_froms a_ys a_xs a_colours a_areas a_used a_cornerAt a_counts a_costs a_firsts a_manys a_fs a_px a_py a_groups a_joinF n_layersOf n_sizes n_froms n_ys n_xs c_code c_width c_height c_isTraced c_outlines c_points c_hasPolygon c_of c_corners c_costSum c_hasCurves c_curveCount c_sharp c_allowed f_layersOf f_sizes f_froms f_ys f_xs) sz) post) 0 0 (va_A (cw_M_covered cI a_this a_layersOf a_sizes a_froms a_ys a_xs a_colours a_areas a_used a_cornerAt a_counts a_costs a_firsts a_manys a_fs a_px a_py a_groups a_joinF n_layersOf n_sizes n_froms n_ys n_xs c_code c_width c_height c_isTraced c_outlines c_points c_hasPolygon c_of c_corners c_costSum c_hasCurves c_curveCount c_sharp c_allowed f_layersOf f_sizes f_froms f_ys f_xs) sz) := by
  refine Met.ofW (cc := b_M_covered) (maxL := 7) (ret := (some .int)) (by decide +kernel) rfl ?_
  intro p e s m args below meth c s₁ B hml hv
  obtain ⟨rfl, hsz, hP, hK, hD0⟩ := hv
  have hx := B.exec
  have hb := B.bytes
  have hr := B.returns
  have hts : ∀ w ∈ allW, w.before _ s = true := fun w hw => atoms_spec (ws := w_M_covered) B.pre w (List.mem_cons_of_mem _ hw)
  have hown : s.vm.findClass R_M = some m.cls := findClass_of_methodNamed B.named
  have hlocks := B.notSynchronized
  subst hsz
  have hD := hD0.self (sz := s.heap.size)
  generalize hAe : va_A (cw_M_covered cI a_this a_layersOf a_sizes a_froms a_ys a_xs a_colours a_areas a_used a_cornerAt a_counts a_costs a_firsts a_manys a_fs a_px a_py a_groups a_joinF n_layersOf n_sizes n_froms n_ys n_xs c_code c_width c_height c_isTraced c_outlines c_points c_hasPolygon c_of c_corners c_costSum c_hasCurves c_curveCount c_sharp c_allowed f_layersOf f_sizes f_froms f_ys f_xs) s.heap.size = A at hD ⊢
  have hA : ∀ q : Nat, s.heap.size ≤ q → A q := fun q h => by rw [← hAe]; exact Or.inr h
  have hS : va_S A s.heap s.heap [] := va_S.rf
  clear hD0
  generalize hQf : MQ below (qq_M_covered dC dI cI cB cJ cZ a_this a_layersOf a_sizes a_froms a_ys a_xs a_colours a_areas a_used a_cornerAt a_counts a_costs a_firsts a_manys a_fs a_px a_py a_groups a_joinF n_layersOf n_sizes n_froms n_ys n_xs c_width c_height c_isTraced c_outlines c_points c_hasPolygon c_of c_corners c_costSum c_hasCurves c_curveCount c_sharp c_allowed f_layersOf f_sizes f_froms f_ys f_xs A post) ([.ref a_this, .int x1, .int x2] : List Value).toArray s 0 0 A = Qf
  have hl := lv_entry ([.ref a_this, .int x1, .int x2]) (n := 7) (Nat.le_of_ble_eq_true rfl)
  rw [lg_entry_eq]
  generalize (lg_sl ([.ref a_this, .int x1, .int x2]) ++ List.replicate (7 - (lg_sl ([.ref a_this, .int x1, .int x2])).length) Slot.unset).toArray = ls at hl ⊢
  have hl : lv_has ls 7 [(0, .ref a_this), (1, .int x1), (2, .int x2)] := hl
  unfold wp_M_covered at h
  have J26 : ∀ (x1_j26 : Int32) (x2_j26 : Int32) (y0_j26 : Int32) (c_code_j26 : Int32) (H : Heap) (locs : List Loc) (ls : Array Slot), wp_M_covered_J26 n_layersOf n_sizes n_froms n_ys n_xs c_width c_height c_isTraced c_outlines f_layersOf f_sizes f_froms f_ys f_xs c_code_j26 x1_j26 x2_j26 y0_j26 post → va_P (dC, dI) vwCl (cw_M_covered cI a_this a_layersOf a_sizes a_froms a_ys a_xs a_colours a_areas a_used a_cornerAt a_counts a_costs a_firsts a_manys a_fs a_px a_py a_groups a_joinF n_layersOf n_sizes n_froms n_ys n_xs c_code_j26 c_width c_height c_isTraced c_outlines c_points c_hasPolygon c_of c_corners c_costSum c_hasCurves c_curveCount c_sharp c_allowed f_layersOf f_sizes f_froms f_ys f_xs) H → va_D A (cw_M_covered cI a_this a_layersOf a_sizes a_froms a_ys a_xs a_colours a_areas a_used a_cornerAt a_counts a_costs a_firsts a_manys a_fs a_px a_py a_groups a_joinF n_layersOf n_sizes n_froms n_ys n_xs c_code_j26 c_width c_height c_isTraced c_outlines c_points c_hasPolygon c_of c_corners c_costSum c_hasCurves c_curveCount c_sharp c_allowed f_layersOf f_sizes f_froms f_ys f_xs) → va_S A s.heap H locs → lv_has ls 7 [(0, .ref a_this), (1, .int x1_j26), (2, .int x2_j26)] → W p l e (headSpec w_M_covered ({ frames := 2, cells := 0, slots := 0, locals := 50 })).room s m ([.ref a_this, .int x1, .int x2] : List Value).toArray below meth c H locs 0 0 Qf (F0 m 26 ls [.int y0_j26, .ref a_this]) := by
    intro x1_j26 x2_j26 y0_j26 c_code_j26 H locs ls h hP hD hS hl
    unfold wp_M_covered_J26 at h
    obtain ⟨Q26, hq26, h⟩ := h
    have hPc := hP.sub (ws' := (cw_M_refuses a_this a_colours a_froms a_sizes a_layersOf a_areas a_xs a_ys a_used a_cornerAt a_counts a_costs a_firsts a_manys a_fs a_px a_py a_groups a_joinF c_code_j26 c_width c_height c_isTraced c_outlines c_points c_hasPolygon c_of c_corners c_costSum c_hasCurves c_curveCount c_sharp c_allowed)) [0] rfl
    have hDc := hD.sub (ws' := (cw_M_refuses a_this a_colours a_froms a_sizes a_layersOf a_areas a_xs a_ys a_used a_cornerAt a_counts a_costs a_firsts a_manys a_fs a_px a_py a_groups a_joinF c_code_j26 c_width c_height c_isTraced c_outlines c_points c_hasPolygon c_of c_corners c_costSum c_hasCurves c_curveCount c_sharp c_allowed)) [0] (by decide) rfl
    have hFc := va_free (wc := (cw_M_refuses a_this a_colours a_froms a_sizes a_layersOf a_areas a_xs a_ys a_used a_cornerAt a_counts a_costs a_firsts a_manys a_fs a_px a_py a_groups a_joinF c_code_j26 c_width c_height c_isTraced c_outlines c_points c_hasPolygon c_of c_corners c_costSum c_hasCurves c_curveCount c_sharp c_allowed)) hD hS hA [0] rfl
    refine va_calli (va_runV (As := [.int y0_j26]) (rest := []) ⟨hx, hb, hml, hown, hts⟩ (c_M_refuses l dC dI cI cB cJ cZ a_this a_colours a_froms a_sizes a_layersOf a_areas a_xs a_ys a_used a_cornerAt a_counts a_costs a_firsts a_manys a_fs a_px a_py a_groups a_joinF H.size c_code_j26 c_width c_height c_isTraced c_outlines c_points c_hasPolygon c_of c_corners c_costSum c_hasCurves c_curveCount c_sharp c_allowed y0_j26 Q26 hq26) (cwV 1 hts (goodV q_774 q_776 q_p31 q_7 q_777) rfl rfl rfl (by decide +kernel) ⟨Nat.le_of_ble_eq_true rfl, Nat.le_of_ble_eq_true rfl⟩) ⟨fun a U g mk q => by obtain ⟨q0, q1, qP, qK, qD⟩ := q; exact ⟨q0, q1, qP, va_K.moved (u := U) (U := U.calling g mk a) (Vm.Alike.refl U.vm) qK, qD⟩, va_recv hK hPc (ci := 5) (q0 := 0) rfl rfl, fun U hU hW => ⟨rfl, by rw [hU], by rw [hU]; exact hPc, va_K.moved hW.alike hK, hDc.weaken (fun _ _ _ _ => trivial)⟩⟩ rfl rfl hl.1 rfl (lv_room (Nat.le_of_ble_eq_true rfl)) d_M_covered_26 ⟨Nat.le_of_ble_eq_true rfl, Nat.le_of_ble_eq_true rfl⟩) hS (fun q _ h => hFc q h) hFc (fun r26 u26 t H1 locs ht hvm hw hB hz1 hk1 hS => ?_)
    obtain ⟨u26_0, rfl⟩ : ∃ z, z = u26 := ⟨_, rfl⟩
    obtain ⟨hP1, -, hD1⟩ := hB
    rw [ht] at hP1
    have h := h r26 u26_0 hw
    obtain ⟨hP, hD⟩ := va_join (wr := [(a_layersOf, .inl (cI, n_layersOf, .inl f_layersOf)), (a_sizes, .inl (cI, n_sizes, .inl f_sizes)), (a_froms, .inl (cI, n_froms, .inl f_froms)), (a_ys, .inl (cI, n_ys, .inl f_ys)), (a_xs, .inl (cI, n_xs, .inl f_xs))]) (w1 := (cw_M_refuses a_this a_colours a_froms a_sizes a_layersOf a_areas a_xs a_ys a_used a_cornerAt a_counts a_costs a_firsts a_manys a_fs a_px a_py a_groups a_joinF u26_0 c_width c_height c_isTraced c_outlines c_points c_hasPolygon c_of c_corners c_costSum c_hasCurves c_curveCount c_sharp c_allowed)) hP hD [0] [1, 2, 3, 4, 5] rfl rfl (by decide) (by decide) hk1 hFc hP1 hD1
    clear hP1 hD1 hk1 hPc hDc hFc
    generalize H1 = H at hP hS ⊢
    have hP : va_P (dC, dI) vwCl (cw_M_covered cI a_this a_layersOf a_sizes a_froms a_ys a_xs a_colours a_areas a_used a_cornerAt a_counts a_costs a_firsts a_manys a_fs a_px a_py a_groups a_joinF n_layersOf n_sizes n_froms n_ys n_xs u26_0 c_width c_height c_isTraced c_outlines c_points c_hasPolygon c_of c_corners c_costSum c_hasCurves c_curveCount c_sharp c_allowed f_layersOf f_sizes f_froms f_ys f_xs) H := hP.sub [5, 0, 1, 2, 3, 4] rfl
    have hD : va_D A (cw_M_covered cI a_this a_layersOf a_sizes a_froms a_ys a_xs a_colours a_areas a_used a_cornerAt a_counts a_costs a_firsts a_manys a_fs a_px a_py a_groups a_joinF n_layersOf n_sizes n_froms n_ys n_xs u26_0 c_width c_height c_isTraced c_outlines c_points c_hasPolygon c_of c_corners c_costSum c_hasCurves c_curveCount c_sharp c_allowed f_layersOf f_sizes f_froms f_ys f_xs) := hD.sub [5, 0, 1, 2, 3, 4] (by decide) rfl
    refine lv_if_eq (tgt := 34) hx hb d_M_covered_29 (by decide) (fun cc_ => ?_) (fun cc_ => ?_)
    · have h := h.1 cc_
      refine lv_iconst (v := 0) hx hb d_M_covered_34 (by decide) ?_
      refine lv_istore_n (lv' := [(3, .int (0 : Int32)), (0, .ref a_this), (1, .int x1_j26), (2, .int x2_j26)]) hx hb d_M_covered_35 rfl hl (by decide) rfl (fun ls hl => ?_)
      refine lv_iconst (v := 1) hx hb d_M_covered_36 (by decide) ?_
      refine lv_istore (lv' := [(4, .int (1 : Int32)), (3, .int (0 : Int32)), (0, .ref a_this), (1, .int x1_j26), (2, .int x2_j26)]) hx hb d_M_covered_37 hl (by decide) rfl (fun ls hl => ?_)
      refine lpW_ind (Wp := fun z => ∀ (H : Heap) (locs : List Loc) (ls : Array Slot), va_P (dC, dI) vwCl (cw_M_covered cI a_this a_layersOf a_sizes a_froms a_ys a_xs a_colours a_areas a_used a_cornerAt a_counts a_costs a_firsts a_manys a_fs a_px a_py a_groups a_joinF n_layersOf n_sizes n_froms n_ys n_xs u26_0 c_width c_height c_isTraced c_outlines c_points c_hasPolygon c_of c_corners c_costSum c_hasCurves c_curveCount c_sharp c_allowed f_layersOf f_sizes f_froms f_ys f_xs) H → va_D A (cw_M_covered cI a_this a_layersOf a_sizes a_froms a_ys a_xs a_colours a_areas a_used a_cornerAt a_counts a_costs a_firsts a_manys a_fs a_px a_py a_groups a_joinF n_layersOf n_sizes n_froms n_ys n_xs u26_0 c_width c_height c_isTraced c_outlines c_points c_hasPolygon c_of c_corners c_costSum c_hasCurves c_curveCount c_sharp c_allowed f_layersOf f_sizes f_froms f_ys f_xs) → va_S A s.heap H locs → lv_has ls 7 [(0, .ref a_this), (1, .int x1_j26), (2, .int x2_j26), (3, .int z.1), (4, .int z.2)] → W p l e (headSpec w_M_covered ({ frames := 2, cells := 0, slots := 0, locals := 50 })).room s m ([.ref a_this, .int x1, .int x2] : List Value).toArray below meth c H locs 0 0 Qf (F0 m 39 ls [])) h ?_ _ _ _ hP hD hS (lv_sub hl [2, 3, 4, 1, 0] rfl)
      rintro ⟨x3_l39, x4_l39⟩ back39 h hb39 H locs ls hP hD hS hl
      have h : wp_M_covered_L39 n_layersOf n_sizes n_froms n_ys n_xs c_width c_height c_isTraced c_outlines f_layersOf f_sizes f_froms f_ys f_xs u26_0 x1_j26 x2_j26 post back39 x3_l39 x4_l39 := h
      have hP : va_P (dC, dI) vwCl (cw_M_covered cI a_this a_layersOf a_sizes a_froms a_ys a_xs a_colours a_areas a_used a_cornerAt a_counts a_costs a_firsts a_manys a_fs a_px a_py a_groups a_joinF n_layersOf n_sizes n_froms n_ys n_xs u26_0 c_width c_height c_isTraced c_outlines c_points c_hasPolygon c_of c_corners c_costSum c_hasCurves c_curveCount c_sharp c_allowed f_layersOf f_sizes f_froms f_ys f_xs) H := hP
      have hD : va_D A (cw_M_covered cI a_this a_layersOf a_sizes a_froms a_ys a_xs a_colours a_areas a_used a_cornerAt a_counts a_costs a_firsts a_manys a_fs a_px a_py a_groups a_joinF n_layersOf n_sizes n_froms n_ys n_xs u26_0 c_width c_height c_isTraced c_outlines c_points c_hasPolygon c_of c_corners c_costSum c_hasCurves c_curveCount c_sharp c_allowed f_layersOf f_sizes f_froms f_ys f_xs) := hD
      have hl : lv_has ls 7 [(0, .ref a_this), (1, .int x1_j26), (2, .int x2_j26), (3, .int x3_l39), (4, .int x4_l39)] := hl
      unfold wp_M_covered_L39 at h
      have J110 : ∀ (x4_j110 : Int32) (y0_j110 : Int32) (H : Heap) (locs : List Loc) (ls : Array Slot), wp_M_covered_J110 n_layersOf n_sizes n_froms n_ys n_xs c_width c_height c_isTraced c_outlines f_layersOf f_sizes f_froms f_ys f_xs u26_0 x1_j26 x2_j26 x4_j110 y0_j110 back39 post → va_P (dC, dI) vwCl (cw_M_covered cI a_this a_layersOf a_sizes a_froms a_ys a_xs a_colours a_areas a_used a_cornerAt a_counts a_costs a_firsts a_manys a_fs a_px a_py a_groups a_joinF n_layersOf n_sizes n_froms n_ys n_xs u26_0 c_width c_height c_isTraced c_outlines c_points c_hasPolygon c_of c_corners c_costSum c_hasCurves c_curveCount c_sharp c_allowed f_layersOf f_sizes f_froms f_ys f_xs) H → va_D A (cw_M_covered cI a_this a_layersOf a_sizes a_froms a_ys a_xs a_colours a_areas a_used a_cornerAt a_counts a_costs a_firsts a_manys a_fs a_px a_py a_groups a_joinF n_layersOf n_sizes n_froms n_ys n_xs u26_0 c_width c_height c_isTraced c_outlines c_points c_hasPolygon c_of c_corners c_costSum c_hasCurves c_curveCount c_sharp c_allowed f_layersOf f_sizes f_froms f_ys f_xs) → va_S A s.heap H locs → lv_has ls 7 [(0, .ref a_this), (1, .int x1_j26), (2, .int x2_j26), (4, .int x4_j110)] → W p l e (headSpec w_M_covered ({ frames := 2, cells := 0, slots := 0, locals := 50 })).room s m ([.ref a_this, .int x1, .int x2] : List Value).toArray below meth c H locs 0 0 Qf (F0 m 110 ls [.int y0_j110]) := by
        intro x4_j110 y0_j110 H locs ls h hP hD hS hl
        unfold wp_M_covered_J110 at h
        refine lv_istore_n (lv' := [(3, .int y0_j110), (0, .ref a_this), (1, .int x1_j26), (2, .int x2_j26), (4, .int x4_j110)]) hx hb d_M_covered_110 rfl hl (by decide) rfl (fun ls hl => ?_)
        obtain ⟨x4_111, e_x4_111⟩ : ∃ y : Int32, y = x4_j110 + (1 : Int32) := ⟨_, rfl⟩
        have h := h x4_111 e_x4_111
        refine lv_iinc (v := x4_111) (lv' := [(4, .int x4_111), (3, .int y0_j110), (0, .ref a_this), (1, .int x1_j26), (2, .int x2_j26)]) hx hb d_M_covered_111 hl (k := 4) rfl (by rw [e_x4_111]; rfl) (by decide) rfl (fun ls hl => ?_)
        refine lv_goto (tgt := 39) hx hb d_M_covered_114 (by decide) ?_
        exact hb39 _ h _ _ _ hP hD hS (lv_sub hl [2, 3, 4, 1, 0] rfl)
      refine lv_iload hx hb d_M_covered_39 (lv_at hl 4 rfl) ?_
      refine lv_bipush (v := 8) hx hb d_M_covered_41 (by decide) ?_
      refine lv_icmp_ge (tgt := 117) hx hb d_M_covered_43 (by decide) (fun cc_ => ?_) (fun cc_ => ?_)
      · have h := h.1 cc_
        refine lv_iload_n hx hb d_M_covered_117 rfl (lv_at hl 3 rfl) ?_
        subst hQf
        exact W.iret (v := x3_l39) hx hb hr (fun t ht hW => ⟨⟨x3_l39, u26_0, rfl, h, by rw [ht]; exact hP, va_K.moved hW.alike hK, hD⟩, hS.F ht⟩) hS.2.2 d_M_covered_118
      · have h := h.2 cc_
        refine lv_iconst (v := 0) hx hb d_M_covered_46 (by decide) ?_
        refine lv_istore (lv' := [(5, .int (0 : Int32)), (0, .ref a_this), (1, .int x1_j26), (2, .int x2_j26), (3, .int x3_l39), (4, .int x4_l39)]) hx hb d_M_covered_47 hl (by decide) rfl (fun ls hl => ?_)
        refine lv_iconst (v := 0) hx hb d_M_covered_49 (by decide) ?_
        refine lv_istore (lv' := [(6, .int (0 : Int32)), (5, .int (0 : Int32)), (0, .ref a_this), (1, .int x1_j26), (2, .int x2_j26), (3, .int x3_l39), (4, .int x4_l39)]) hx hb d_M_covered_50 hl (by decide) rfl (fun ls hl => ?_)
        refine lpW_ind (Wp := fun z => ∀ (H : Heap) (locs : List Loc) (ls : Array Slot), va_P (dC, dI) vwCl (cw_M_covered cI a_this a_layersOf a_sizes a_froms a_ys a_xs a_colours a_areas a_used a_cornerAt a_counts a_costs a_firsts a_manys a_fs a_px a_py a_groups a_joinF n_layersOf n_sizes n_froms n_ys n_xs u26_0 c_width c_height c_isTraced c_outlines c_points c_hasPolygon c_of c_corners c_costSum c_hasCurves c_curveCount c_sharp c_allowed f_layersOf f_sizes f_froms f_ys f_xs) H → va_D A (cw_M_covered cI a_this a_layersOf a_sizes a_froms a_ys a_xs a_colours a_areas a_used a_cornerAt a_counts a_costs a_firsts a_manys a_fs a_px a_py a_groups a_joinF n_layersOf n_sizes n_froms n_ys n_xs u26_0 c_width c_height c_isTraced c_outlines c_points c_hasPolygon c_of c_corners c_costSum c_hasCurves c_curveCount c_sharp c_allowed f_layersOf f_sizes f_froms f_ys f_xs) → va_S A s.heap H locs → lv_has ls 7 [(0, .ref a_this), (1, .int x1_j26), (2, .int x2_j26), (3, .int x3_l39), (4, .int x4_l39), (5, .int z.1), (6, .int z.2)] → W p l e (headSpec w_M_covered ({ frames := 2, cells := 0, slots := 0, locals := 50 })).room s m ([.ref a_this, .int x1, .int x2] : List Value).toArray below meth c H locs 0 0 Qf (F0 m 52 ls [])) h ?_ _ _ _ hP hD hS (lv_sub hl [2, 3, 4, 5, 6, 1, 0] rfl)
        rintro ⟨x5_l52, x6_l52⟩ back52 h hb52 H locs ls hP hD hS hl
        have h : wp_M_covered_L52 n_layersOf n_sizes n_froms n_ys n_xs c_width c_height c_isTraced c_outlines f_layersOf f_sizes f_froms f_ys f_xs u26_0 x1_j26 x2_j26 x3_l39 x4_l39 back39 post back52 x5_l52 x6_l52 := h
        have hP : va_P (dC, dI) vwCl (cw_M_covered cI a_this a_layersOf a_sizes a_froms a_ys a_xs a_colours a_areas a_used a_cornerAt a_counts a_costs a_firsts a_manys a_fs a_px a_py a_groups a_joinF n_layersOf n_sizes n_froms n_ys n_xs u26_0 c_width c_height c_isTraced c_outlines c_points c_hasPolygon c_of c_corners c_costSum c_hasCurves c_curveCount c_sharp c_allowed f_layersOf f_sizes f_froms f_ys f_xs) H := hP
        have hD : va_D A (cw_M_covered cI a_this a_layersOf a_sizes a_froms a_ys a_xs a_colours a_areas a_used a_cornerAt a_counts a_costs a_firsts a_manys a_fs a_px a_py a_groups a_joinF n_layersOf n_sizes n_froms n_ys n_xs u26_0 c_width c_height c_isTraced c_outlines c_points c_hasPolygon c_of c_corners c_costSum c_hasCurves c_curveCount c_sharp c_allowed f_layersOf f_sizes f_froms f_ys f_xs) := hD
        have hl : lv_has ls 7 [(0, .ref a_this), (1, .int x1_j26), (2, .int x2_j26), (3, .int x3_l39), (4, .int x4_l39), (5, .int x5_l52), (6, .int x6_l52)] := hl
        unfold wp_M_covered_L52 at h
        have J87 : ∀ (x6_j87 : Int32) (y0_j87 : Int32) (y1_j87 : Int32) (H : Heap) (locs : List Loc) (ls : Array Slot), wp_M_covered_J87 n_layersOf n_sizes n_froms n_ys n_xs c_width c_height c_isTraced c_outlines f_layersOf f_sizes f_froms f_ys f_xs u26_0 x1_j26 x2_j26 x3_l39 x4_l39 x6_j87 y0_j87 y1_j87 back52 back39 post → va_P (dC, dI) vwCl (cw_M_covered cI a_this a_layersOf a_sizes a_froms a_ys a_xs a_colours a_areas a_used a_cornerAt a_counts a_costs a_firsts a_manys a_fs a_px a_py a_groups a_joinF n_layersOf n_sizes n_froms n_ys n_xs u26_0 c_width c_height c_isTraced c_outlines c_points c_hasPolygon c_of c_corners c_costSum c_hasCurves c_curveCount c_sharp c_allowed f_layersOf f_sizes f_froms f_ys f_xs) H → va_D A (cw_M_covered cI a_this a_layersOf a_sizes a_froms a_ys a_xs a_colours a_areas a_used a_cornerAt a_counts a_costs a_firsts a_manys a_fs a_px a_py a_groups a_joinF n_layersOf n_sizes n_froms n_ys n_xs u26_0 c_width c_height c_isTraced c_outlines c_points c_hasPolygon c_of c_corners c_costSum c_hasCurves c_curveCount c_sharp c_allowed f_layersOf f_sizes f_froms f_ys f_xs) → va_S A s.heap H locs → lv_has ls 7 [(0, .ref a_this), (1, .int x1_j26), (2, .int x2_j26), (3, .int x3_l39), (4, .int x4_l39), (6, .int x6_j87)] → W p l e (headSpec w_M_covered ({ frames := 2, cells := 0, slots := 0, locals := 50 })).room s m ([.ref a_this, .int x1, .int x2] : List Value).toArray below meth c H locs 0 0 Qf (F0 m 87 ls [.int y0_j87, .int y1_j87]) := by
          intro x6_j87 y0_j87 y1_j87 H locs ls h hP hD hS hl
          unfold wp_M_covered_J87 at h
          refine lv_iadd hx hb d_M_covered_87 ?_
          refine lv_topi (fun x5_88 e_x5_88 => ?_)
          have h := h x5_88 e_x5_88
          refine lv_istore (lv' := [(5, .int x5_88), (0, .ref a_this), (1, .int x1_j26), (2, .int x2_j26), (3, .int x3_l39), (4, .int x4_l39), (6, .int x6_j87)]) hx hb d_M_covered_88 hl (by decide) rfl (fun ls hl => ?_)
          obtain ⟨x6_90, e_x6_90⟩ : ∃ y : Int32, y = x6_j87 + (1 : Int32) := ⟨_, rfl⟩
          have h := h x6_90 e_x6_90
          refine lv_iinc (v := x6_90) (lv' := [(6, .int x6_90), (5, .int x5_88), (0, .ref a_this), (1, .int x1_j26), (2, .int x2_j26), (3, .int x3_l39), (4, .int x4_l39)]) hx hb d_M_covered_90 hl (k := 6) rfl (by rw [e_x6_90]; rfl) (by decide) rfl (fun ls hl => ?_)
          refine lv_goto (tgt := 52) hx hb d_M_covered_93 (by decide) ?_
          exact hb52 _ h _ _ _ hP hD hS (lv_sub hl [2, 3, 4, 5, 6, 1, 0] rfl)
        refine lv_iload hx hb d_M_covered_52 (lv_at hl 6 rfl) ?_
        refine lv_aload_n hx hb d_M_covered_54 rfl (lv_at hl 0 rfl) ?_
        refine va_get (D := (dC, dI)) (ci := 5) (v := .int c_outlines) (C := R_M) (T := F_M) (N := 32) hx hb hts i_M_in hown hK hP 0 rfl rfl 5 (by decide) (hts _ q_666) (fun _ h9 => h9) rfl d_M_covered_55 ?_
        refine lv_icmp_ge (tgt := 96) hx hb d_M_covered_58 (by decide) (fun cc_ => ?_) (fun cc_ => ?_)
        · have h := h.1 cc_
          refine lv_iload hx hb d_M_covered_96 (lv_at hl 5 rfl) ?_
          refine lv_iconst (v := 2) hx hb d_M_covered_98 (by decide) ?_
          refine lv_irem hx hb d_M_covered_99 (by decide) ?_
          refine lv_iconst (v := 1) hx hb d_M_covered_100 (by decide) ?_
          refine lv_icmp_ne (tgt := 109) hx hb d_M_covered_101 (by decide) (fun cc_ => ?_) (fun cc_ => ?_)
          · have h := h.1 cc_
            refine lv_iload_n hx hb d_M_covered_109 rfl (lv_at hl 3 rfl) ?_
            exact J110 x4_l39 x3_l39 _ _ _ h hP hD hS (lv_sub hl [0, 1, 2, 4] rfl)
          · have h := h.2 cc_
            refine lv_iload hx hb d_M_covered_104 (lv_at hl 4 rfl) ?_
            refine lv_goto (tgt := 110) hx hb d_M_covered_106 (by decide) ?_
            exact J110 x4_l39 x4_l39 _ _ _ h hP hD hS (lv_sub hl [0, 1, 2, 4] rfl)
        · have h := h.2 cc_
          refine lv_iload hx hb d_M_covered_61 (lv_at hl 5 rfl) ?_
          refine lv_aload_n hx hb d_M_covered_63 rfl (lv_at hl 0 rfl) ?_
          refine va_get (D := (dC, dI)) (ci := 5) (v := .ref a_layersOf) (C := R_M) (T := F_M) (N := 32) hx hb hts i_M_in hown hK hP 0 rfl rfl 8 (by decide) (hts _ q_669) (fun _ h9 => h9) rfl d_M_covered_64 ?_
          refine lv_iload hx hb d_M_covered_67 (lv_at hl 6 rfl) ?_
          obtain ⟨hin, h⟩ := h
          refine va_iald hx hb hK hP 1 0 rfl rfl hin d_M_covered_69 ?_
          refine lv_iload hx hb d_M_covered_70 (lv_at hl 4 rfl) ?_
          refine lv_icmp_ne (tgt := 86) hx hb d_M_covered_72 (by decide) (fun cc_ => ?_) (fun cc_ => ?_)
          · have h := h.1 cc_
            refine lv_iconst (v := 0) hx hb d_M_covered_86 (by decide) ?_
            exact J87 x6_l52 (0 : Int32) x5_l52 _ _ _ h hP hD hS (lv_sub hl [0, 1, 2, 3, 4, 6] rfl)
          · have h := h.2 cc_
            refine lv_aload_n hx hb d_M_covered_75 rfl (lv_at hl 0 rfl) ?_
            refine lv_iload hx hb d_M_covered_76 (lv_at hl 6 rfl) ?_
            refine lv_iload_n hx hb d_M_covered_78 rfl (lv_at hl 1 rfl) ?_
            refine lv_iload_n hx hb d_M_covered_79 rfl (lv_at hl 2 rfl) ?_
            obtain ⟨Q80, hq80, h⟩ := h
            have hPc := hP.sub (ws' := (cw_M_upright cI a_this a_sizes a_froms a_ys a_xs a_colours a_layersOf a_areas a_used a_cornerAt a_counts a_costs a_firsts a_manys a_fs a_px a_py a_groups a_joinF n_sizes n_froms n_ys n_xs u26_0 c_width c_height c_isTraced c_outlines c_points c_hasPolygon c_of c_corners c_costSum c_hasCurves c_curveCount c_sharp c_allowed f_sizes f_froms f_ys f_xs)) [0, 2, 3, 4, 5] rfl
            have hDc := hD.sub (ws' := (cw_M_upright cI a_this a_sizes a_froms a_ys a_xs a_colours a_layersOf a_areas a_used a_cornerAt a_counts a_costs a_firsts a_manys a_fs a_px a_py a_groups a_joinF n_sizes n_froms n_ys n_xs u26_0 c_width c_height c_isTraced c_outlines c_points c_hasPolygon c_of c_corners c_costSum c_hasCurves c_curveCount c_sharp c_allowed f_sizes f_froms f_ys f_xs)) [0, 2, 3, 4, 5] (by decide) rfl
            have hFc := va_free (wc := (cw_M_upright cI a_this a_sizes a_froms a_ys a_xs a_colours a_layersOf a_areas a_used a_cornerAt a_counts a_costs a_firsts a_manys a_fs a_px a_py a_groups a_joinF n_sizes n_froms n_ys n_xs u26_0 c_width c_height c_isTraced c_outlines c_points c_hasPolygon c_of c_corners c_costSum c_hasCurves c_curveCount c_sharp c_allowed f_sizes f_froms f_ys f_xs)) hD hS hA [0, 2, 3, 4, 5] rfl
            refine va_calli (va_runV (As := [.int x6_l52, .int x1_j26, .int x2_j26]) (rest := [.int x5_l52]) ⟨hx, hb, hml, hown, hts⟩ (c_M_upright l dC dI cI cB cJ cZ a_this a_sizes a_froms a_ys a_xs a_colours a_layersOf a_areas a_used a_cornerAt a_counts a_costs a_firsts a_manys a_fs a_px a_py a_groups a_joinF H.size n_sizes n_froms n_ys n_xs u26_0 c_width c_height c_isTraced c_outlines c_points c_hasPolygon c_of c_corners c_costSum c_hasCurves c_curveCount c_sharp c_allowed f_sizes f_froms f_ys f_xs x6_l52 x1_j26 x2_j26 Q80 hq80) (cwV 3 hts (goodV q_828 q_830 q_p41 q_7 q_831) rfl rfl rfl (by decide +kernel) ⟨Nat.le_of_ble_eq_true rfl, Nat.le_of_ble_eq_true rfl⟩) ⟨fun a U g mk q => by obtain ⟨q0, q1, qP, qK, qD⟩ := q; exact ⟨q0, q1, qP, va_K.moved (u := U) (U := U.calling g mk a) (Vm.Alike.refl U.vm) qK, qD⟩, va_recv hK hPc (ci := 5) (q0 := 0) rfl rfl, fun U hU hW => ⟨rfl, by rw [hU], by rw [hU]; exact hPc, va_K.moved hW.alike hK, hDc.weaken (fun _ _ _ _ => trivial)⟩⟩ rfl rfl hl.1 rfl (lv_room (Nat.le_of_ble_eq_true rfl)) d_M_covered_80 ⟨Nat.le_of_ble_eq_true rfl, Nat.le_of_ble_eq_true rfl⟩) hS (fun q _ h => hFc q h) hFc (fun r80 u80 t H1 locs ht hvm hw hB hz1 hk1 hS => ?_)
            cases u80
            obtain ⟨hP1, -, hD1⟩ := hB
            rw [ht] at hP1
            have h := h r80 hw
            obtain ⟨hP, hD⟩ := va_join (wr := [(a_layersOf, .inl (cI, n_layersOf, .inl f_layersOf))]) (w1 := (cw_M_upright cI a_this a_sizes a_froms a_ys a_xs a_colours a_layersOf a_areas a_used a_cornerAt a_counts a_costs a_firsts a_manys a_fs a_px a_py a_groups a_joinF n_sizes n_froms n_ys n_xs u26_0 c_width c_height c_isTraced c_outlines c_points c_hasPolygon c_of c_corners c_costSum c_hasCurves c_curveCount c_sharp c_allowed f_sizes f_froms f_ys f_xs)) hP hD [0, 2, 3, 4, 5] [1] rfl rfl (by decide) (by decide) hk1 hFc hP1 hD1
            clear hP1 hD1 hk1 hPc hDc hFc
            generalize H1 = H at hP hS ⊢
            have hP : va_P (dC, dI) vwCl (cw_M_covered cI a_this a_layersOf a_sizes a_froms a_ys a_xs a_colours a_areas a_used a_cornerAt a_counts a_costs a_firsts a_manys a_fs a_px a_py a_groups a_joinF n_layersOf n_sizes n_froms n_ys n_xs u26_0 c_width c_height c_isTraced c_outlines c_points c_hasPolygon c_of c_corners c_costSum c_hasCurves c_curveCount c_sharp c_allowed f_layersOf f_sizes f_froms f_ys f_xs) H := hP.sub [1, 0, 2, 3, 4, 5] rfl
            have hD : va_D A (cw_M_covered cI a_this a_layersOf a_sizes a_froms a_ys a_xs a_colours a_areas a_used a_cornerAt a_counts a_costs a_firsts a_manys a_fs a_px a_py a_groups a_joinF n_layersOf n_sizes n_froms n_ys n_xs u26_0 c_width c_height c_isTraced c_outlines c_points c_hasPolygon c_of c_corners c_costSum c_hasCurves c_curveCount c_sharp c_allowed f_layersOf f_sizes f_froms f_ys f_xs) := hD.sub [1, 0, 2, 3, 4, 5] (by decide) rfl
            refine lv_goto (tgt := 87) hx hb d_M_covered_83 (by decide) ?_
            exact J87 x6_l52 r80 x5_l52 _ _ _ h hP hD hS (lv_sub hl [0, 1, 2, 3, 4, 6] rfl)
    · have h := h.2 cc_
      refine lv_iconst (v := 0) hx hb d_M_covered_32 (by decide) ?_
      subst hQf
      exact W.iret (v := (0 : Int32)) hx hb hr (fun t ht hW => ⟨⟨(0 : Int32), u26_0, rfl, h, by rw [ht]; exact hP, va_K.moved hW.alike hK, hD⟩, hS.F ht⟩) hS.2.2 d_M_covered_33
  refine lv_aload_n hx hb d_M_covered_0 rfl (lv_at hl 0 rfl) ?_
  refine lv_aload_n hx hb d_M_covered_1 rfl (lv_at hl 0 rfl) ?_
  refine va_get (D := (dC, dI)) (ci := 5) (v := .int c_isTraced) (C := R_M) (T := F_M) (N := 32) hx hb hts i_M_in hown hK hP 0 rfl rfl 4 (by decide) (hts _ q_665) (fun _ h9 => h9) rfl d_M_covered_2 ?_
  refine lv_if_ne (tgt := 12) hx hb d_M_covered_5 (by decide) (fun cc_ => ?_) (fun cc_ => ?_)
  · have h := h.1 cc_
    refine lv_aload_n hx hb d_M_covered_12 rfl (lv_at hl 0 rfl) ?_
    refine lv_iload_n hx hb d_M_covered_13 rfl (lv_at hl 1 rfl) ?_
    refine lv_iload_n hx hb d_M_covered_14 rfl (lv_at hl 2 rfl) ?_
    obtain ⟨Q15, hq15, h⟩ := h
    have hPc := hP.sub (ws' := (cw_M_isSample a_this a_colours a_froms a_sizes a_layersOf a_areas a_xs a_ys a_used a_cornerAt a_counts a_costs a_firsts a_manys a_fs a_px a_py a_groups a_joinF c_code c_width c_height c_isTraced c_outlines c_points c_hasPolygon c_of c_corners c_costSum c_hasCurves c_curveCount c_sharp c_allowed)) [0] rfl
    have hDc := hD.sub (ws' := (cw_M_isSample a_this a_colours a_froms a_sizes a_layersOf a_areas a_xs a_ys a_used a_cornerAt a_counts a_costs a_firsts a_manys a_fs a_px a_py a_groups a_joinF c_code c_width c_height c_isTraced c_outlines c_points c_hasPolygon c_of c_corners c_costSum c_hasCurves c_curveCount c_sharp c_allowed)) [0] (by decide) rfl
    have hFc := va_free (wc := (cw_M_isSample a_this a_colours a_froms a_sizes a_layersOf a_areas a_xs a_ys a_used a_cornerAt a_counts a_costs a_firsts a_manys a_fs a_px a_py a_groups a_joinF c_code c_width c_height c_isTraced c_outlines c_points c_hasPolygon c_of c_corners c_costSum c_hasCurves c_curveCount c_sharp c_allowed)) hD hS hA [0] rfl
    refine va_calli (va_runV (As := [.int x1, .int x2]) (rest := [.ref a_this]) ⟨hx, hb, hml, hown, hts⟩ (c_M_isSample l dC dI cI cB cJ cZ a_this a_colours a_froms a_sizes a_layersOf a_areas a_xs a_ys a_used a_cornerAt a_counts a_costs a_firsts a_manys a_fs a_px a_py a_groups a_joinF s.heap.size c_code c_width c_height c_isTraced c_outlines c_points c_hasPolygon c_of c_corners c_costSum c_hasCurves c_curveCount c_sharp c_allowed x1 x2 Q15 hq15) (cwV 2 hts (goodV q_767 q_769 q_p30 q_7 q_770) rfl rfl rfl (by decide +kernel) ⟨Nat.le_of_ble_eq_true rfl, Nat.le_of_ble_eq_true rfl⟩) ⟨fun a U g mk q => by obtain ⟨q0, q1, qP, qK, qD⟩ := q; exact ⟨q0, q1, qP, va_K.moved (u := U) (U := U.calling g mk a) (Vm.Alike.refl U.vm) qK, qD⟩, va_recv hK hPc (ci := 5) (q0 := 0) rfl rfl, fun U hU hW => ⟨rfl, by rw [hU], by rw [hU]; exact hPc, va_K.moved hW.alike hK, hDc.weaken (fun _ _ _ _ => trivial)⟩⟩ rfl rfl hl.1 rfl (lv_room (Nat.le_of_ble_eq_true rfl)) d_M_covered_15 ⟨Nat.le_of_ble_eq_true rfl, Nat.le_of_ble_eq_true rfl⟩) hS (fun q _ h => hFc q h) hFc (fun r15 u15 t H1 locs ht hvm hw hB hz1 hk1 hS => ?_)
    cases u15
    obtain ⟨hP1, -, hD1⟩ := hB
    rw [ht] at hP1
    have h := h r15 hw
    obtain ⟨hP, hD⟩ := va_join (wr := [(a_layersOf, .inl (cI, n_layersOf, .inl f_layersOf)), (a_sizes, .inl (cI, n_sizes, .inl f_sizes)), (a_froms, .inl (cI, n_froms, .inl f_froms)), (a_ys, .inl (cI, n_ys, .inl f_ys)), (a_xs, .inl (cI, n_xs, .inl f_xs))]) (w1 := (cw_M_isSample a_this a_colours a_froms a_sizes a_layersOf a_areas a_xs a_ys a_used a_cornerAt a_counts a_costs a_firsts a_manys a_fs a_px a_py a_groups a_joinF c_code c_width c_height c_isTraced c_outlines c_points c_hasPolygon c_of c_corners c_costSum c_hasCurves c_curveCount c_sharp c_allowed)) hP hD [0] [1, 2, 3, 4, 5] rfl rfl (by decide) (by decide) hk1 hFc hP1 hD1
    clear hP1 hD1 hk1 hPc hDc hFc
    generalize H1 = H at hP hS ⊢
    have hP : va_P (dC, dI) vwCl (cw_M_covered cI a_this a_layersOf a_sizes a_froms a_ys a_xs a_colours a_areas a_used a_cornerAt a_counts a_costs a_firsts a_manys a_fs a_px a_py a_groups a_joinF n_layersOf n_sizes n_froms n_ys n_xs c_code c_width c_height c_isTraced c_outlines c_points c_hasPolygon c_of c_corners c_costSum c_hasCurves c_curveCount c_sharp c_allowed f_layersOf f_sizes f_froms f_ys f_xs) H := hP.sub [5, 0, 1, 2, 3, 4] rfl
    have hD : va_D A (cw_M_covered cI a_this a_layersOf a_sizes a_froms a_ys a_xs a_colours a_areas a_used a_cornerAt a_counts a_costs a_firsts a_manys a_fs a_px a_py a_groups a_joinF n_layersOf n_sizes n_froms n_ys n_xs c_code c_width c_height c_isTraced c_outlines c_points c_hasPolygon c_of c_corners c_costSum c_hasCurves c_curveCount c_sharp c_allowed f_layersOf f_sizes f_froms f_ys f_xs) := hD.sub [5, 0, 1, 2, 3, 4] (by decide) rfl
    refine lv_if_ne (tgt := 25) hx hb d_M_covered_18 (by decide) (fun cc_ => ?_) (fun cc_ => ?_)
    · have h := h.1 cc_
      refine lv_iconst (v := 0) hx hb d_M_covered_25 (by decide) ?_
      exact J26 x1 x2 (0 : Int32) c_code _ _ _ h hP hD hS (lv_sub hl [0, 1, 2] rfl)
    · have h := h.2 cc_
      refine lv_iconst (v := 2) hx hb d_M_covered_21 (by decide) ?_
      refine lv_goto (tgt := 26) hx hb d_M_covered_22 (by decide) ?_
      exact J26 x1 x2 (2 : Int32) c_code _ _ _ h hP hD hS (lv_sub hl [0, 1, 2] rfl)
  · have h := h.2 cc_
    refine lv_iconst (v := 1) hx hb d_M_covered_8 (by decide) ?_
    refine lv_goto (tgt := 26) hx hb d_M_covered_9 (by decide) ?_
    exact J26 x1 x2 (1 : Int32) c_code _ _ _ h hP hD hS (lv_sub hl [0, 1, 2] rfl)
def wp_M_apart (x0 : Int32) (x1 : Int32) (post : Int32 → Unit → Prop) : Prop :=
  (x1 ≤ x0 → post (x0 - x1) ()) ∧ (¬ x1 ≤ x0 → post (x1 - x0) ())
abbrev cw_M_apart  : va_W := []
abbrev qq_M_apart (dC : Nat → ClassId) (dI : Nat → Nat → Nat) (cI cB cJ cZ : ClassId) (A : Nat → Prop) (post : Int32 → Unit → Prop) : Array Value → State → Outcome → State → Prop := va_Qi post (fun _ t => va_P (dC, dI) vwCl (cw_M_apart) t.heap ∧ va_K (dC, dI) vwCl [(cI, .int), (cB, .byte), (cJ, .long), (cZ, .boolean)] t ∧ va_D A (cw_M_apart)) A
set_option maxHeartbeats 4000000 in
set_option maxRecDepth 100000 in
theorem c_M_apart (l : Launch) (dC : Nat → ClassId) (dI : Nat → Nat → Nat) (cI cB cJ cZ : ClassId) (sz : Nat) (x0 : Int32) (x1 : Int32) (post : Int32 → Unit → Prop) (h : wp_M_apart x0 x1 post) : Met l y_M_apart w_M_apart ({ frames := 0, cells := 0, slots := 0, locals := 0 }) (va_Pc [.int x0, .int x1] (fun U => U.heap.size = sz ∧ va_P (dC, dI) vwCl (cw_M_apart) U.heap ∧ va_K (dC, dI) vwCl [(cI, .int), (cB, .byte), (cJ, .long), (cZ, .boolean)] U ∧ va_D (fun _ => True) (cw_M_apart))) (qq_M_apart dC dI cI cB cJ cZ (va_A (cw_M_apart) sz) post) 0 0 (va_A (cw_M_apart) sz) := by
  refine Met.ofW (cc := b_M_apart) (maxL := 2) (ret := (some .int)) (by decide +kernel) rfl ?_
  intro p e s m args below meth c s₁ B hml hv
  obtain ⟨rfl, hsz, hP, hK, hD0⟩ := hv
  have hx := B.exec
  have hb := B.bytes
  have hr := B.returns
  have hts : ∀ w ∈ allW, w.before _ s = true := fun w hw => atoms_spec (ws := w_M_apart) B.pre w (List.mem_cons_of_mem _ hw)
  have hown : s.vm.findClass R_M = some m.cls := findClass_of_methodNamed B.named
  have hlocks := B.notSynchronized
  subst hsz
  have hD := hD0.self (sz := s.heap.size)
  generalize hAe : va_A (cw_M_apart) s.heap.size = A at hD ⊢
  have hA : ∀ q : Nat, s.heap.size ≤ q → A q := fun q h => by rw [← hAe]; exact Or.inr h
  have hS : va_S A s.heap s.heap [] := va_S.rf
  clear hD0
  generalize hQf : MQ below (qq_M_apart dC dI cI cB cJ cZ A post) ([.int x0, .int x1] : List Value).toArray s 0 0 A = Qf
  have hl := lv_entry ([.int x0, .int x1]) (n := 2) (Nat.le_of_ble_eq_true rfl)
  rw [lg_entry_eq]
  generalize (lg_sl ([.int x0, .int x1]) ++ List.replicate (2 - (lg_sl ([.int x0, .int x1])).length) Slot.unset).toArray = ls at hl ⊢
  have hl : lv_has ls 2 [(0, .int x0), (1, .int x1)] := hl
  unfold wp_M_apart at h
  refine lv_iload_n hx hb d_M_apart_0 rfl (lv_at hl 0 rfl) ?_
  refine lv_iload_n hx hb d_M_apart_1 rfl (lv_at hl 1 rfl) ?_
  refine lv_icmp_ge (tgt := 11) hx hb d_M_apart_2 (by decide) (fun cc_ => ?_) (fun cc_ => ?_)
  · have h := h.1 cc_
    refine lv_iload_n hx hb d_M_apart_11 rfl (lv_at hl 0 rfl) ?_
    refine lv_iload_n hx hb d_M_apart_12 rfl (lv_at hl 1 rfl) ?_
    refine lv_isub hx hb d_M_apart_13 ?_
    subst hQf
    exact W.iret (v := (x0 - x1)) hx hb hr (fun t ht hW => ⟨⟨(x0 - x1), (), rfl, h, by rw [ht]; exact hP, va_K.moved hW.alike hK, hD⟩, hS.F ht⟩) hS.2.2 d_M_apart_14
  · have h := h.2 cc_
    refine lv_iload_n hx hb d_M_apart_5 rfl (lv_at hl 1 rfl) ?_
    refine lv_iload_n hx hb d_M_apart_6 rfl (lv_at hl 0 rfl) ?_
    refine lv_isub hx hb d_M_apart_7 ?_
    refine lv_goto (tgt := 14) hx hb d_M_apart_8 (by decide) ?_
    subst hQf
    exact W.iret (v := (x1 - x0)) hx hb hr (fun t ht hW => ⟨⟨(x1 - x0), (), rfl, h, by rw [ht]; exact hP, va_K.moved hW.alike hK, hD⟩, hS.F ht⟩) hS.2.2 d_M_apart_14
def wp_M_costOf_J238 (n_froms n_sizes n_xs n_ys : Nat) (f_froms : Nat → Int32) (f_sizes : Nat → Int32) (f_xs : Nat → Int32) (f_ys : Nat → Int32) (x1 : Int32) (x2 : Int32) (x3 : Int32) (x5 : Int32) (x6 : Int32) (x7 : Int32) (x8 : Int32) (x11 : Int32) (x13 : Int32) (x14 : Int32) (y0 : Int32) (y1 : Int32) (back89 : (Int32 × Int32 × Int32) → Prop) (post : Int32 → Unit → Prop) : Prop :=
  ∀ x12_239 : Int32, x12_239 = (y1 ||| y0) → ∀ x14_241 : Int32, x14_241 = x14 + (1 : Int32) → back89 (x12_239, x13, x14_241)
def wp_M_costOf_J155 (n_froms n_sizes n_xs n_ys : Nat) (f_froms : Nat → Int32) (f_sizes : Nat → Int32) (f_xs : Nat → Int32) (f_ys : Nat → Int32) (x1 : Int32) (x2 : Int32) (x3 : Int32) (x5 : Int32) (x6 : Int32) (x7 : Int32) (x8 : Int32) (x11 : Int32) (x12 : Int32) (x13 : Int32) (x14 : Int32) (x15 : Int32) (x16 : Int32) (y0 : Int32) (back89 : (Int32 × Int32 × Int32) → Prop) (post : Int32 → Unit → Prop) : Prop :=
  (((2 : Int32) * y0) ≤ x11 → ∀ x13_173 : Int32, x13_173 = (x13 + y0) → ∃ Q183 : Int32 → Unit → Prop, wp_M_xAt n_froms n_sizes n_xs f_froms f_sizes f_xs x1 ((x2 + x14) + (1 : Int32)) Q183 ∧ ∀ (r183 : Int32), Q183 r183 () → ∀ x19_189 : Int32, x19_189 = (r183 - x15) → ∃ Q199 : Int32 → Unit → Prop, wp_M_yAt n_froms n_sizes n_ys f_froms f_sizes f_ys x1 ((x2 + x14) + (1 : Int32)) Q199 ∧ ∀ (r199 : Int32), Q199 r199 () → ∀ x20_205 : Int32, x20_205 = (r199 - x16) → (x19_189 ≤ 0 → (0 ≤ x19_189 → (x20_205 ≤ 0 → wp_M_costOf_J238 n_froms n_sizes n_xs n_ys f_froms f_sizes f_xs f_ys x1 x2 x3 x5 x6 x7 x8 x11 x13_173 x14 (8 : Int32) x12 back89 post) ∧ (¬ x20_205 ≤ 0 → wp_M_costOf_J238 n_froms n_sizes n_xs n_ys f_froms f_sizes f_xs f_ys x1 x2 x3 x5 x6 x7 x8 x11 x13_173 x14 (4 : Int32) x12 back89 post)) ∧ (¬ 0 ≤ x19_189 → wp_M_costOf_J238 n_froms n_sizes n_xs n_ys f_froms f_sizes f_xs f_ys x1 x2 x3 x5 x6 x7 x8 x11 x13_173 x14 (2 : Int32) x12 back89 post)) ∧ (¬ x19_189 ≤ 0 → wp_M_costOf_J238 n_froms n_sizes n_xs n_ys f_froms f_sizes f_xs f_ys x1 x2 x3 x5 x6 x7 x8 x11 x13_173 x14 (1 : Int32) x12 back89 post)) ∧ (¬ ((2 : Int32) * y0) ≤ x11 → post (-1 : Int32) ())
def wp_M_costOf_L89 (n_froms n_sizes n_xs n_ys : Nat) (f_froms : Nat → Int32) (f_sizes : Nat → Int32) (f_xs : Nat → Int32) (f_ys : Nat → Int32) (x1 : Int32) (x2 : Int32) (x3 : Int32) (x5 : Int32) (x6 : Int32) (x7 : Int32) (x8 : Int32) (x11 : Int32) (post : Int32 → Unit → Prop) (back89 : (Int32 × Int32 × Int32) → Prop) (x12 : Int32) (x13 : Int32) (x14 : Int32) : Prop :=
  (x3 ≤ x14 → (¬ x12 = (15 : Int32) → post x13 ()) ∧ (x12 = (15 : Int32) → post (-1 : Int32) ())) ∧ (¬ x3 ≤ x14 → ∃ Q101 : Int32 → Unit → Prop, wp_M_xAt n_froms n_sizes n_xs f_froms f_sizes f_xs x1 (x2 + x14) Q101 ∧ ∀ (r101 : Int32), Q101 r101 () → ∃ Q112 : Int32 → Unit → Prop, wp_M_yAt n_froms n_sizes n_ys f_froms f_sizes f_ys x1 (x2 + x14) Q112 ∧ ∀ (r112 : Int32), Q112 r112 () → ∀ x17_140 : Int32, x17_140 = (((x7 - x5) * (r112 - x6)) - ((x8 - x6) * (r101 - x5))) → (0 ≤ x17_140 → wp_M_costOf_J155 n_froms n_sizes n_xs n_ys f_froms f_sizes f_xs f_ys x1 x2 x3 x5 x6 x7 x8 x11 x12 x13 x14 r101 r112 x17_140 back89 post) ∧ (¬ 0 ≤ x17_140 → wp_M_costOf_J155 n_froms n_sizes n_xs n_ys f_froms f_sizes f_xs f_ys x1 x2 x3 x5 x6 x7 x8 x11 x12 x13 x14 r101 r112 (-x17_140) back89 post))
def wp_M_costOf_J77 (n_froms n_sizes n_xs n_ys : Nat) (f_froms : Nat → Int32) (f_sizes : Nat → Int32) (f_xs : Nat → Int32) (f_ys : Nat → Int32) (x1 : Int32) (x2 : Int32) (x3 : Int32) (x5 : Int32) (x6 : Int32) (x7 : Int32) (x8 : Int32) (y0 : Int32) (y1 : Int32) (post : Int32 → Unit → Prop) : Prop :=
  ∀ x11_78 : Int32, x11_78 = (y1 * y0) → lpW (fun b z => wp_M_costOf_L89 n_froms n_sizes n_xs n_ys f_froms f_sizes f_xs f_ys x1 x2 x3 x5 x6 x7 x8 x11_78 post b z.1 z.2.1 z.2.2) ((0 : Int32), (0 : Int32), (0 : Int32))
def wp_M_costOf (n_froms n_sizes n_xs n_ys : Nat) (f_froms : Nat → Int32) (f_sizes : Nat → Int32) (f_xs : Nat → Int32) (f_ys : Nat → Int32) (x1 : Int32) (x2 : Int32) (x3 : Int32) (x4 : Int32) (post : Int32 → Unit → Prop) : Prop :=
  (¬ x3 = (1 : Int32) → ∃ Q10 : Int32 → Unit → Prop, wp_M_xAt n_froms n_sizes n_xs f_froms f_sizes f_xs x1 x2 Q10 ∧ ∀ (r10 : Int32), Q10 r10 () → ∃ Q18 : Int32 → Unit → Prop, wp_M_yAt n_froms n_sizes n_ys f_froms f_sizes f_ys x1 x2 Q18 ∧ ∀ (r18 : Int32), Q18 r18 () → ∃ Q28 : Int32 → Unit → Prop, wp_M_xAt n_froms n_sizes n_xs f_froms f_sizes f_xs x1 (x2 + x3) Q28 ∧ ∀ (r28 : Int32), Q28 r28 () → ∃ Q38 : Int32 → Unit → Prop, wp_M_yAt n_froms n_sizes n_ys f_froms f_sizes f_ys x1 (x2 + x3) Q38 ∧ ∀ (r38 : Int32), Q38 r38 () → ∃ Q47 : Int32 → Unit → Prop, wp_M_apart r10 r28 Q47 ∧ ∀ (r47 : Int32), Q47 r47 () → ∃ Q56 : Int32 → Unit → Prop, wp_M_apart r18 r38 Q56 ∧ ∀ (r56 : Int32), Q56 r56 () → (r47 ≤ r56 → wp_M_costOf_J77 n_froms n_sizes n_xs n_ys f_froms f_sizes f_xs f_ys x1 x2 x3 r10 r18 r28 r38 r56 x4 post) ∧ (¬ r47 ≤ r56 → wp_M_costOf_J77 n_froms n_sizes n_xs n_ys f_froms f_sizes f_xs f_ys x1 x2 x3 r10 r18 r28 r38 r47 x4 post)) ∧ (x3 = (1 : Int32) → post (0 : Int32) ())
abbrev cw_M_costOf (cI : ClassId) (a_this a_froms a_sizes a_xs a_ys a_colours a_layersOf a_areas a_used a_cornerAt a_counts a_costs a_firsts a_manys a_fs a_px a_py a_groups a_joinF : Nat) (n_froms n_sizes n_xs n_ys : Nat) (c_code : Int32) (c_width : Int32) (c_height : Int32) (c_isTraced : Int32) (c_outlines : Int32) (c_points : Int32) (c_hasPolygon : Int32) (c_of : Int32) (c_corners : Int32) (c_costSum : Int32) (c_hasCurves : Int32) (c_curveCount : Int32) (c_sharp : Int32) (c_allowed : Int32) (f_froms : Nat → Int32) (f_sizes : Nat → Int32) (f_xs : Nat → Int32) (f_ys : Nat → Int32) : va_W := [(a_this, .inr (5, [.int c_code, .int c_width, .int c_height, .ref a_colours, .int c_isTraced, .int c_outlines, .ref a_froms, .ref a_sizes, .ref a_layersOf, .ref a_areas, .int c_points, .ref a_xs, .ref a_ys, .ref a_used, .int c_hasPolygon, .int c_of, .int c_corners, .int c_costSum, .ref a_cornerAt, .ref a_counts, .ref a_costs, .int c_hasCurves, .int c_curveCount, .ref a_firsts, .ref a_manys, .ref a_fs, .int c_sharp, .int c_allowed, .ref a_px, .ref a_py, .ref a_groups, .ref a_joinF])), (a_froms, .inl (cI, n_froms, .inl f_froms)), (a_sizes, .inl (cI, n_sizes, .inl f_sizes)), (a_xs, .inl (cI, n_xs, .inl f_xs)), (a_ys, .inl (cI, n_ys, .inl f_ys))]
abbrev qq_M_costOf (dC : Nat → ClassId) (dI : Nat → Nat → Nat) (cI cB cJ cZ : ClassId) (a_this a_froms a_sizes a_xs a_ys a_colours a_layersOf a_areas a_used a_cornerAt a_counts a_costs a_firsts a_manys a_fs a_px a_py a_groups a_joinF : Nat) (n_froms n_sizes n_xs n_ys : Nat) (c_code : Int32) (c_width : Int32) (c_height : Int32) (c_isTraced : Int32) (c_outlines : Int32) (c_points : Int32) (c_hasPolygon : Int32) (c_of : Int32) (c_corners : Int32) (c_costSum : Int32) (c_hasCurves : Int32) (c_curveCount : Int32) (c_sharp : Int32) (c_allowed : Int32) (f_froms : Nat → Int32) (f_sizes : Nat → Int32) (f_xs : Nat → Int32) (f_ys : Nat → Int32) (A : Nat → Prop) (post : Int32 → Unit → Prop) : Array Value → State → Outcome → State → Prop := va_Qi post (fun _ t => va_P (dC, dI) vwCl (cw_M_costOf cI a_this a_froms a_sizes a_xs a_ys a_colours a_layersOf a_areas a_used a_cornerAt a_counts a_costs a_firsts a_manys a_fs a_px a_py a_groups a_joinF n_froms n_sizes n_xs n_ys c_code c_width c_height c_isTraced c_outlines c_points c_hasPolygon c_of c_corners c_costSum c_hasCurves c_curveCount c_sharp c_allowed f_froms f_sizes f_xs f_ys) t.heap ∧ va_K (dC, dI) vwCl [(cI, .int), (cB, .byte), (cJ, .long), (cZ, .boolean)] t ∧ va_D A (cw_M_costOf cI a_this a_froms a_sizes a_xs a_ys a_colours a_layersOf a_areas a_used a_cornerAt a_counts a_costs a_firsts a_manys a_fs a_px a_py a_groups a_joinF n_froms n_sizes n_xs n_ys c_code c_width c_height c_isTraced c_outlines c_points c_hasPolygon c_of c_corners c_costSum c_hasCurves c_curveCount c_sharp c_allowed f_froms f_sizes f_xs f_ys)) A
set_option maxHeartbeats 4000000 in
set_option maxRecDepth 100000 in
theorem c_M_costOf (l : Launch) (dC : Nat → ClassId) (dI : Nat → Nat → Nat) (cI cB cJ cZ : ClassId) (a_this a_froms a_sizes a_xs a_ys a_colours a_layersOf a_areas a_used a_cornerAt a_counts a_costs a_firsts a_manys a_fs a_px a_py a_groups a_joinF : Nat) (sz : Nat) (n_froms n_sizes n_xs n_ys : Nat) (c_code : Int32) (c_width : Int32) (c_height : Int32) (c_isTraced : Int32) (c_outlines : Int32) (c_points : Int32) (c_hasPolygon : Int32) (c_of : Int32) (c_corners : Int32) (c_costSum : Int32) (c_hasCurves : Int32) (c_curveCount : Int32) (c_sharp : Int32) (c_allowed : Int32) (f_froms : Nat → Int32) (f_sizes : Nat → Int32) (f_xs : Nat → Int32) (f_ys : Nat → Int32) (x1 : Int32) (x2 : Int32) (x3 : Int32) (x4 : Int32) (post : Int32 → Unit → Prop) (h : wp_M_costOf n_froms n_sizes n_xs n_ys f_froms f_sizes f_xs f_ys x1 x2 x3 x4 post) : Met l y_M_costOf w_M_costOf ({ frames := 1, cells := 0, slots := 0, locals := 22 }) (va_Pc [.ref a_this, .int x1, .int x2, .int x3, .int x4] (fun U => U.heap.size = sz ∧ va_P (dC, dI) vwCl (cw_M_costOf cI a_this a_froms a_sizes a_xs a_ys a_colours a_layersOf a_areas a_used a_cornerAt a_counts a_costs a_firsts a_manys a_fs a_px a_py a_groups a_joinF n_froms n_sizes n_xs n_ys c_code c_width c_height c_isTraced c_outlines c_points c_hasPolygon c_of c_corners c_costSum c_hasCurves c_curveCount c_sharp c_allowed f_froms f_sizes f_xs f_ys) U.heap ∧ va_K (dC, dI) vwCl [(cI, .int), (cB, .byte), (cJ, .long), (cZ, .boolean)] U ∧ va_D (fun _ => True) (cw_M_costOf cI a_this a_froms a_sizes a_xs a_ys a_colours a_layersOf a_areas a_used a_cornerAt a_counts a_costs a_firsts a_manys a_fs a_px a_py a_groups a_joinF n_froms n_sizes n_xs n_ys c_code c_width c_height c_isTraced c_outlines c_points c_hasPolygon c_of c_corners c_costSum c_hasCurves c_curveCount c_sharp c_allowed f_froms f_sizes f_xs f_ys))) (qq_M_costOf dC dI cI cB cJ cZ a_this a_froms a_sizes a_xs a_ys a_colours a_layersOf a_areas a_used a_cornerAt a_counts a_costs a_firsts a_manys a_fs a_px a_py a_groups a_joinF n_froms n_sizes n_xs n_ys c_code c_width c_height c_isTraced c_outlines c_points c_hasPolygon c_of c_corners c_costSum c_hasCurves c_curveCount c_sharp c_allowed f_froms f_sizes f_xs f_ys (va_A (cw_M_costOf cI a_this a_froms a_sizes a_xs a_ys a_colours a_layersOf a_areas a_used a_cornerAt a_counts a_costs a_firsts a_manys a_fs a_px a_py a_groups a_joinF n_froms n_sizes n_xs n_ys c_code c_width c_height c_isTraced c_outlines c_points c_hasPolygon c_of c_corners c_costSum c_hasCurves c_curveCount c_sharp c_allowed f_froms f_sizes f_xs f_ys) sz) post) 0 0 (va_A (cw_M_costOf cI a_this a_froms a_sizes a_xs a_ys a_colours a_layersOf a_areas a_used a_cornerAt a_counts a_costs a_firsts a_manys a_fs a_px a_py a_groups a_joinF n_froms n_sizes n_xs n_ys c_code c_width c_height c_isTraced c_outlines c_points c_hasPolygon c_of c_corners c_costSum c_hasCurves c_curveCount c_sharp c_allowed f_froms f_sizes f_xs f_ys) sz) := by
  refine Met.ofW (cc := b_M_costOf) (maxL := 21) (ret := (some .int)) (by decide +kernel) rfl ?_
  intro p e s m args below meth c s₁ B hml hv
  obtain ⟨rfl, hsz, hP, hK, hD0⟩ := hv
  have hx := B.exec
  have hb := B.bytes
  have hr := B.returns
  have hts : ∀ w ∈ allW, w.before _ s = true := fun w hw => atoms_spec (ws := w_M_costOf) B.pre w (List.mem_cons_of_mem _ hw)
  have hown : s.vm.findClass R_M = some m.cls := findClass_of_methodNamed B.named
  have hlocks := B.notSynchronized
  subst hsz
  have hD := hD0.self (sz := s.heap.size)
  generalize hAe : va_A (cw_M_costOf cI a_this a_froms a_sizes a_xs a_ys a_colours a_layersOf a_areas a_used a_cornerAt a_counts a_costs a_firsts a_manys a_fs a_px a_py a_groups a_joinF n_froms n_sizes n_xs n_ys c_code c_width c_height c_isTraced c_outlines c_points c_hasPolygon c_of c_corners c_costSum c_hasCurves c_curveCount c_sharp c_allowed f_froms f_sizes f_xs f_ys) s.heap.size = A at hD ⊢
  have hA : ∀ q : Nat, s.heap.size ≤ q → A q := fun q h => by rw [← hAe]; exact Or.inr h
  have hS : va_S A s.heap s.heap [] := va_S.rf
  clear hD0
  generalize hQf : MQ below (qq_M_costOf dC dI cI cB cJ cZ a_this a_froms a_sizes a_xs a_ys a_colours a_layersOf a_areas a_used a_cornerAt a_counts a_costs a_firsts a_manys a_fs a_px a_py a_groups a_joinF n_froms n_sizes n_xs n_ys c_code c_width c_height c_isTraced c_outlines c_points c_hasPolygon c_of c_corners c_costSum c_hasCurves c_curveCount c_sharp c_allowed f_froms f_sizes f_xs f_ys A post) ([.ref a_this, .int x1, .int x2, .int x3, .int x4] : List Value).toArray s 0 0 A = Qf
  have hl := lv_entry ([.ref a_this, .int x1, .int x2, .int x3, .int x4]) (n := 21) (Nat.le_of_ble_eq_true rfl)
  rw [lg_entry_eq]
  generalize (lg_sl ([.ref a_this, .int x1, .int x2, .int x3, .int x4]) ++ List.replicate (21 - (lg_sl ([.ref a_this, .int x1, .int x2, .int x3, .int x4])).length) Slot.unset).toArray = ls at hl ⊢
  have hl : lv_has ls 21 [(0, .ref a_this), (1, .int x1), (2, .int x2), (3, .int x3), (4, .int x4)] := hl
  unfold wp_M_costOf at h
  have J77 : ∀ (x1_j77 : Int32) (x2_j77 : Int32) (x3_j77 : Int32) (x5_j77 : Int32) (x6_j77 : Int32) (x7_j77 : Int32) (x8_j77 : Int32) (y0_j77 : Int32) (y1_j77 : Int32) (H : Heap) (locs : List Loc) (ls : Array Slot), wp_M_costOf_J77 n_froms n_sizes n_xs n_ys f_froms f_sizes f_xs f_ys x1_j77 x2_j77 x3_j77 x5_j77 x6_j77 x7_j77 x8_j77 y0_j77 y1_j77 post → va_P (dC, dI) vwCl (cw_M_costOf cI a_this a_froms a_sizes a_xs a_ys a_colours a_layersOf a_areas a_used a_cornerAt a_counts a_costs a_firsts a_manys a_fs a_px a_py a_groups a_joinF n_froms n_sizes n_xs n_ys c_code c_width c_height c_isTraced c_outlines c_points c_hasPolygon c_of c_corners c_costSum c_hasCurves c_curveCount c_sharp c_allowed f_froms f_sizes f_xs f_ys) H → va_D A (cw_M_costOf cI a_this a_froms a_sizes a_xs a_ys a_colours a_layersOf a_areas a_used a_cornerAt a_counts a_costs a_firsts a_manys a_fs a_px a_py a_groups a_joinF n_froms n_sizes n_xs n_ys c_code c_width c_height c_isTraced c_outlines c_points c_hasPolygon c_of c_corners c_costSum c_hasCurves c_curveCount c_sharp c_allowed f_froms f_sizes f_xs f_ys) → va_S A s.heap H locs → lv_has ls 21 [(0, .ref a_this), (1, .int x1_j77), (2, .int x2_j77), (3, .int x3_j77), (5, .int x5_j77), (6, .int x6_j77), (7, .int x7_j77), (8, .int x8_j77)] → W p l e (headSpec w_M_costOf ({ frames := 1, cells := 0, slots := 0, locals := 22 })).room s m ([.ref a_this, .int x1, .int x2, .int x3, .int x4] : List Value).toArray below meth c H locs 0 0 Qf (F0 m 77 ls [.int y0_j77, .int y1_j77]) := by
    intro x1_j77 x2_j77 x3_j77 x5_j77 x6_j77 x7_j77 x8_j77 y0_j77 y1_j77 H locs ls h hP hD hS hl
    unfold wp_M_costOf_J77 at h
    refine lv_imul hx hb d_M_costOf_77 ?_
    refine lv_topi (fun x11_78 e_x11_78 => ?_)
    have h := h x11_78 e_x11_78
    refine lv_istore (lv' := [(11, .int x11_78), (0, .ref a_this), (1, .int x1_j77), (2, .int x2_j77), (3, .int x3_j77), (5, .int x5_j77), (6, .int x6_j77), (7, .int x7_j77), (8, .int x8_j77)]) hx hb d_M_costOf_78 hl (by decide) rfl (fun ls hl => ?_)
    refine lv_iconst (v := 0) hx hb d_M_costOf_80 (by decide) ?_
    refine lv_istore (lv' := [(12, .int (0 : Int32)), (11, .int x11_78), (0, .ref a_this), (1, .int x1_j77), (2, .int x2_j77), (3, .int x3_j77), (5, .int x5_j77), (6, .int x6_j77), (7, .int x7_j77), (8, .int x8_j77)]) hx hb d_M_costOf_81 hl (by decide) rfl (fun ls hl => ?_)
    refine lv_iconst (v := 0) hx hb d_M_costOf_83 (by decide) ?_
    refine lv_istore (lv' := [(13, .int (0 : Int32)), (12, .int (0 : Int32)), (11, .int x11_78), (0, .ref a_this), (1, .int x1_j77), (2, .int x2_j77), (3, .int x3_j77), (5, .int x5_j77), (6, .int x6_j77), (7, .int x7_j77), (8, .int x8_j77)]) hx hb d_M_costOf_84 hl (by decide) rfl (fun ls hl => ?_)
    refine lv_iconst (v := 0) hx hb d_M_costOf_86 (by decide) ?_
    refine lv_istore (lv' := [(14, .int (0 : Int32)), (13, .int (0 : Int32)), (12, .int (0 : Int32)), (11, .int x11_78), (0, .ref a_this), (1, .int x1_j77), (2, .int x2_j77), (3, .int x3_j77), (5, .int x5_j77), (6, .int x6_j77), (7, .int x7_j77), (8, .int x8_j77)]) hx hb d_M_costOf_87 hl (by decide) rfl (fun ls hl => ?_)
    refine lpW_ind (Wp := fun z => ∀ (H : Heap) (locs : List Loc) (ls : Array Slot), va_P (dC, dI) vwCl (cw_M_costOf cI a_this a_froms a_sizes a_xs a_ys a_colours a_layersOf a_areas a_used a_cornerAt a_counts a_costs a_firsts a_manys a_fs a_px a_py a_groups a_joinF n_froms n_sizes n_xs n_ys c_code c_width c_height c_isTraced c_outlines c_points c_hasPolygon c_of c_corners c_costSum c_hasCurves c_curveCount c_sharp c_allowed f_froms f_sizes f_xs f_ys) H → va_D A (cw_M_costOf cI a_this a_froms a_sizes a_xs a_ys a_colours a_layersOf a_areas a_used a_cornerAt a_counts a_costs a_firsts a_manys a_fs a_px a_py a_groups a_joinF n_froms n_sizes n_xs n_ys c_code c_width c_height c_isTraced c_outlines c_points c_hasPolygon c_of c_corners c_costSum c_hasCurves c_curveCount c_sharp c_allowed f_froms f_sizes f_xs f_ys) → va_S A s.heap H locs → lv_has ls 21 [(0, .ref a_this), (1, .int x1_j77), (2, .int x2_j77), (3, .int x3_j77), (5, .int x5_j77), (6, .int x6_j77), (7, .int x7_j77), (8, .int x8_j77), (11, .int x11_78), (12, .int z.1), (13, .int z.2.1), (14, .int z.2.2)] → W p l e (headSpec w_M_costOf ({ frames := 1, cells := 0, slots := 0, locals := 22 })).room s m ([.ref a_this, .int x1, .int x2, .int x3, .int x4] : List Value).toArray below meth c H locs 0 0 Qf (F0 m 89 ls [])) h ?_ _ _ _ hP hD hS (lv_sub hl [4, 5, 6, 7, 8, 9, 10, 11, 3, 2, 1, 0] rfl)
    rintro ⟨x12_l89, x13_l89, x14_l89⟩ back89 h hb89 H locs ls hP hD hS hl
    have h : wp_M_costOf_L89 n_froms n_sizes n_xs n_ys f_froms f_sizes f_xs f_ys x1_j77 x2_j77 x3_j77 x5_j77 x6_j77 x7_j77 x8_j77 x11_78 post back89 x12_l89 x13_l89 x14_l89 := h
    have hP : va_P (dC, dI) vwCl (cw_M_costOf cI a_this a_froms a_sizes a_xs a_ys a_colours a_layersOf a_areas a_used a_cornerAt a_counts a_costs a_firsts a_manys a_fs a_px a_py a_groups a_joinF n_froms n_sizes n_xs n_ys c_code c_width c_height c_isTraced c_outlines c_points c_hasPolygon c_of c_corners c_costSum c_hasCurves c_curveCount c_sharp c_allowed f_froms f_sizes f_xs f_ys) H := hP
    have hD : va_D A (cw_M_costOf cI a_this a_froms a_sizes a_xs a_ys a_colours a_layersOf a_areas a_used a_cornerAt a_counts a_costs a_firsts a_manys a_fs a_px a_py a_groups a_joinF n_froms n_sizes n_xs n_ys c_code c_width c_height c_isTraced c_outlines c_points c_hasPolygon c_of c_corners c_costSum c_hasCurves c_curveCount c_sharp c_allowed f_froms f_sizes f_xs f_ys) := hD
    have hl : lv_has ls 21 [(0, .ref a_this), (1, .int x1_j77), (2, .int x2_j77), (3, .int x3_j77), (5, .int x5_j77), (6, .int x6_j77), (7, .int x7_j77), (8, .int x8_j77), (11, .int x11_78), (12, .int x12_l89), (13, .int x13_l89), (14, .int x14_l89)] := hl
    unfold wp_M_costOf_L89 at h
    have J238 : ∀ (x13_j238 : Int32) (x14_j238 : Int32) (y0_j238 : Int32) (y1_j238 : Int32) (H : Heap) (locs : List Loc) (ls : Array Slot), wp_M_costOf_J238 n_froms n_sizes n_xs n_ys f_froms f_sizes f_xs f_ys x1_j77 x2_j77 x3_j77 x5_j77 x6_j77 x7_j77 x8_j77 x11_78 x13_j238 x14_j238 y0_j238 y1_j238 back89 post → va_P (dC, dI) vwCl (cw_M_costOf cI a_this a_froms a_sizes a_xs a_ys a_colours a_layersOf a_areas a_used a_cornerAt a_counts a_costs a_firsts a_manys a_fs a_px a_py a_groups a_joinF n_froms n_sizes n_xs n_ys c_code c_width c_height c_isTraced c_outlines c_points c_hasPolygon c_of c_corners c_costSum c_hasCurves c_curveCount c_sharp c_allowed f_froms f_sizes f_xs f_ys) H → va_D A (cw_M_costOf cI a_this a_froms a_sizes a_xs a_ys a_colours a_layersOf a_areas a_used a_cornerAt a_counts a_costs a_firsts a_manys a_fs a_px a_py a_groups a_joinF n_froms n_sizes n_xs n_ys c_code c_width c_height c_isTraced c_outlines c_points c_hasPolygon c_of c_corners c_costSum c_hasCurves c_curveCount c_sharp c_allowed f_froms f_sizes f_xs f_ys) → va_S A s.heap H locs → lv_has ls 21 [(0, .ref a_this), (1, .int x1_j77), (2, .int x2_j77), (3, .int x3_j77), (5, .int x5_j77), (6, .int x6_j77), (7, .int x7_j77), (8, .int x8_j77), (11, .int x11_78), (13, .int x13_j238), (14, .int x14_j238)] → W p l e (headSpec w_M_costOf ({ frames := 1, cells := 0, slots := 0, locals := 22 })).room s m ([.ref a_this, .int x1, .int x2, .int x3, .int x4] : List Value).toArray below meth c H locs 0 0 Qf (F0 m 238 ls [.int y0_j238, .int y1_j238]) := by
      intro x13_j238 x14_j238 y0_j238 y1_j238 H locs ls h hP hD hS hl
      unfold wp_M_costOf_J238 at h
      refine lv_ior hx hb d_M_costOf_238 ?_
      refine lv_topi (fun x12_239 e_x12_239 => ?_)
      have h := h x12_239 e_x12_239
      refine lv_istore (lv' := [(12, .int x12_239), (0, .ref a_this), (1, .int x1_j77), (2, .int x2_j77), (3, .int x3_j77), (5, .int x5_j77), (6, .int x6_j77), (7, .int x7_j77), (8, .int x8_j77), (11, .int x11_78), (13, .int x13_j238), (14, .int x14_j238)]) hx hb d_M_costOf_239 hl (by decide) rfl (fun ls hl => ?_)
      obtain ⟨x14_241, e_x14_241⟩ : ∃ y : Int32, y = x14_j238 + (1 : Int32) := ⟨_, rfl⟩
      have h := h x14_241 e_x14_241
      refine lv_iinc (v := x14_241) (lv' := [(14, .int x14_241), (12, .int x12_239), (0, .ref a_this), (1, .int x1_j77), (2, .int x2_j77), (3, .int x3_j77), (5, .int x5_j77), (6, .int x6_j77), (7, .int x7_j77), (8, .int x8_j77), (11, .int x11_78), (13, .int x13_j238)]) hx hb d_M_costOf_241 hl (k := 11) rfl (by rw [e_x14_241]; rfl) (by decide) rfl (fun ls hl => ?_)
      refine lv_goto (tgt := 89) hx hb d_M_costOf_244 (by decide) ?_
      exact hb89 _ h _ _ _ hP hD hS (lv_sub hl [2, 3, 4, 5, 6, 7, 8, 9, 10, 1, 11, 0] rfl)
    have J155 : ∀ (x12_j155 : Int32) (x13_j155 : Int32) (x14_j155 : Int32) (x15_j155 : Int32) (x16_j155 : Int32) (y0_j155 : Int32) (H : Heap) (locs : List Loc) (ls : Array Slot), wp_M_costOf_J155 n_froms n_sizes n_xs n_ys f_froms f_sizes f_xs f_ys x1_j77 x2_j77 x3_j77 x5_j77 x6_j77 x7_j77 x8_j77 x11_78 x12_j155 x13_j155 x14_j155 x15_j155 x16_j155 y0_j155 back89 post → va_P (dC, dI) vwCl (cw_M_costOf cI a_this a_froms a_sizes a_xs a_ys a_colours a_layersOf a_areas a_used a_cornerAt a_counts a_costs a_firsts a_manys a_fs a_px a_py a_groups a_joinF n_froms n_sizes n_xs n_ys c_code c_width c_height c_isTraced c_outlines c_points c_hasPolygon c_of c_corners c_costSum c_hasCurves c_curveCount c_sharp c_allowed f_froms f_sizes f_xs f_ys) H → va_D A (cw_M_costOf cI a_this a_froms a_sizes a_xs a_ys a_colours a_layersOf a_areas a_used a_cornerAt a_counts a_costs a_firsts a_manys a_fs a_px a_py a_groups a_joinF n_froms n_sizes n_xs n_ys c_code c_width c_height c_isTraced c_outlines c_points c_hasPolygon c_of c_corners c_costSum c_hasCurves c_curveCount c_sharp c_allowed f_froms f_sizes f_xs f_ys) → va_S A s.heap H locs → lv_has ls 21 [(0, .ref a_this), (1, .int x1_j77), (2, .int x2_j77), (3, .int x3_j77), (5, .int x5_j77), (6, .int x6_j77), (7, .int x7_j77), (8, .int x8_j77), (11, .int x11_78), (12, .int x12_j155), (13, .int x13_j155), (14, .int x14_j155), (15, .int x15_j155), (16, .int x16_j155)] → W p l e (headSpec w_M_costOf ({ frames := 1, cells := 0, slots := 0, locals := 22 })).room s m ([.ref a_this, .int x1, .int x2, .int x3, .int x4] : List Value).toArray below meth c H locs 0 0 Qf (F0 m 155 ls [.int y0_j155]) := by
      intro x12_j155 x13_j155 x14_j155 x15_j155 x16_j155 y0_j155 H locs ls h hP hD hS hl
      unfold wp_M_costOf_J155 at h
      refine lv_istore (lv' := [(18, .int y0_j155), (0, .ref a_this), (1, .int x1_j77), (2, .int x2_j77), (3, .int x3_j77), (5, .int x5_j77), (6, .int x6_j77), (7, .int x7_j77), (8, .int x8_j77), (11, .int x11_78), (12, .int x12_j155), (13, .int x13_j155), (14, .int x14_j155), (15, .int x15_j155), (16, .int x16_j155)]) hx hb d_M_costOf_155 hl (by decide) rfl (fun ls hl => ?_)
      refine lv_iconst (v := 2) hx hb d_M_costOf_157 (by decide) ?_
      refine lv_iload hx hb d_M_costOf_158 (lv_at hl 0 rfl) ?_
      refine lv_imul hx hb d_M_costOf_160 ?_
      refine lv_iload hx hb d_M_costOf_161 (lv_at hl 9 rfl) ?_
      refine lv_icmp_le (tgt := 168) hx hb d_M_costOf_163 (by decide) (fun cc_ => ?_) (fun cc_ => ?_)
      · have h := h.1 cc_
        refine lv_iload hx hb d_M_costOf_168 (lv_at hl 11 rfl) ?_
        refine lv_iload hx hb d_M_costOf_170 (lv_at hl 0 rfl) ?_
        refine lv_iadd hx hb d_M_costOf_172 ?_
        refine lv_topi (fun x13_173 e_x13_173 => ?_)
        have h := h x13_173 e_x13_173
        refine lv_istore (lv' := [(13, .int x13_173), (18, .int y0_j155), (0, .ref a_this), (1, .int x1_j77), (2, .int x2_j77), (3, .int x3_j77), (5, .int x5_j77), (6, .int x6_j77), (7, .int x7_j77), (8, .int x8_j77), (11, .int x11_78), (12, .int x12_j155), (14, .int x14_j155), (15, .int x15_j155), (16, .int x16_j155)]) hx hb d_M_costOf_173 hl (by decide) rfl (fun ls hl => ?_)
        refine lv_aload_n hx hb d_M_costOf_175 rfl (lv_at hl 2 rfl) ?_
        refine lv_iload_n hx hb d_M_costOf_176 rfl (lv_at hl 3 rfl) ?_
        refine lv_iload_n hx hb d_M_costOf_177 rfl (lv_at hl 4 rfl) ?_
        refine lv_iload hx hb d_M_costOf_178 (lv_at hl 12 rfl) ?_
        refine lv_iadd hx hb d_M_costOf_180 ?_
        refine lv_iconst (v := 1) hx hb d_M_costOf_181 (by decide) ?_
        refine lv_iadd hx hb d_M_costOf_182 ?_
        obtain ⟨Q183, hq183, h⟩ := h
        have hPc := hP.sub (ws' := (cw_M_xAt cI a_this a_froms a_sizes a_xs a_colours a_layersOf a_areas a_ys a_used a_cornerAt a_counts a_costs a_firsts a_manys a_fs a_px a_py a_groups a_joinF n_froms n_sizes n_xs c_code c_width c_height c_isTraced c_outlines c_points c_hasPolygon c_of c_corners c_costSum c_hasCurves c_curveCount c_sharp c_allowed f_froms f_sizes f_xs)) [0, 1, 2, 3] rfl
        have hDc := hD.sub (ws' := (cw_M_xAt cI a_this a_froms a_sizes a_xs a_colours a_layersOf a_areas a_ys a_used a_cornerAt a_counts a_costs a_firsts a_manys a_fs a_px a_py a_groups a_joinF n_froms n_sizes n_xs c_code c_width c_height c_isTraced c_outlines c_points c_hasPolygon c_of c_corners c_costSum c_hasCurves c_curveCount c_sharp c_allowed f_froms f_sizes f_xs)) [0, 1, 2, 3] (by decide) rfl
        have hFc := va_free (wc := (cw_M_xAt cI a_this a_froms a_sizes a_xs a_colours a_layersOf a_areas a_ys a_used a_cornerAt a_counts a_costs a_firsts a_manys a_fs a_px a_py a_groups a_joinF n_froms n_sizes n_xs c_code c_width c_height c_isTraced c_outlines c_points c_hasPolygon c_of c_corners c_costSum c_hasCurves c_curveCount c_sharp c_allowed f_froms f_sizes f_xs)) hD hS hA [0, 1, 2, 3] rfl
        refine va_calli (va_runV (As := [.int x1_j77, .int ((x2_j77 + x14_j155) + (1 : Int32))]) (rest := []) ⟨hx, hb, hml, hown, hts⟩ (c_M_xAt l dC dI cI cB cJ cZ a_this a_froms a_sizes a_xs a_colours a_layersOf a_areas a_ys a_used a_cornerAt a_counts a_costs a_firsts a_manys a_fs a_px a_py a_groups a_joinF H.size n_froms n_sizes n_xs c_code c_width c_height c_isTraced c_outlines c_points c_hasPolygon c_of c_corners c_costSum c_hasCurves c_curveCount c_sharp c_allowed f_froms f_sizes f_xs x1_j77 ((x2_j77 + x14_j155) + (1 : Int32)) Q183 hq183) (cwV 2 hts (goodV q_820 q_822 q_p39 q_7 q_823) rfl rfl rfl (by decide +kernel) ⟨Nat.le_of_ble_eq_true rfl, Nat.le_of_ble_eq_true rfl⟩) ⟨fun a U g mk q => by obtain ⟨q0, q1, qP, qK, qD⟩ := q; exact ⟨q0, q1, qP, va_K.moved (u := U) (U := U.calling g mk a) (Vm.Alike.refl U.vm) qK, qD⟩, va_recv hK hPc (ci := 5) (q0 := 0) rfl rfl, fun U hU hW => ⟨rfl, by rw [hU], by rw [hU]; exact hPc, va_K.moved hW.alike hK, hDc.weaken (fun _ _ _ _ => trivial)⟩⟩ rfl rfl hl.1 rfl (lv_room (Nat.le_of_ble_eq_true rfl)) d_M_costOf_183 ⟨Nat.le_of_ble_eq_true rfl, Nat.le_of_ble_eq_true rfl⟩) hS (fun q _ h => hFc q h) hFc (fun r183 u183 t H1 locs ht hvm hw hB hz1 hk1 hS => ?_)
        cases u183
        obtain ⟨hP1, -, hD1⟩ := hB
        rw [ht] at hP1
        have h := h r183 hw
        obtain ⟨hP, hD⟩ := va_join (wr := [(a_ys, .inl (cI, n_ys, .inl f_ys))]) (w1 := (cw_M_xAt cI a_this a_froms a_sizes a_xs a_colours a_layersOf a_areas a_ys a_used a_cornerAt a_counts a_costs a_firsts a_manys a_fs a_px a_py a_groups a_joinF n_froms n_sizes n_xs c_code c_width c_height c_isTraced c_outlines c_points c_hasPolygon c_of c_corners c_costSum c_hasCurves c_curveCount c_sharp c_allowed f_froms f_sizes f_xs)) hP hD [0, 1, 2, 3] [4] rfl rfl (by decide) (by decide) hk1 hFc hP1 hD1
        clear hP1 hD1 hk1 hPc hDc hFc
        generalize H1 = H at hP hS ⊢
        have hP : va_P (dC, dI) vwCl (cw_M_costOf cI a_this a_froms a_sizes a_xs a_ys a_colours a_layersOf a_areas a_used a_cornerAt a_counts a_costs a_firsts a_manys a_fs a_px a_py a_groups a_joinF n_froms n_sizes n_xs n_ys c_code c_width c_height c_isTraced c_outlines c_points c_hasPolygon c_of c_corners c_costSum c_hasCurves c_curveCount c_sharp c_allowed f_froms f_sizes f_xs f_ys) H := hP.sub [1, 2, 3, 4, 0] rfl
        have hD : va_D A (cw_M_costOf cI a_this a_froms a_sizes a_xs a_ys a_colours a_layersOf a_areas a_used a_cornerAt a_counts a_costs a_firsts a_manys a_fs a_px a_py a_groups a_joinF n_froms n_sizes n_xs n_ys c_code c_width c_height c_isTraced c_outlines c_points c_hasPolygon c_of c_corners c_costSum c_hasCurves c_curveCount c_sharp c_allowed f_froms f_sizes f_xs f_ys) := hD.sub [1, 2, 3, 4, 0] (by decide) rfl
        refine lv_iload hx hb d_M_costOf_186 (lv_at hl 13 rfl) ?_
        refine lv_isub hx hb d_M_costOf_188 ?_
        refine lv_topi (fun x19_189 e_x19_189 => ?_)
        have h := h x19_189 e_x19_189
        refine lv_istore (lv' := [(19, .int x19_189), (13, .int x13_173), (18, .int y0_j155), (0, .ref a_this), (1, .int x1_j77), (2, .int x2_j77), (3, .int x3_j77), (5, .int x5_j77), (6, .int x6_j77), (7, .int x7_j77), (8, .int x8_j77), (11, .int x11_78), (12, .int x12_j155), (14, .int x14_j155), (15, .int x15_j155), (16, .int x16_j155)]) hx hb d_M_costOf_189 hl (by decide) rfl (fun ls hl => ?_)
        refine lv_aload_n hx hb d_M_costOf_191 rfl (lv_at hl 3 rfl) ?_
        refine lv_iload_n hx hb d_M_costOf_192 rfl (lv_at hl 4 rfl) ?_
        refine lv_iload_n hx hb d_M_costOf_193 rfl (lv_at hl 5 rfl) ?_
        refine lv_iload hx hb d_M_costOf_194 (lv_at hl 13 rfl) ?_
        refine lv_iadd hx hb d_M_costOf_196 ?_
        refine lv_iconst (v := 1) hx hb d_M_costOf_197 (by decide) ?_
        refine lv_iadd hx hb d_M_costOf_198 ?_
        obtain ⟨Q199, hq199, h⟩ := h
        have hPc := hP.sub (ws' := (cw_M_yAt cI a_this a_froms a_sizes a_ys a_colours a_layersOf a_areas a_xs a_used a_cornerAt a_counts a_costs a_firsts a_manys a_fs a_px a_py a_groups a_joinF n_froms n_sizes n_ys c_code c_width c_height c_isTraced c_outlines c_points c_hasPolygon c_of c_corners c_costSum c_hasCurves c_curveCount c_sharp c_allowed f_froms f_sizes f_ys)) [0, 1, 2, 4] rfl
        have hDc := hD.sub (ws' := (cw_M_yAt cI a_this a_froms a_sizes a_ys a_colours a_layersOf a_areas a_xs a_used a_cornerAt a_counts a_costs a_firsts a_manys a_fs a_px a_py a_groups a_joinF n_froms n_sizes n_ys c_code c_width c_height c_isTraced c_outlines c_points c_hasPolygon c_of c_corners c_costSum c_hasCurves c_curveCount c_sharp c_allowed f_froms f_sizes f_ys)) [0, 1, 2, 4] (by decide) rfl
        have hFc := va_free (wc := (cw_M_yAt cI a_this a_froms a_sizes a_ys a_colours a_layersOf a_areas a_xs a_used a_cornerAt a_counts a_costs a_firsts a_manys a_fs a_px a_py a_groups a_joinF n_froms n_sizes n_ys c_code c_width c_height c_isTraced c_outlines c_points c_hasPolygon c_of c_corners c_costSum c_hasCurves c_curveCount c_sharp c_allowed f_froms f_sizes f_ys)) hD hS hA [0, 1, 2, 4] rfl
        refine va_calli (va_runV (As := [.int x1_j77, .int ((x2_j77 + x14_j155) + (1 : Int32))]) (rest := []) ⟨hx, hb, hml, hown, hts⟩ (c_M_yAt l dC dI cI cB cJ cZ a_this a_froms a_sizes a_ys a_colours a_layersOf a_areas a_xs a_used a_cornerAt a_counts a_costs a_firsts a_manys a_fs a_px a_py a_groups a_joinF H.size n_froms n_sizes n_ys c_code c_width c_height c_isTraced c_outlines c_points c_hasPolygon c_of c_corners c_costSum c_hasCurves c_curveCount c_sharp c_allowed f_froms f_sizes f_ys x1_j77 ((x2_j77 + x14_j155) + (1 : Int32)) Q199 hq199) (cwV 2 hts (goodV q_824 q_826 q_p40 q_7 q_827) rfl rfl rfl (by decide +kernel) ⟨Nat.le_of_ble_eq_true rfl, Nat.le_of_ble_eq_true rfl⟩) ⟨fun a U g mk q => by obtain ⟨q0, q1, qP, qK, qD⟩ := q; exact ⟨q0, q1, qP, va_K.moved (u := U) (U := U.calling g mk a) (Vm.Alike.refl U.vm) qK, qD⟩, va_recv hK hPc (ci := 5) (q0 := 0) rfl rfl, fun U hU hW => ⟨rfl, by rw [hU], by rw [hU]; exact hPc, va_K.moved hW.alike hK, hDc.weaken (fun _ _ _ _ => trivial)⟩⟩ rfl rfl hl.1 rfl (lv_room (Nat.le_of_ble_eq_true rfl)) d_M_costOf_199 ⟨Nat.le_of_ble_eq_true rfl, Nat.le_of_ble_eq_true rfl⟩) hS (fun q _ h => hFc q h) hFc (fun r199 u199 t H1 locs ht hvm hw hB hz1 hk1 hS => ?_)
        cases u199
        obtain ⟨hP1, -, hD1⟩ := hB
        rw [ht] at hP1
        have h := h r199 hw
        obtain ⟨hP, hD⟩ := va_join (wr := [(a_xs, .inl (cI, n_xs, .inl f_xs))]) (w1 := (cw_M_yAt cI a_this a_froms a_sizes a_ys a_colours a_layersOf a_areas a_xs a_used a_cornerAt a_counts a_costs a_firsts a_manys a_fs a_px a_py a_groups a_joinF n_froms n_sizes n_ys c_code c_width c_height c_isTraced c_outlines c_points c_hasPolygon c_of c_corners c_costSum c_hasCurves c_curveCount c_sharp c_allowed f_froms f_sizes f_ys)) hP hD [0, 1, 2, 4] [3] rfl rfl (by decide) (by decide) hk1 hFc hP1 hD1
        clear hP1 hD1 hk1 hPc hDc hFc
        generalize H1 = H at hP hS ⊢
        have hP : va_P (dC, dI) vwCl (cw_M_costOf cI a_this a_froms a_sizes a_xs a_ys a_colours a_layersOf a_areas a_used a_cornerAt a_counts a_costs a_firsts a_manys a_fs a_px a_py a_groups a_joinF n_froms n_sizes n_xs n_ys c_code c_width c_height c_isTraced c_outlines c_points c_hasPolygon c_of c_corners c_costSum c_hasCurves c_curveCount c_sharp c_allowed f_froms f_sizes f_xs f_ys) H := hP.sub [1, 2, 3, 0, 4] rfl
        have hD : va_D A (cw_M_costOf cI a_this a_froms a_sizes a_xs a_ys a_colours a_layersOf a_areas a_used a_cornerAt a_counts a_costs a_firsts a_manys a_fs a_px a_py a_groups a_joinF n_froms n_sizes n_xs n_ys c_code c_width c_height c_isTraced c_outlines c_points c_hasPolygon c_of c_corners c_costSum c_hasCurves c_curveCount c_sharp c_allowed f_froms f_sizes f_xs f_ys) := hD.sub [1, 2, 3, 0, 4] (by decide) rfl
        refine lv_iload hx hb d_M_costOf_202 (lv_at hl 15 rfl) ?_
        refine lv_isub hx hb d_M_costOf_204 ?_
        refine lv_topi (fun x20_205 e_x20_205 => ?_)
        have h := h x20_205 e_x20_205
        refine lv_istore (lv' := [(20, .int x20_205), (19, .int x19_189), (13, .int x13_173), (18, .int y0_j155), (0, .ref a_this), (1, .int x1_j77), (2, .int x2_j77), (3, .int x3_j77), (5, .int x5_j77), (6, .int x6_j77), (7, .int x7_j77), (8, .int x8_j77), (11, .int x11_78), (12, .int x12_j155), (14, .int x14_j155), (15, .int x15_j155), (16, .int x16_j155)]) hx hb d_M_costOf_205 hl (by decide) rfl (fun ls hl => ?_)
        refine lv_iload hx hb d_M_costOf_207 (lv_at hl 13 rfl) ?_
        refine lv_iload hx hb d_M_costOf_209 (lv_at hl 1 rfl) ?_
        refine lv_if_le (tgt := 218) hx hb d_M_costOf_211 (by decide) (fun cc_ => ?_) (fun cc_ => ?_)
        · have h := h.1 cc_
          refine lv_iload hx hb d_M_costOf_218 (lv_at hl 1 rfl) ?_
          refine lv_if_ge (tgt := 227) hx hb d_M_costOf_220 (by decide) (fun cc_ => ?_) (fun cc_ => ?_)
          · have h := h.1 cc_
            refine lv_iload hx hb d_M_costOf_227 (lv_at hl 0 rfl) ?_
            refine lv_if_le (tgt := 236) hx hb d_M_costOf_229 (by decide) (fun cc_ => ?_) (fun cc_ => ?_)
            · have h := h.1 cc_
              refine lv_bipush (v := 8) hx hb d_M_costOf_236 (by decide) ?_
              exact J238 x13_173 x14_j155 (8 : Int32) x12_j155 _ _ _ h hP hD hS (lv_sub hl [4, 5, 6, 7, 8, 9, 10, 11, 12, 2, 14] rfl)
            · have h := h.2 cc_
              refine lv_iconst (v := 4) hx hb d_M_costOf_232 (by decide) ?_
              refine lv_goto (tgt := 238) hx hb d_M_costOf_233 (by decide) ?_
              exact J238 x13_173 x14_j155 (4 : Int32) x12_j155 _ _ _ h hP hD hS (lv_sub hl [4, 5, 6, 7, 8, 9, 10, 11, 12, 2, 14] rfl)
          · have h := h.2 cc_
            refine lv_iconst (v := 2) hx hb d_M_costOf_223 (by decide) ?_
            refine lv_goto (tgt := 238) hx hb d_M_costOf_224 (by decide) ?_
            exact J238 x13_173 x14_j155 (2 : Int32) x12_j155 _ _ _ h hP hD hS (lv_sub hl [4, 5, 6, 7, 8, 9, 10, 11, 12, 2, 14] rfl)
        · have h := h.2 cc_
          refine lv_iconst (v := 1) hx hb d_M_costOf_214 (by decide) ?_
          refine lv_goto (tgt := 238) hx hb d_M_costOf_215 (by decide) ?_
          exact J238 x13_173 x14_j155 (1 : Int32) x12_j155 _ _ _ h hP hD hS (lv_sub hl [4, 5, 6, 7, 8, 9, 10, 11, 12, 2, 14] rfl)
      · have h := h.2 cc_
        refine lv_iconst (v := -1) hx hb d_M_costOf_166 (by decide) ?_
        subst hQf
        exact W.iret (v := (-1 : Int32)) hx hb hr (fun t ht hW => ⟨⟨(-1 : Int32), (), rfl, h, by rw [ht]; exact hP, va_K.moved hW.alike hK, hD⟩, hS.F ht⟩) hS.2.2 d_M_costOf_167
    refine lv_iload hx hb d_M_costOf_89 (lv_at hl 11 rfl) ?_
    refine lv_iload_n hx hb d_M_costOf_91 rfl (lv_at hl 3 rfl) ?_
    refine lv_icmp_ge (tgt := 247) hx hb d_M_costOf_92 (by decide) (fun cc_ => ?_) (fun cc_ => ?_)
    · have h := h.1 cc_
      refine lv_iload hx hb d_M_costOf_247 (lv_at hl 9 rfl) ?_
      refine lv_bipush (v := 15) hx hb d_M_costOf_249 (by decide) ?_
      refine lv_icmp_ne (tgt := 258) hx hb d_M_costOf_251 (by decide) (fun cc_ => ?_) (fun cc_ => ?_)
      · have h := h.1 cc_
        refine lv_iload hx hb d_M_costOf_258 (lv_at hl 10 rfl) ?_
        subst hQf
        exact W.iret (v := x13_l89) hx hb hr (fun t ht hW => ⟨⟨x13_l89, (), rfl, h, by rw [ht]; exact hP, va_K.moved hW.alike hK, hD⟩, hS.F ht⟩) hS.2.2 d_M_costOf_260
      · have h := h.2 cc_
        refine lv_iconst (v := -1) hx hb d_M_costOf_254 (by decide) ?_
        refine lv_goto (tgt := 260) hx hb d_M_costOf_255 (by decide) ?_
        subst hQf
        exact W.iret (v := (-1 : Int32)) hx hb hr (fun t ht hW => ⟨⟨(-1 : Int32), (), rfl, h, by rw [ht]; exact hP, va_K.moved hW.alike hK, hD⟩, hS.F ht⟩) hS.2.2 d_M_costOf_260
    · have h := h.2 cc_
      refine lv_aload_n hx hb d_M_costOf_95 rfl (lv_at hl 0 rfl) ?_
      refine lv_iload_n hx hb d_M_costOf_96 rfl (lv_at hl 1 rfl) ?_
      refine lv_iload_n hx hb d_M_costOf_97 rfl (lv_at hl 2 rfl) ?_
      refine lv_iload hx hb d_M_costOf_98 (lv_at hl 11 rfl) ?_
      refine lv_iadd hx hb d_M_costOf_100 ?_
      obtain ⟨Q101, hq101, h⟩ := h
      have hPc := hP.sub (ws' := (cw_M_xAt cI a_this a_froms a_sizes a_xs a_colours a_layersOf a_areas a_ys a_used a_cornerAt a_counts a_costs a_firsts a_manys a_fs a_px a_py a_groups a_joinF n_froms n_sizes n_xs c_code c_width c_height c_isTraced c_outlines c_points c_hasPolygon c_of c_corners c_costSum c_hasCurves c_curveCount c_sharp c_allowed f_froms f_sizes f_xs)) [0, 1, 2, 3] rfl
      have hDc := hD.sub (ws' := (cw_M_xAt cI a_this a_froms a_sizes a_xs a_colours a_layersOf a_areas a_ys a_used a_cornerAt a_counts a_costs a_firsts a_manys a_fs a_px a_py a_groups a_joinF n_froms n_sizes n_xs c_code c_width c_height c_isTraced c_outlines c_points c_hasPolygon c_of c_corners c_costSum c_hasCurves c_curveCount c_sharp c_allowed f_froms f_sizes f_xs)) [0, 1, 2, 3] (by decide) rfl
      have hFc := va_free (wc := (cw_M_xAt cI a_this a_froms a_sizes a_xs a_colours a_layersOf a_areas a_ys a_used a_cornerAt a_counts a_costs a_firsts a_manys a_fs a_px a_py a_groups a_joinF n_froms n_sizes n_xs c_code c_width c_height c_isTraced c_outlines c_points c_hasPolygon c_of c_corners c_costSum c_hasCurves c_curveCount c_sharp c_allowed f_froms f_sizes f_xs)) hD hS hA [0, 1, 2, 3] rfl
      refine va_calli (va_runV (As := [.int x1_j77, .int (x2_j77 + x14_l89)]) (rest := []) ⟨hx, hb, hml, hown, hts⟩ (c_M_xAt l dC dI cI cB cJ cZ a_this a_froms a_sizes a_xs a_colours a_layersOf a_areas a_ys a_used a_cornerAt a_counts a_costs a_firsts a_manys a_fs a_px a_py a_groups a_joinF H.size n_froms n_sizes n_xs c_code c_width c_height c_isTraced c_outlines c_points c_hasPolygon c_of c_corners c_costSum c_hasCurves c_curveCount c_sharp c_allowed f_froms f_sizes f_xs x1_j77 (x2_j77 + x14_l89) Q101 hq101) (cwV 2 hts (goodV q_820 q_822 q_p39 q_7 q_823) rfl rfl rfl (by decide +kernel) ⟨Nat.le_of_ble_eq_true rfl, Nat.le_of_ble_eq_true rfl⟩) ⟨fun a U g mk q => by obtain ⟨q0, q1, qP, qK, qD⟩ := q; exact ⟨q0, q1, qP, va_K.moved (u := U) (U := U.calling g mk a) (Vm.Alike.refl U.vm) qK, qD⟩, va_recv hK hPc (ci := 5) (q0 := 0) rfl rfl, fun U hU hW => ⟨rfl, by rw [hU], by rw [hU]; exact hPc, va_K.moved hW.alike hK, hDc.weaken (fun _ _ _ _ => trivial)⟩⟩ rfl rfl hl.1 rfl (lv_room (Nat.le_of_ble_eq_true rfl)) d_M_costOf_101 ⟨Nat.le_of_ble_eq_true rfl, Nat.le_of_ble_eq_true rfl⟩) hS (fun q _ h => hFc q h) hFc (fun r101 u101 t H1 locs ht hvm hw hB hz1 hk1 hS => ?_)
      cases u101
      obtain ⟨hP1, -, hD1⟩ := hB
      rw [ht] at hP1
      have h := h r101 hw
      obtain ⟨hP, hD⟩ := va_join (wr := [(a_ys, .inl (cI, n_ys, .inl f_ys))]) (w1 := (cw_M_xAt cI a_this a_froms a_sizes a_xs a_colours a_layersOf a_areas a_ys a_used a_cornerAt a_counts a_costs a_firsts a_manys a_fs a_px a_py a_groups a_joinF n_froms n_sizes n_xs c_code c_width c_height c_isTraced c_outlines c_points c_hasPolygon c_of c_corners c_costSum c_hasCurves c_curveCount c_sharp c_allowed f_froms f_sizes f_xs)) hP hD [0, 1, 2, 3] [4] rfl rfl (by decide) (by decide) hk1 hFc hP1 hD1
      clear hP1 hD1 hk1 hPc hDc hFc
      generalize H1 = H at hP hS ⊢
      have hP : va_P (dC, dI) vwCl (cw_M_costOf cI a_this a_froms a_sizes a_xs a_ys a_colours a_layersOf a_areas a_used a_cornerAt a_counts a_costs a_firsts a_manys a_fs a_px a_py a_groups a_joinF n_froms n_sizes n_xs n_ys c_code c_width c_height c_isTraced c_outlines c_points c_hasPolygon c_of c_corners c_costSum c_hasCurves c_curveCount c_sharp c_allowed f_froms f_sizes f_xs f_ys) H := hP.sub [1, 2, 3, 4, 0] rfl
      have hD : va_D A (cw_M_costOf cI a_this a_froms a_sizes a_xs a_ys a_colours a_layersOf a_areas a_used a_cornerAt a_counts a_costs a_firsts a_manys a_fs a_px a_py a_groups a_joinF n_froms n_sizes n_xs n_ys c_code c_width c_height c_isTraced c_outlines c_points c_hasPolygon c_of c_corners c_costSum c_hasCurves c_curveCount c_sharp c_allowed f_froms f_sizes f_xs f_ys) := hD.sub [1, 2, 3, 4, 0] (by decide) rfl
      refine lv_istore (lv' := [(15, .int r101), (0, .ref a_this), (1, .int x1_j77), (2, .int x2_j77), (3, .int x3_j77), (5, .int x5_j77), (6, .int x6_j77), (7, .int x7_j77), (8, .int x8_j77), (11, .int x11_78), (12, .int x12_l89), (13, .int x13_l89), (14, .int x14_l89)]) hx hb d_M_costOf_104 hl (by decide) rfl (fun ls hl => ?_)
      refine lv_aload_n hx hb d_M_costOf_106 rfl (lv_at hl 1 rfl) ?_
      refine lv_iload_n hx hb d_M_costOf_107 rfl (lv_at hl 2 rfl) ?_
      refine lv_iload_n hx hb d_M_costOf_108 rfl (lv_at hl 3 rfl) ?_
      refine lv_iload hx hb d_M_costOf_109 (lv_at hl 12 rfl) ?_
      refine lv_iadd hx hb d_M_costOf_111 ?_
      obtain ⟨Q112, hq112, h⟩ := h
      have hPc := hP.sub (ws' := (cw_M_yAt cI a_this a_froms a_sizes a_ys a_colours a_layersOf a_areas a_xs a_used a_cornerAt a_counts a_costs a_firsts a_manys a_fs a_px a_py a_groups a_joinF n_froms n_sizes n_ys c_code c_width c_height c_isTraced c_outlines c_points c_hasPolygon c_of c_corners c_costSum c_hasCurves c_curveCount c_sharp c_allowed f_froms f_sizes f_ys)) [0, 1, 2, 4] rfl
      have hDc := hD.sub (ws' := (cw_M_yAt cI a_this a_froms a_sizes a_ys a_colours a_layersOf a_areas a_xs a_used a_cornerAt a_counts a_costs a_firsts a_manys a_fs a_px a_py a_groups a_joinF n_froms n_sizes n_ys c_code c_width c_height c_isTraced c_outlines c_points c_hasPolygon c_of c_corners c_costSum c_hasCurves c_curveCount c_sharp c_allowed f_froms f_sizes f_ys)) [0, 1, 2, 4] (by decide) rfl
      have hFc := va_free (wc := (cw_M_yAt cI a_this a_froms a_sizes a_ys a_colours a_layersOf a_areas a_xs a_used a_cornerAt a_counts a_costs a_firsts a_manys a_fs a_px a_py a_groups a_joinF n_froms n_sizes n_ys c_code c_width c_height c_isTraced c_outlines c_points c_hasPolygon c_of c_corners c_costSum c_hasCurves c_curveCount c_sharp c_allowed f_froms f_sizes f_ys)) hD hS hA [0, 1, 2, 4] rfl
      refine va_calli (va_runV (As := [.int x1_j77, .int (x2_j77 + x14_l89)]) (rest := []) ⟨hx, hb, hml, hown, hts⟩ (c_M_yAt l dC dI cI cB cJ cZ a_this a_froms a_sizes a_ys a_colours a_layersOf a_areas a_xs a_used a_cornerAt a_counts a_costs a_firsts a_manys a_fs a_px a_py a_groups a_joinF H.size n_froms n_sizes n_ys c_code c_width c_height c_isTraced c_outlines c_points c_hasPolygon c_of c_corners c_costSum c_hasCurves c_curveCount c_sharp c_allowed f_froms f_sizes f_ys x1_j77 (x2_j77 + x14_l89) Q112 hq112) (cwV 2 hts (goodV q_824 q_826 q_p40 q_7 q_827) rfl rfl rfl (by decide +kernel) ⟨Nat.le_of_ble_eq_true rfl, Nat.le_of_ble_eq_true rfl⟩) ⟨fun a U g mk q => by obtain ⟨q0, q1, qP, qK, qD⟩ := q; exact ⟨q0, q1, qP, va_K.moved (u := U) (U := U.calling g mk a) (Vm.Alike.refl U.vm) qK, qD⟩, va_recv hK hPc (ci := 5) (q0 := 0) rfl rfl, fun U hU hW => ⟨rfl, by rw [hU], by rw [hU]; exact hPc, va_K.moved hW.alike hK, hDc.weaken (fun _ _ _ _ => trivial)⟩⟩ rfl rfl hl.1 rfl (lv_room (Nat.le_of_ble_eq_true rfl)) d_M_costOf_112 ⟨Nat.le_of_ble_eq_true rfl, Nat.le_of_ble_eq_true rfl⟩) hS (fun q _ h => hFc q h) hFc (fun r112 u112 t H1 locs ht hvm hw hB hz1 hk1 hS => ?_)
      cases u112
      obtain ⟨hP1, -, hD1⟩ := hB
      rw [ht] at hP1
      have h := h r112 hw
      obtain ⟨hP, hD⟩ := va_join (wr := [(a_xs, .inl (cI, n_xs, .inl f_xs))]) (w1 := (cw_M_yAt cI a_this a_froms a_sizes a_ys a_colours a_layersOf a_areas a_xs a_used a_cornerAt a_counts a_costs a_firsts a_manys a_fs a_px a_py a_groups a_joinF n_froms n_sizes n_ys c_code c_width c_height c_isTraced c_outlines c_points c_hasPolygon c_of c_corners c_costSum c_hasCurves c_curveCount c_sharp c_allowed f_froms f_sizes f_ys)) hP hD [0, 1, 2, 4] [3] rfl rfl (by decide) (by decide) hk1 hFc hP1 hD1
      clear hP1 hD1 hk1 hPc hDc hFc
      generalize H1 = H at hP hS ⊢
      have hP : va_P (dC, dI) vwCl (cw_M_costOf cI a_this a_froms a_sizes a_xs a_ys a_colours a_layersOf a_areas a_used a_cornerAt a_counts a_costs a_firsts a_manys a_fs a_px a_py a_groups a_joinF n_froms n_sizes n_xs n_ys c_code c_width c_height c_isTraced c_outlines c_points c_hasPolygon c_of c_corners c_costSum c_hasCurves c_curveCount c_sharp c_allowed f_froms f_sizes f_xs f_ys) H := hP.sub [1, 2, 3, 0, 4] rfl
      have hD : va_D A (cw_M_costOf cI a_this a_froms a_sizes a_xs a_ys a_colours a_layersOf a_areas a_used a_cornerAt a_counts a_costs a_firsts a_manys a_fs a_px a_py a_groups a_joinF n_froms n_sizes n_xs n_ys c_code c_width c_height c_isTraced c_outlines c_points c_hasPolygon c_of c_corners c_costSum c_hasCurves c_curveCount c_sharp c_allowed f_froms f_sizes f_xs f_ys) := hD.sub [1, 2, 3, 0, 4] (by decide) rfl
      refine lv_istore (lv' := [(16, .int r112), (15, .int r101), (0, .ref a_this), (1, .int x1_j77), (2, .int x2_j77), (3, .int x3_j77), (5, .int x5_j77), (6, .int x6_j77), (7, .int x7_j77), (8, .int x8_j77), (11, .int x11_78), (12, .int x12_l89), (13, .int x13_l89), (14, .int x14_l89)]) hx hb d_M_costOf_115 hl (by decide) rfl (fun ls hl => ?_)
      refine lv_iload hx hb d_M_costOf_117 (lv_at hl 8 rfl) ?_
      refine lv_iload hx hb d_M_costOf_119 (lv_at hl 6 rfl) ?_
      refine lv_isub hx hb d_M_costOf_121 ?_
      refine lv_iload hx hb d_M_costOf_122 (lv_at hl 0 rfl) ?_
      refine lv_iload hx hb d_M_costOf_124 (lv_at hl 7 rfl) ?_
      refine lv_isub hx hb d_M_costOf_126 ?_
      refine lv_imul hx hb d_M_costOf_127 ?_
      refine lv_iload hx hb d_M_costOf_128 (lv_at hl 9 rfl) ?_
      refine lv_iload hx hb d_M_costOf_130 (lv_at hl 7 rfl) ?_
      refine lv_isub hx hb d_M_costOf_132 ?_
      refine lv_iload hx hb d_M_costOf_133 (lv_at hl 1 rfl) ?_
      refine lv_iload hx hb d_M_costOf_135 (lv_at hl 6 rfl) ?_
      refine lv_isub hx hb d_M_costOf_137 ?_
      refine lv_imul hx hb d_M_costOf_138 ?_
      refine lv_isub hx hb d_M_costOf_139 ?_
      refine lv_topi (fun x17_140 e_x17_140 => ?_)
      have h := h x17_140 e_x17_140
      refine lv_istore (lv' := [(17, .int x17_140), (16, .int r112), (15, .int r101), (0, .ref a_this), (1, .int x1_j77), (2, .int x2_j77), (3, .int x3_j77), (5, .int x5_j77), (6, .int x6_j77), (7, .int x7_j77), (8, .int x8_j77), (11, .int x11_78), (12, .int x12_l89), (13, .int x13_l89), (14, .int x14_l89)]) hx hb d_M_costOf_140 hl (by decide) rfl (fun ls hl => ?_)
      refine lv_iload hx hb d_M_costOf_142 (lv_at hl 0 rfl) ?_
      refine lv_if_ge (tgt := 153) hx hb d_M_costOf_144 (by decide) (fun cc_ => ?_) (fun cc_ => ?_)
      · have h := h.1 cc_
        refine lv_iload hx hb d_M_costOf_153 (lv_at hl 0 rfl) ?_
        exact J155 x12_l89 x13_l89 x14_l89 r101 r112 x17_140 _ _ _ h hP hD hS (lv_sub hl [3, 4, 5, 6, 7, 8, 9, 10, 11, 12, 13, 14, 2, 1] rfl)
      · have h := h.2 cc_
        refine lv_iload hx hb d_M_costOf_147 (lv_at hl 0 rfl) ?_
        refine lv_ineg hx hb d_M_costOf_149 ?_
        refine lv_goto (tgt := 155) hx hb d_M_costOf_150 (by decide) ?_
        exact J155 x12_l89 x13_l89 x14_l89 r101 r112 (-x17_140) _ _ _ h hP hD hS (lv_sub hl [3, 4, 5, 6, 7, 8, 9, 10, 11, 12, 13, 14, 2, 1] rfl)
  refine lv_iload_n hx hb d_M_costOf_0 rfl (lv_at hl 3 rfl) ?_
  refine lv_iconst (v := 1) hx hb d_M_costOf_1 (by decide) ?_
  refine lv_icmp_ne (tgt := 7) hx hb d_M_costOf_2 (by decide) (fun cc_ => ?_) (fun cc_ => ?_)
  · have h := h.1 cc_
    refine lv_aload_n hx hb d_M_costOf_7 rfl (lv_at hl 0 rfl) ?_
    refine lv_iload_n hx hb d_M_costOf_8 rfl (lv_at hl 1 rfl) ?_
    refine lv_iload_n hx hb d_M_costOf_9 rfl (lv_at hl 2 rfl) ?_
    obtain ⟨Q10, hq10, h⟩ := h
    have hPc := hP.sub (ws' := (cw_M_xAt cI a_this a_froms a_sizes a_xs a_colours a_layersOf a_areas a_ys a_used a_cornerAt a_counts a_costs a_firsts a_manys a_fs a_px a_py a_groups a_joinF n_froms n_sizes n_xs c_code c_width c_height c_isTraced c_outlines c_points c_hasPolygon c_of c_corners c_costSum c_hasCurves c_curveCount c_sharp c_allowed f_froms f_sizes f_xs)) [0, 1, 2, 3] rfl
    have hDc := hD.sub (ws' := (cw_M_xAt cI a_this a_froms a_sizes a_xs a_colours a_layersOf a_areas a_ys a_used a_cornerAt a_counts a_costs a_firsts a_manys a_fs a_px a_py a_groups a_joinF n_froms n_sizes n_xs c_code c_width c_height c_isTraced c_outlines c_points c_hasPolygon c_of c_corners c_costSum c_hasCurves c_curveCount c_sharp c_allowed f_froms f_sizes f_xs)) [0, 1, 2, 3] (by decide) rfl
    have hFc := va_free (wc := (cw_M_xAt cI a_this a_froms a_sizes a_xs a_colours a_layersOf a_areas a_ys a_used a_cornerAt a_counts a_costs a_firsts a_manys a_fs a_px a_py a_groups a_joinF n_froms n_sizes n_xs c_code c_width c_height c_isTraced c_outlines c_points c_hasPolygon c_of c_corners c_costSum c_hasCurves c_curveCount c_sharp c_allowed f_froms f_sizes f_xs)) hD hS hA [0, 1, 2, 3] rfl
    refine va_calli (va_runV (As := [.int x1, .int x2]) (rest := []) ⟨hx, hb, hml, hown, hts⟩ (c_M_xAt l dC dI cI cB cJ cZ a_this a_froms a_sizes a_xs a_colours a_layersOf a_areas a_ys a_used a_cornerAt a_counts a_costs a_firsts a_manys a_fs a_px a_py a_groups a_joinF s.heap.size n_froms n_sizes n_xs c_code c_width c_height c_isTraced c_outlines c_points c_hasPolygon c_of c_corners c_costSum c_hasCurves c_curveCount c_sharp c_allowed f_froms f_sizes f_xs x1 x2 Q10 hq10) (cwV 2 hts (goodV q_820 q_822 q_p39 q_7 q_823) rfl rfl rfl (by decide +kernel) ⟨Nat.le_of_ble_eq_true rfl, Nat.le_of_ble_eq_true rfl⟩) ⟨fun a U g mk q => by obtain ⟨q0, q1, qP, qK, qD⟩ := q; exact ⟨q0, q1, qP, va_K.moved (u := U) (U := U.calling g mk a) (Vm.Alike.refl U.vm) qK, qD⟩, va_recv hK hPc (ci := 5) (q0 := 0) rfl rfl, fun U hU hW => ⟨rfl, by rw [hU], by rw [hU]; exact hPc, va_K.moved hW.alike hK, hDc.weaken (fun _ _ _ _ => trivial)⟩⟩ rfl rfl hl.1 rfl (lv_room (Nat.le_of_ble_eq_true rfl)) d_M_costOf_10 ⟨Nat.le_of_ble_eq_true rfl, Nat.le_of_ble_eq_true rfl⟩) hS (fun q _ h => hFc q h) hFc (fun r10 u10 t H1 locs ht hvm hw hB hz1 hk1 hS => ?_)
    cases u10
    obtain ⟨hP1, -, hD1⟩ := hB
    rw [ht] at hP1
    have h := h r10 hw
    obtain ⟨hP, hD⟩ := va_join (wr := [(a_ys, .inl (cI, n_ys, .inl f_ys))]) (w1 := (cw_M_xAt cI a_this a_froms a_sizes a_xs a_colours a_layersOf a_areas a_ys a_used a_cornerAt a_counts a_costs a_firsts a_manys a_fs a_px a_py a_groups a_joinF n_froms n_sizes n_xs c_code c_width c_height c_isTraced c_outlines c_points c_hasPolygon c_of c_corners c_costSum c_hasCurves c_curveCount c_sharp c_allowed f_froms f_sizes f_xs)) hP hD [0, 1, 2, 3] [4] rfl rfl (by decide) (by decide) hk1 hFc hP1 hD1
    clear hP1 hD1 hk1 hPc hDc hFc
    generalize H1 = H at hP hS ⊢
    have hP : va_P (dC, dI) vwCl (cw_M_costOf cI a_this a_froms a_sizes a_xs a_ys a_colours a_layersOf a_areas a_used a_cornerAt a_counts a_costs a_firsts a_manys a_fs a_px a_py a_groups a_joinF n_froms n_sizes n_xs n_ys c_code c_width c_height c_isTraced c_outlines c_points c_hasPolygon c_of c_corners c_costSum c_hasCurves c_curveCount c_sharp c_allowed f_froms f_sizes f_xs f_ys) H := hP.sub [1, 2, 3, 4, 0] rfl
    have hD : va_D A (cw_M_costOf cI a_this a_froms a_sizes a_xs a_ys a_colours a_layersOf a_areas a_used a_cornerAt a_counts a_costs a_firsts a_manys a_fs a_px a_py a_groups a_joinF n_froms n_sizes n_xs n_ys c_code c_width c_height c_isTraced c_outlines c_points c_hasPolygon c_of c_corners c_costSum c_hasCurves c_curveCount c_sharp c_allowed f_froms f_sizes f_xs f_ys) := hD.sub [1, 2, 3, 4, 0] (by decide) rfl
    refine lv_istore (lv' := [(5, .int r10), (0, .ref a_this), (1, .int x1), (2, .int x2), (3, .int x3), (4, .int x4)]) hx hb d_M_costOf_13 hl (by decide) rfl (fun ls hl => ?_)
    refine lv_aload_n hx hb d_M_costOf_15 rfl (lv_at hl 1 rfl) ?_
    refine lv_iload_n hx hb d_M_costOf_16 rfl (lv_at hl 2 rfl) ?_
    refine lv_iload_n hx hb d_M_costOf_17 rfl (lv_at hl 3 rfl) ?_
    obtain ⟨Q18, hq18, h⟩ := h
    have hPc := hP.sub (ws' := (cw_M_yAt cI a_this a_froms a_sizes a_ys a_colours a_layersOf a_areas a_xs a_used a_cornerAt a_counts a_costs a_firsts a_manys a_fs a_px a_py a_groups a_joinF n_froms n_sizes n_ys c_code c_width c_height c_isTraced c_outlines c_points c_hasPolygon c_of c_corners c_costSum c_hasCurves c_curveCount c_sharp c_allowed f_froms f_sizes f_ys)) [0, 1, 2, 4] rfl
    have hDc := hD.sub (ws' := (cw_M_yAt cI a_this a_froms a_sizes a_ys a_colours a_layersOf a_areas a_xs a_used a_cornerAt a_counts a_costs a_firsts a_manys a_fs a_px a_py a_groups a_joinF n_froms n_sizes n_ys c_code c_width c_height c_isTraced c_outlines c_points c_hasPolygon c_of c_corners c_costSum c_hasCurves c_curveCount c_sharp c_allowed f_froms f_sizes f_ys)) [0, 1, 2, 4] (by decide) rfl
    have hFc := va_free (wc := (cw_M_yAt cI a_this a_froms a_sizes a_ys a_colours a_layersOf a_areas a_xs a_used a_cornerAt a_counts a_costs a_firsts a_manys a_fs a_px a_py a_groups a_joinF n_froms n_sizes n_ys c_code c_width c_height c_isTraced c_outlines c_points c_hasPolygon c_of c_corners c_costSum c_hasCurves c_curveCount c_sharp c_allowed f_froms f_sizes f_ys)) hD hS hA [0, 1, 2, 4] rfl
    refine va_calli (va_runV (As := [.int x1, .int x2]) (rest := []) ⟨hx, hb, hml, hown, hts⟩ (c_M_yAt l dC dI cI cB cJ cZ a_this a_froms a_sizes a_ys a_colours a_layersOf a_areas a_xs a_used a_cornerAt a_counts a_costs a_firsts a_manys a_fs a_px a_py a_groups a_joinF H.size n_froms n_sizes n_ys c_code c_width c_height c_isTraced c_outlines c_points c_hasPolygon c_of c_corners c_costSum c_hasCurves c_curveCount c_sharp c_allowed f_froms f_sizes f_ys x1 x2 Q18 hq18) (cwV 2 hts (goodV q_824 q_826 q_p40 q_7 q_827) rfl rfl rfl (by decide +kernel) ⟨Nat.le_of_ble_eq_true rfl, Nat.le_of_ble_eq_true rfl⟩) ⟨fun a U g mk q => by obtain ⟨q0, q1, qP, qK, qD⟩ := q; exact ⟨q0, q1, qP, va_K.moved (u := U) (U := U.calling g mk a) (Vm.Alike.refl U.vm) qK, qD⟩, va_recv hK hPc (ci := 5) (q0 := 0) rfl rfl, fun U hU hW => ⟨rfl, by rw [hU], by rw [hU]; exact hPc, va_K.moved hW.alike hK, hDc.weaken (fun _ _ _ _ => trivial)⟩⟩ rfl rfl hl.1 rfl (lv_room (Nat.le_of_ble_eq_true rfl)) d_M_costOf_18 ⟨Nat.le_of_ble_eq_true rfl, Nat.le_of_ble_eq_true rfl⟩) hS (fun q _ h => hFc q h) hFc (fun r18 u18 t H1 locs ht hvm hw hB hz1 hk1 hS => ?_)
    cases u18
    obtain ⟨hP1, -, hD1⟩ := hB
    rw [ht] at hP1
    have h := h r18 hw
    obtain ⟨hP, hD⟩ := va_join (wr := [(a_xs, .inl (cI, n_xs, .inl f_xs))]) (w1 := (cw_M_yAt cI a_this a_froms a_sizes a_ys a_colours a_layersOf a_areas a_xs a_used a_cornerAt a_counts a_costs a_firsts a_manys a_fs a_px a_py a_groups a_joinF n_froms n_sizes n_ys c_code c_width c_height c_isTraced c_outlines c_points c_hasPolygon c_of c_corners c_costSum c_hasCurves c_curveCount c_sharp c_allowed f_froms f_sizes f_ys)) hP hD [0, 1, 2, 4] [3] rfl rfl (by decide) (by decide) hk1 hFc hP1 hD1
    clear hP1 hD1 hk1 hPc hDc hFc
    generalize H1 = H at hP hS ⊢
    have hP : va_P (dC, dI) vwCl (cw_M_costOf cI a_this a_froms a_sizes a_xs a_ys a_colours a_layersOf a_areas a_used a_cornerAt a_counts a_costs a_firsts a_manys a_fs a_px a_py a_groups a_joinF n_froms n_sizes n_xs n_ys c_code c_width c_height c_isTraced c_outlines c_points c_hasPolygon c_of c_corners c_costSum c_hasCurves c_curveCount c_sharp c_allowed f_froms f_sizes f_xs f_ys) H := hP.sub [1, 2, 3, 0, 4] rfl
    have hD : va_D A (cw_M_costOf cI a_this a_froms a_sizes a_xs a_ys a_colours a_layersOf a_areas a_used a_cornerAt a_counts a_costs a_firsts a_manys a_fs a_px a_py a_groups a_joinF n_froms n_sizes n_xs n_ys c_code c_width c_height c_isTraced c_outlines c_points c_hasPolygon c_of c_corners c_costSum c_hasCurves c_curveCount c_sharp c_allowed f_froms f_sizes f_xs f_ys) := hD.sub [1, 2, 3, 0, 4] (by decide) rfl
    refine lv_istore (lv' := [(6, .int r18), (5, .int r10), (0, .ref a_this), (1, .int x1), (2, .int x2), (3, .int x3), (4, .int x4)]) hx hb d_M_costOf_21 hl (by decide) rfl (fun ls hl => ?_)
    refine lv_aload_n hx hb d_M_costOf_23 rfl (lv_at hl 2 rfl) ?_
    refine lv_iload_n hx hb d_M_costOf_24 rfl (lv_at hl 3 rfl) ?_
    refine lv_iload_n hx hb d_M_costOf_25 rfl (lv_at hl 4 rfl) ?_
    refine lv_iload_n hx hb d_M_costOf_26 rfl (lv_at hl 5 rfl) ?_
    refine lv_iadd hx hb d_M_costOf_27 ?_
    obtain ⟨Q28, hq28, h⟩ := h
    have hPc := hP.sub (ws' := (cw_M_xAt cI a_this a_froms a_sizes a_xs a_colours a_layersOf a_areas a_ys a_used a_cornerAt a_counts a_costs a_firsts a_manys a_fs a_px a_py a_groups a_joinF n_froms n_sizes n_xs c_code c_width c_height c_isTraced c_outlines c_points c_hasPolygon c_of c_corners c_costSum c_hasCurves c_curveCount c_sharp c_allowed f_froms f_sizes f_xs)) [0, 1, 2, 3] rfl
    have hDc := hD.sub (ws' := (cw_M_xAt cI a_this a_froms a_sizes a_xs a_colours a_layersOf a_areas a_ys a_used a_cornerAt a_counts a_costs a_firsts a_manys a_fs a_px a_py a_groups a_joinF n_froms n_sizes n_xs c_code c_width c_height c_isTraced c_outlines c_points c_hasPolygon c_of c_corners c_costSum c_hasCurves c_curveCount c_sharp c_allowed f_froms f_sizes f_xs)) [0, 1, 2, 3] (by decide) rfl
    have hFc := va_free (wc := (cw_M_xAt cI a_this a_froms a_sizes a_xs a_colours a_layersOf a_areas a_ys a_used a_cornerAt a_counts a_costs a_firsts a_manys a_fs a_px a_py a_groups a_joinF n_froms n_sizes n_xs c_code c_width c_height c_isTraced c_outlines c_points c_hasPolygon c_of c_corners c_costSum c_hasCurves c_curveCount c_sharp c_allowed f_froms f_sizes f_xs)) hD hS hA [0, 1, 2, 3] rfl
    refine va_calli (va_runV (As := [.int x1, .int (x2 + x3)]) (rest := []) ⟨hx, hb, hml, hown, hts⟩ (c_M_xAt l dC dI cI cB cJ cZ a_this a_froms a_sizes a_xs a_colours a_layersOf a_areas a_ys a_used a_cornerAt a_counts a_costs a_firsts a_manys a_fs a_px a_py a_groups a_joinF H.size n_froms n_sizes n_xs c_code c_width c_height c_isTraced c_outlines c_points c_hasPolygon c_of c_corners c_costSum c_hasCurves c_curveCount c_sharp c_allowed f_froms f_sizes f_xs x1 (x2 + x3) Q28 hq28) (cwV 2 hts (goodV q_820 q_822 q_p39 q_7 q_823) rfl rfl rfl (by decide +kernel) ⟨Nat.le_of_ble_eq_true rfl, Nat.le_of_ble_eq_true rfl⟩) ⟨fun a U g mk q => by obtain ⟨q0, q1, qP, qK, qD⟩ := q; exact ⟨q0, q1, qP, va_K.moved (u := U) (U := U.calling g mk a) (Vm.Alike.refl U.vm) qK, qD⟩, va_recv hK hPc (ci := 5) (q0 := 0) rfl rfl, fun U hU hW => ⟨rfl, by rw [hU], by rw [hU]; exact hPc, va_K.moved hW.alike hK, hDc.weaken (fun _ _ _ _ => trivial)⟩⟩ rfl rfl hl.1 rfl (lv_room (Nat.le_of_ble_eq_true rfl)) d_M_costOf_28 ⟨Nat.le_of_ble_eq_true rfl, Nat.le_of_ble_eq_true rfl⟩) hS (fun q _ h => hFc q h) hFc (fun r28 u28 t H1 locs ht hvm hw hB hz1 hk1 hS => ?_)
    cases u28
    obtain ⟨hP1, -, hD1⟩ := hB
    rw [ht] at hP1
    have h := h r28 hw
    obtain ⟨hP, hD⟩ := va_join (wr := [(a_ys, .inl (cI, n_ys, .inl f_ys))]) (w1 := (cw_M_xAt cI a_this a_froms a_sizes a_xs a_colours a_layersOf a_areas a_ys a_used a_cornerAt a_counts a_costs a_firsts a_manys a_fs a_px a_py a_groups a_joinF n_froms n_sizes n_xs c_code c_width c_height c_isTraced c_outlines c_points c_hasPolygon c_of c_corners c_costSum c_hasCurves c_curveCount c_sharp c_allowed f_froms f_sizes f_xs)) hP hD [0, 1, 2, 3] [4] rfl rfl (by decide) (by decide) hk1 hFc hP1 hD1
    clear hP1 hD1 hk1 hPc hDc hFc
    generalize H1 = H at hP hS ⊢
    have hP : va_P (dC, dI) vwCl (cw_M_costOf cI a_this a_froms a_sizes a_xs a_ys a_colours a_layersOf a_areas a_used a_cornerAt a_counts a_costs a_firsts a_manys a_fs a_px a_py a_groups a_joinF n_froms n_sizes n_xs n_ys c_code c_width c_height c_isTraced c_outlines c_points c_hasPolygon c_of c_corners c_costSum c_hasCurves c_curveCount c_sharp c_allowed f_froms f_sizes f_xs f_ys) H := hP.sub [1, 2, 3, 4, 0] rfl
    have hD : va_D A (cw_M_costOf cI a_this a_froms a_sizes a_xs a_ys a_colours a_layersOf a_areas a_used a_cornerAt a_counts a_costs a_firsts a_manys a_fs a_px a_py a_groups a_joinF n_froms n_sizes n_xs n_ys c_code c_width c_height c_isTraced c_outlines c_points c_hasPolygon c_of c_corners c_costSum c_hasCurves c_curveCount c_sharp c_allowed f_froms f_sizes f_xs f_ys) := hD.sub [1, 2, 3, 4, 0] (by decide) rfl
    refine lv_istore (lv' := [(7, .int r28), (6, .int r18), (5, .int r10), (0, .ref a_this), (1, .int x1), (2, .int x2), (3, .int x3), (4, .int x4)]) hx hb d_M_costOf_31 hl (by decide) rfl (fun ls hl => ?_)
    refine lv_aload_n hx hb d_M_costOf_33 rfl (lv_at hl 3 rfl) ?_
    refine lv_iload_n hx hb d_M_costOf_34 rfl (lv_at hl 4 rfl) ?_
    refine lv_iload_n hx hb d_M_costOf_35 rfl (lv_at hl 5 rfl) ?_
    refine lv_iload_n hx hb d_M_costOf_36 rfl (lv_at hl 6 rfl) ?_
    refine lv_iadd hx hb d_M_costOf_37 ?_
    obtain ⟨Q38, hq38, h⟩ := h
    have hPc := hP.sub (ws' := (cw_M_yAt cI a_this a_froms a_sizes a_ys a_colours a_layersOf a_areas a_xs a_used a_cornerAt a_counts a_costs a_firsts a_manys a_fs a_px a_py a_groups a_joinF n_froms n_sizes n_ys c_code c_width c_height c_isTraced c_outlines c_points c_hasPolygon c_of c_corners c_costSum c_hasCurves c_curveCount c_sharp c_allowed f_froms f_sizes f_ys)) [0, 1, 2, 4] rfl
    have hDc := hD.sub (ws' := (cw_M_yAt cI a_this a_froms a_sizes a_ys a_colours a_layersOf a_areas a_xs a_used a_cornerAt a_counts a_costs a_firsts a_manys a_fs a_px a_py a_groups a_joinF n_froms n_sizes n_ys c_code c_width c_height c_isTraced c_outlines c_points c_hasPolygon c_of c_corners c_costSum c_hasCurves c_curveCount c_sharp c_allowed f_froms f_sizes f_ys)) [0, 1, 2, 4] (by decide) rfl
    have hFc := va_free (wc := (cw_M_yAt cI a_this a_froms a_sizes a_ys a_colours a_layersOf a_areas a_xs a_used a_cornerAt a_counts a_costs a_firsts a_manys a_fs a_px a_py a_groups a_joinF n_froms n_sizes n_ys c_code c_width c_height c_isTraced c_outlines c_points c_hasPolygon c_of c_corners c_costSum c_hasCurves c_curveCount c_sharp c_allowed f_froms f_sizes f_ys)) hD hS hA [0, 1, 2, 4] rfl
    refine va_calli (va_runV (As := [.int x1, .int (x2 + x3)]) (rest := []) ⟨hx, hb, hml, hown, hts⟩ (c_M_yAt l dC dI cI cB cJ cZ a_this a_froms a_sizes a_ys a_colours a_layersOf a_areas a_xs a_used a_cornerAt a_counts a_costs a_firsts a_manys a_fs a_px a_py a_groups a_joinF H.size n_froms n_sizes n_ys c_code c_width c_height c_isTraced c_outlines c_points c_hasPolygon c_of c_corners c_costSum c_hasCurves c_curveCount c_sharp c_allowed f_froms f_sizes f_ys x1 (x2 + x3) Q38 hq38) (cwV 2 hts (goodV q_824 q_826 q_p40 q_7 q_827) rfl rfl rfl (by decide +kernel) ⟨Nat.le_of_ble_eq_true rfl, Nat.le_of_ble_eq_true rfl⟩) ⟨fun a U g mk q => by obtain ⟨q0, q1, qP, qK, qD⟩ := q; exact ⟨q0, q1, qP, va_K.moved (u := U) (U := U.calling g mk a) (Vm.Alike.refl U.vm) qK, qD⟩, va_recv hK hPc (ci := 5) (q0 := 0) rfl rfl, fun U hU hW => ⟨rfl, by rw [hU], by rw [hU]; exact hPc, va_K.moved hW.alike hK, hDc.weaken (fun _ _ _ _ => trivial)⟩⟩ rfl rfl hl.1 rfl (lv_room (Nat.le_of_ble_eq_true rfl)) d_M_costOf_38 ⟨Nat.le_of_ble_eq_true rfl, Nat.le_of_ble_eq_true rfl⟩) hS (fun q _ h => hFc q h) hFc (fun r38 u38 t H1 locs ht hvm hw hB hz1 hk1 hS => ?_)
    cases u38
    obtain ⟨hP1, -, hD1⟩ := hB
    rw [ht] at hP1
    have h := h r38 hw
    obtain ⟨hP, hD⟩ := va_join (wr := [(a_xs, .inl (cI, n_xs, .inl f_xs))]) (w1 := (cw_M_yAt cI a_this a_froms a_sizes a_ys a_colours a_layersOf a_areas a_xs a_used a_cornerAt a_counts a_costs a_firsts a_manys a_fs a_px a_py a_groups a_joinF n_froms n_sizes n_ys c_code c_width c_height c_isTraced c_outlines c_points c_hasPolygon c_of c_corners c_costSum c_hasCurves c_curveCount c_sharp c_allowed f_froms f_sizes f_ys)) hP hD [0, 1, 2, 4] [3] rfl rfl (by decide) (by decide) hk1 hFc hP1 hD1
    clear hP1 hD1 hk1 hPc hDc hFc
    generalize H1 = H at hP hS ⊢
    have hP : va_P (dC, dI) vwCl (cw_M_costOf cI a_this a_froms a_sizes a_xs a_ys a_colours a_layersOf a_areas a_used a_cornerAt a_counts a_costs a_firsts a_manys a_fs a_px a_py a_groups a_joinF n_froms n_sizes n_xs n_ys c_code c_width c_height c_isTraced c_outlines c_points c_hasPolygon c_of c_corners c_costSum c_hasCurves c_curveCount c_sharp c_allowed f_froms f_sizes f_xs f_ys) H := hP.sub [1, 2, 3, 0, 4] rfl
    have hD : va_D A (cw_M_costOf cI a_this a_froms a_sizes a_xs a_ys a_colours a_layersOf a_areas a_used a_cornerAt a_counts a_costs a_firsts a_manys a_fs a_px a_py a_groups a_joinF n_froms n_sizes n_xs n_ys c_code c_width c_height c_isTraced c_outlines c_points c_hasPolygon c_of c_corners c_costSum c_hasCurves c_curveCount c_sharp c_allowed f_froms f_sizes f_xs f_ys) := hD.sub [1, 2, 3, 0, 4] (by decide) rfl
    refine lv_istore (lv' := [(8, .int r38), (7, .int r28), (6, .int r18), (5, .int r10), (0, .ref a_this), (1, .int x1), (2, .int x2), (3, .int x3), (4, .int x4)]) hx hb d_M_costOf_41 hl (by decide) rfl (fun ls hl => ?_)
    refine lv_iload hx hb d_M_costOf_43 (lv_at hl 3 rfl) ?_
    refine lv_iload hx hb d_M_costOf_45 (lv_at hl 1 rfl) ?_
    obtain ⟨Q47, hq47, h⟩ := h
    have hPc := hP.sub (ws' := (cw_M_apart)) [] rfl
    have hDc := hD.sub (ws' := (cw_M_apart)) [] (by decide) rfl
    have hFc := va_free (wc := (cw_M_apart)) hD hS hA [] rfl
    refine va_calli (va_runS (As := [.int r10, .int r28]) (rest := []) ⟨hx, hb, hml, hown, hts⟩ (c_M_apart l dC dI cI cB cJ cZ H.size r10 r28 Q47 hq47) (va_cwS 2 hts (goodS q_851 q_852 q_7 q_853) rfl rfl rfl (by decide +kernel) ⟨Nat.le_of_ble_eq_true rfl, Nat.le_of_ble_eq_true rfl⟩) ⟨fun a U g mk q => by obtain ⟨q0, q1, qP, qK, qD⟩ := q; exact ⟨q0, q1, qP, va_K.moved (u := U) (U := U.calling g mk a) (Vm.Alike.refl U.vm) qK, qD⟩, fun U hU hW => ⟨rfl, by rw [hU], by rw [hU]; exact hPc, va_K.moved hW.alike hK, hDc.weaken (fun _ _ _ _ => trivial)⟩⟩ rfl rfl hl.1 rfl (lv_room (Nat.le_of_ble_eq_true rfl)) d_M_costOf_47 ⟨Nat.le_of_ble_eq_true rfl, Nat.le_of_ble_eq_true rfl⟩) hS (fun q _ h => hFc q h) hFc (fun r47 u47 t H1 locs ht hvm hw hB hz1 hk1 hS => ?_)
    cases u47
    obtain ⟨hP1, -, hD1⟩ := hB
    rw [ht] at hP1
    have h := h r47 hw
    obtain ⟨hP, hD⟩ := va_join (wr := [(a_this, .inr (5, [.int c_code, .int c_width, .int c_height, .ref a_colours, .int c_isTraced, .int c_outlines, .ref a_froms, .ref a_sizes, .ref a_layersOf, .ref a_areas, .int c_points, .ref a_xs, .ref a_ys, .ref a_used, .int c_hasPolygon, .int c_of, .int c_corners, .int c_costSum, .ref a_cornerAt, .ref a_counts, .ref a_costs, .int c_hasCurves, .int c_curveCount, .ref a_firsts, .ref a_manys, .ref a_fs, .int c_sharp, .int c_allowed, .ref a_px, .ref a_py, .ref a_groups, .ref a_joinF])), (a_froms, .inl (cI, n_froms, .inl f_froms)), (a_sizes, .inl (cI, n_sizes, .inl f_sizes)), (a_xs, .inl (cI, n_xs, .inl f_xs)), (a_ys, .inl (cI, n_ys, .inl f_ys))]) (w1 := (cw_M_apart)) hP hD [] [0, 1, 2, 3, 4] rfl rfl (by decide) (by decide) hk1 hFc hP1 hD1
    clear hP1 hD1 hk1 hPc hDc hFc
    generalize H1 = H at hP hS ⊢
    have hP : va_P (dC, dI) vwCl (cw_M_costOf cI a_this a_froms a_sizes a_xs a_ys a_colours a_layersOf a_areas a_used a_cornerAt a_counts a_costs a_firsts a_manys a_fs a_px a_py a_groups a_joinF n_froms n_sizes n_xs n_ys c_code c_width c_height c_isTraced c_outlines c_points c_hasPolygon c_of c_corners c_costSum c_hasCurves c_curveCount c_sharp c_allowed f_froms f_sizes f_xs f_ys) H := hP.sub [0, 1, 2, 3, 4] rfl
    have hD : va_D A (cw_M_costOf cI a_this a_froms a_sizes a_xs a_ys a_colours a_layersOf a_areas a_used a_cornerAt a_counts a_costs a_firsts a_manys a_fs a_px a_py a_groups a_joinF n_froms n_sizes n_xs n_ys c_code c_width c_height c_isTraced c_outlines c_points c_hasPolygon c_of c_corners c_costSum c_hasCurves c_curveCount c_sharp c_allowed f_froms f_sizes f_xs f_ys) := hD.sub [0, 1, 2, 3, 4] (by decide) rfl
    refine lv_istore (lv' := [(9, .int r47), (8, .int r38), (7, .int r28), (6, .int r18), (5, .int r10), (0, .ref a_this), (1, .int x1), (2, .int x2), (3, .int x3), (4, .int x4)]) hx hb d_M_costOf_50 hl (by decide) rfl (fun ls hl => ?_)
    refine lv_iload hx hb d_M_costOf_52 (lv_at hl 3 rfl) ?_
    refine lv_iload hx hb d_M_costOf_54 (lv_at hl 1 rfl) ?_
    obtain ⟨Q56, hq56, h⟩ := h
    have hPc := hP.sub (ws' := (cw_M_apart)) [] rfl
    have hDc := hD.sub (ws' := (cw_M_apart)) [] (by decide) rfl
    have hFc := va_free (wc := (cw_M_apart)) hD hS hA [] rfl
    refine va_calli (va_runS (As := [.int r18, .int r38]) (rest := []) ⟨hx, hb, hml, hown, hts⟩ (c_M_apart l dC dI cI cB cJ cZ H.size r18 r38 Q56 hq56) (va_cwS 2 hts (goodS q_851 q_852 q_7 q_853) rfl rfl rfl (by decide +kernel) ⟨Nat.le_of_ble_eq_true rfl, Nat.le_of_ble_eq_true rfl⟩) ⟨fun a U g mk q => by obtain ⟨q0, q1, qP, qK, qD⟩ := q; exact ⟨q0, q1, qP, va_K.moved (u := U) (U := U.calling g mk a) (Vm.Alike.refl U.vm) qK, qD⟩, fun U hU hW => ⟨rfl, by rw [hU], by rw [hU]; exact hPc, va_K.moved hW.alike hK, hDc.weaken (fun _ _ _ _ => trivial)⟩⟩ rfl rfl hl.1 rfl (lv_room (Nat.le_of_ble_eq_true rfl)) d_M_costOf_56 ⟨Nat.le_of_ble_eq_true rfl, Nat.le_of_ble_eq_true rfl⟩) hS (fun q _ h => hFc q h) hFc (fun r56 u56 t H1 locs ht hvm hw hB hz1 hk1 hS => ?_)
    cases u56
    obtain ⟨hP1, -, hD1⟩ := hB
    rw [ht] at hP1
    have h := h r56 hw
    obtain ⟨hP, hD⟩ := va_join (wr := [(a_this, .inr (5, [.int c_code, .int c_width, .int c_height, .ref a_colours, .int c_isTraced, .int c_outlines, .ref a_froms, .ref a_sizes, .ref a_layersOf, .ref a_areas, .int c_points, .ref a_xs, .ref a_ys, .ref a_used, .int c_hasPolygon, .int c_of, .int c_corners, .int c_costSum, .ref a_cornerAt, .ref a_counts, .ref a_costs, .int c_hasCurves, .int c_curveCount, .ref a_firsts, .ref a_manys, .ref a_fs, .int c_sharp, .int c_allowed, .ref a_px, .ref a_py, .ref a_groups, .ref a_joinF])), (a_froms, .inl (cI, n_froms, .inl f_froms)), (a_sizes, .inl (cI, n_sizes, .inl f_sizes)), (a_xs, .inl (cI, n_xs, .inl f_xs)), (a_ys, .inl (cI, n_ys, .inl f_ys))]) (w1 := (cw_M_apart)) hP hD [] [0, 1, 2, 3, 4] rfl rfl (by decide) (by decide) hk1 hFc hP1 hD1
    clear hP1 hD1 hk1 hPc hDc hFc
    generalize H1 = H at hP hS ⊢
    have hP : va_P (dC, dI) vwCl (cw_M_costOf cI a_this a_froms a_sizes a_xs a_ys a_colours a_layersOf a_areas a_used a_cornerAt a_counts a_costs a_firsts a_manys a_fs a_px a_py a_groups a_joinF n_froms n_sizes n_xs n_ys c_code c_width c_height c_isTraced c_outlines c_points c_hasPolygon c_of c_corners c_costSum c_hasCurves c_curveCount c_sharp c_allowed f_froms f_sizes f_xs f_ys) H := hP.sub [0, 1, 2, 3, 4] rfl
    have hD : va_D A (cw_M_costOf cI a_this a_froms a_sizes a_xs a_ys a_colours a_layersOf a_areas a_used a_cornerAt a_counts a_costs a_firsts a_manys a_fs a_px a_py a_groups a_joinF n_froms n_sizes n_xs n_ys c_code c_width c_height c_isTraced c_outlines c_points c_hasPolygon c_of c_corners c_costSum c_hasCurves c_curveCount c_sharp c_allowed f_froms f_sizes f_xs f_ys) := hD.sub [0, 1, 2, 3, 4] (by decide) rfl
    refine lv_istore (lv' := [(10, .int r56), (9, .int r47), (8, .int r38), (7, .int r28), (6, .int r18), (5, .int r10), (0, .ref a_this), (1, .int x1), (2, .int x2), (3, .int x3), (4, .int x4)]) hx hb d_M_costOf_59 hl (by decide) rfl (fun ls hl => ?_)
    refine lv_iload hx hb d_M_costOf_61 (lv_at hl 10 rfl) ?_
    refine lv_iload hx hb d_M_costOf_63 (lv_at hl 1 rfl) ?_
    refine lv_iload hx hb d_M_costOf_65 (lv_at hl 0 rfl) ?_
    refine lv_icmp_le (tgt := 75) hx hb d_M_costOf_67 (by decide) (fun cc_ => ?_) (fun cc_ => ?_)
    · have h := h.1 cc_
      refine lv_iload hx hb d_M_costOf_75 (lv_at hl 0 rfl) ?_
      exact J77 x1 x2 x3 r10 r18 r28 r38 r56 x4 _ _ _ h hP hD hS (lv_sub hl [6, 7, 8, 9, 5, 4, 3, 2] rfl)
    · have h := h.2 cc_
      refine lv_iload hx hb d_M_costOf_70 (lv_at hl 1 rfl) ?_
      refine lv_goto (tgt := 77) hx hb d_M_costOf_72 (by decide) ?_
      exact J77 x1 x2 x3 r10 r18 r28 r38 r47 x4 _ _ _ h hP hD hS (lv_sub hl [6, 7, 8, 9, 5, 4, 3, 2] rfl)
  · have h := h.2 cc_
    refine lv_iconst (v := 0) hx hb d_M_costOf_5 (by decide) ?_
    subst hQf
    exact W.iret (v := (0 : Int32)) hx hb hr (fun t ht hW => ⟨⟨(0 : Int32), (), rfl, h, by rw [ht]; exact hP, va_K.moved hW.alike hK, hD⟩, hS.F ht⟩) hS.2.2 d_M_costOf_6
def wp_M_piece_J84 (n_froms n_sizes n_xs n_ys : Nat) (c_isTraced : Int32) (c_outlines : Int32) (f_froms : Nat → Int32) (f_sizes : Nat → Int32) (f_xs : Nat → Int32) (f_ys : Nat → Int32) (c_code : Int32) (x1 : Int32) (x2 : Int32) (x3 : Int32) (x4 : Int32) (y0 : Int32) (post : Int32 → Int32 → Prop) : Prop :=
  ∃ Q84 : Int32 → Int32 → Prop, wp_M_refuses c_code y0 Q84 ∧ ∀ (r84 : Int32) (u84_0 : Int32), Q84 r84 u84_0 → (r84 = 0 → ∃ Q98 : Int32 → Unit → Prop, wp_M_costOf n_froms n_sizes n_xs n_ys f_froms f_sizes f_xs f_ys x1 x2 x3 x4 Q98 ∧ ∀ (r98 : Int32), Q98 r98 () → post r98 u84_0) ∧ (¬ r84 = 0 → post (0 : Int32) u84_0)
def wp_M_piece_J79 (n_froms n_sizes n_xs n_ys : Nat) (c_isTraced : Int32) (c_outlines : Int32) (f_froms : Nat → Int32) (f_sizes : Nat → Int32) (f_xs : Nat → Int32) (f_ys : Nat → Int32) (c_code : Int32) (x1 : Int32) (x2 : Int32) (x3 : Int32) (x4 : Int32) (post : Int32 → Int32 → Prop) : Prop :=
  wp_M_piece_J84 n_froms n_sizes n_xs n_ys c_isTraced c_outlines f_froms f_sizes f_xs f_ys c_code x1 x2 x3 x4 (3 : Int32) post
def wp_M_piece_J35 (n_froms n_sizes n_xs n_ys : Nat) (c_isTraced : Int32) (c_outlines : Int32) (f_froms : Nat → Int32) (f_sizes : Nat → Int32) (f_xs : Nat → Int32) (f_ys : Nat → Int32) (c_code : Int32) (x1 : Int32) (x2 : Int32) (x3 : Int32) (x4 : Int32) (y0 : Int32) (post : Int32 → Int32 → Prop) : Prop :=
  (¬ c_isTraced = 0 → (¬ y0 = 0 → ∃ Q62 : Int32 → Unit → Prop, wp_M_in x3 (1 : Int32) (24 : Int32) Q62 ∧ ∀ (r62 : Int32), Q62 r62 () → (r62 = 0 → wp_M_piece_J79 n_froms n_sizes n_xs n_ys c_isTraced c_outlines f_froms f_sizes f_xs f_ys c_code x1 x2 x3 x4 post) ∧ (¬ r62 = 0 → ∃ Q73 : Int32 → Unit → Prop, wp_M_in x4 (1 : Int32) (8 : Int32) Q73 ∧ ∀ (r73 : Int32), Q73 r73 () → (¬ r73 = 0 → wp_M_piece_J84 n_froms n_sizes n_xs n_ys c_isTraced c_outlines f_froms f_sizes f_xs f_ys c_code x1 x2 x3 x4 (0 : Int32) post) ∧ (r73 = 0 → wp_M_piece_J79 n_froms n_sizes n_xs n_ys c_isTraced c_outlines f_froms f_sizes f_xs f_ys c_code x1 x2 x3 x4 post))) ∧ (y0 = 0 → wp_M_piece_J84 n_froms n_sizes n_xs n_ys c_isTraced c_outlines f_froms f_sizes f_xs f_ys c_code x1 x2 x3 x4 (2 : Int32) post)) ∧ (c_isTraced = 0 → wp_M_piece_J84 n_froms n_sizes n_xs n_ys c_isTraced c_outlines f_froms f_sizes f_xs f_ys c_code x1 x2 x3 x4 (1 : Int32) post)
def wp_M_piece_J34 (n_froms n_sizes n_xs n_ys : Nat) (c_isTraced : Int32) (c_outlines : Int32) (f_froms : Nat → Int32) (f_sizes : Nat → Int32) (f_xs : Nat → Int32) (f_ys : Nat → Int32) (c_code : Int32) (x1 : Int32) (x2 : Int32) (x3 : Int32) (x4 : Int32) (post : Int32 → Int32 → Prop) : Prop :=
  wp_M_piece_J35 n_froms n_sizes n_xs n_ys c_isTraced c_outlines f_froms f_sizes f_xs f_ys c_code x1 x2 x3 x4 (0 : Int32) post
def wp_M_piece (n_froms n_sizes n_xs n_ys : Nat) (c_code : Int32) (c_isTraced : Int32) (c_outlines : Int32) (f_froms : Nat → Int32) (f_sizes : Nat → Int32) (f_xs : Nat → Int32) (f_ys : Nat → Int32) (x1 : Int32) (x2 : Int32) (x3 : Int32) (x4 : Int32) (post : Int32 → Int32 → Prop) : Prop :=
  ∃ Q8 : Int32 → Unit → Prop, wp_M_in x1 (0 : Int32) (c_outlines - (1 : Int32)) Q8 ∧ ∀ (r8 : Int32), Q8 r8 () → (r8 = 0 → wp_M_piece_J34 n_froms n_sizes n_xs n_ys c_isTraced c_outlines f_froms f_sizes f_xs f_ys c_code x1 x2 x3 x4 post) ∧ (¬ r8 = 0 → vp_in x1 n_sizes ∧ ∃ Q24 : Int32 → Unit → Prop, wp_M_in x2 (0 : Int32) ((f_sizes x1.toNatClampNeg) - (1 : Int32)) Q24 ∧ ∀ (r24 : Int32), Q24 r24 () → (r24 = 0 → wp_M_piece_J34 n_froms n_sizes n_xs n_ys c_isTraced c_outlines f_froms f_sizes f_xs f_ys c_code x1 x2 x3 x4 post) ∧ (¬ r24 = 0 → wp_M_piece_J35 n_froms n_sizes n_xs n_ys c_isTraced c_outlines f_froms f_sizes f_xs f_ys c_code x1 x2 x3 x4 (1 : Int32) post))
abbrev cw_M_piece (cI : ClassId) (a_this a_froms a_sizes a_xs a_ys a_colours a_layersOf a_areas a_used a_cornerAt a_counts a_costs a_firsts a_manys a_fs a_px a_py a_groups a_joinF : Nat) (n_froms n_sizes n_xs n_ys : Nat) (c_code : Int32) (c_width : Int32) (c_height : Int32) (c_isTraced : Int32) (c_outlines : Int32) (c_points : Int32) (c_hasPolygon : Int32) (c_of : Int32) (c_corners : Int32) (c_costSum : Int32) (c_hasCurves : Int32) (c_curveCount : Int32) (c_sharp : Int32) (c_allowed : Int32) (f_froms : Nat → Int32) (f_sizes : Nat → Int32) (f_xs : Nat → Int32) (f_ys : Nat → Int32) : va_W := [(a_this, .inr (5, [.int c_code, .int c_width, .int c_height, .ref a_colours, .int c_isTraced, .int c_outlines, .ref a_froms, .ref a_sizes, .ref a_layersOf, .ref a_areas, .int c_points, .ref a_xs, .ref a_ys, .ref a_used, .int c_hasPolygon, .int c_of, .int c_corners, .int c_costSum, .ref a_cornerAt, .ref a_counts, .ref a_costs, .int c_hasCurves, .int c_curveCount, .ref a_firsts, .ref a_manys, .ref a_fs, .int c_sharp, .int c_allowed, .ref a_px, .ref a_py, .ref a_groups, .ref a_joinF])), (a_froms, .inl (cI, n_froms, .inl f_froms)), (a_sizes, .inl (cI, n_sizes, .inl f_sizes)), (a_xs, .inl (cI, n_xs, .inl f_xs)), (a_ys, .inl (cI, n_ys, .inl f_ys))]
abbrev qq_M_piece (dC : Nat → ClassId) (dI : Nat → Nat → Nat) (cI cB cJ cZ : ClassId) (a_this a_froms a_sizes a_xs a_ys a_colours a_layersOf a_areas a_used a_cornerAt a_counts a_costs a_firsts a_manys a_fs a_px a_py a_groups a_joinF : Nat) (n_froms n_sizes n_xs n_ys : Nat) (c_width : Int32) (c_height : Int32) (c_isTraced : Int32) (c_outlines : Int32) (c_points : Int32) (c_hasPolygon : Int32) (c_of : Int32) (c_corners : Int32) (c_costSum : Int32) (c_hasCurves : Int32) (c_curveCount : Int32) (c_sharp : Int32) (c_allowed : Int32) (f_froms : Nat → Int32) (f_sizes : Nat → Int32) (f_xs : Nat → Int32) (f_ys : Nat → Int32) (A : Nat → Prop) (post : Int32 → Int32 → Prop) : Array Value → State → Outcome → State → Prop := va_Qi post (fun u t => va_P (dC, dI) vwCl (cw_M_piece cI a_this a_froms a_sizes a_xs a_ys a_colours a_layersOf a_areas a_used a_cornerAt a_counts a_costs a_firsts a_manys a_fs a_px a_py a_groups a_joinF n_froms n_sizes n_xs n_ys u c_width c_height c_isTraced c_outlines c_points c_hasPolygon c_of c_corners c_costSum c_hasCurves c_curveCount c_sharp c_allowed f_froms f_sizes f_xs f_ys) t.heap ∧ va_K (dC, dI) vwCl [(cI, .int), (cB, .byte), (cJ, .long), (cZ, .boolean)] t ∧ va_D A (cw_M_piece cI a_this a_froms a_sizes a_xs a_ys a_colours a_layersOf a_areas a_used a_cornerAt a_counts a_costs a_firsts a_manys a_fs a_px a_py a_groups a_joinF n_froms n_sizes n_xs n_ys u c_width c_height c_isTraced c_outlines c_points c_hasPolygon c_of c_corners c_costSum c_hasCurves c_curveCount c_sharp c_allowed f_froms f_sizes f_xs f_ys)) A
set_option maxHeartbeats 4000000 in
set_option maxRecDepth 100000 in
theorem c_M_piece (l : Launch) (dC : Nat → ClassId) (dI : Nat → Nat → Nat) (cI cB cJ cZ : ClassId) (a_this a_froms a_sizes a_xs a_ys a_colours a_layersOf a_areas a_used a_cornerAt a_counts a_costs a_firsts a_manys a_fs a_px a_py a_groups a_joinF : Nat) (sz : Nat) (n_froms n_sizes n_xs n_ys : Nat) (c_code : Int32) (c_width : Int32) (c_height : Int32) (c_isTraced : Int32) (c_outlines : Int32) (c_points : Int32) (c_hasPolygon : Int32) (c_of : Int32) (c_corners : Int32) (c_costSum : Int32) (c_hasCurves : Int32) (c_curveCount : Int32) (c_sharp : Int32) (c_allowed : Int32) (f_froms : Nat → Int32) (f_sizes : Nat → Int32) (f_xs : Nat → Int32) (f_ys : Nat → Int32) (x1 : Int32) (x2 : Int32) (x3 : Int32) (x4 : Int32) (post : Int32 → Int32 → Prop) (h : wp_M_piece n_froms n_sizes n_xs n_ys c_code c_isTraced c_outlines f_froms f_sizes f_xs f_ys x1 x2 x3 x4 post) : Met l y_M_piece w_M_piece ({ frames := 2, cells := 0, slots := 0, locals := 62 }) (va_Pc [.ref a_this, .int x1, .int x2, .int x3, .int x4] (fun U => U.heap.size = sz ∧ va_P (dC, dI) vwCl (cw_M_piece cI a_this a_froms a_sizes a_xs a_ys a_colours a_layersOf a_areas a_used a_cornerAt a_counts a_costs a_firsts a_manys a_fs a_px a_py a_groups a_joinF n_froms n_sizes n_xs n_ys c_code c_width c_height c_isTraced c_outlines c_points c_hasPolygon c_of c_corners c_costSum c_hasCurves c_curveCount c_sharp c_allowed f_froms f_sizes f_xs f_ys) U.heap ∧ va_K (dC, dI) vwCl [(cI, .int), (cB, .byte), (cJ, .long), (cZ, .boolean)] U ∧ va_D (fun _ => True) (cw_M_piece cI a_this a_froms a_sizes a_xs a_ys a_colours a_layersOf a_areas a_used a_cornerAt a_counts a_costs a_firsts a_manys a_fs a_px a_py a_groups a_joinF n_froms n_sizes n_xs n_ys c_code c_width c_height c_isTraced c_outlines c_points c_hasPolygon c_of c_corners c_costSum c_hasCurves c_curveCount c_sharp c_allowed f_froms f_sizes f_xs f_ys))) (qq_M_piece dC dI cI cB cJ cZ a_this a_froms a_sizes a_xs a_ys a_colours a_layersOf a_areas a_used a_cornerAt a_counts a_costs a_firsts a_manys a_fs a_px a_py a_groups a_joinF n_froms n_sizes n_xs n_ys c_width c_height c_isTraced c_outlines c_points c_hasPolygon c_of c_corners c_costSum c_hasCurves c_curveCount c_sharp c_allowed f_froms f_sizes f_xs f_ys (va_A (cw_M_piece cI a_this a_froms a_sizes a_xs a_ys a_colours a_layersOf a_areas a_used a_cornerAt a_counts a_costs a_firsts a_manys a_fs a_px a_py a_groups a_joinF n_froms n_sizes n_xs n_ys c_code c_width c_height c_isTraced c_outlines c_points c_hasPolygon c_of c_corners c_costSum c_hasCurves c_curveCount c_sharp c_allowed f_froms f_sizes f_xs f_ys) sz) post) 0 0 (va_A (cw_M_piece cI a_this a_froms a_sizes a_xs a_ys a_colours a_layersOf a_areas a_used a_cornerAt a_counts a_costs a_firsts a_manys a_fs a_px a_py a_groups a_joinF n_froms n_sizes n_xs n_ys c_code c_width c_height c_isTraced c_outlines c_points c_hasPolygon c_of c_corners c_costSum c_hasCurves c_curveCount c_sharp c_allowed f_froms f_sizes f_xs f_ys) sz) := by
  refine Met.ofW (cc := b_M_piece) (maxL := 6) (ret := (some .int)) (by decide +kernel) rfl ?_
  intro p e s m args below meth c s₁ B hml hv
  obtain ⟨rfl, hsz, hP, hK, hD0⟩ := hv
  have hx := B.exec
  have hb := B.bytes
  have hr := B.returns
  have hts : ∀ w ∈ allW, w.before _ s = true := fun w hw => atoms_spec (ws := w_M_piece) B.pre w (List.mem_cons_of_mem _ hw)
  have hown : s.vm.findClass R_M = some m.cls := findClass_of_methodNamed B.named
  have hlocks := B.notSynchronized
  subst hsz
  have hD := hD0.self (sz := s.heap.size)
  generalize hAe : va_A (cw_M_piece cI a_this a_froms a_sizes a_xs a_ys a_colours a_layersOf a_areas a_used a_cornerAt a_counts a_costs a_firsts a_manys a_fs a_px a_py a_groups a_joinF n_froms n_sizes n_xs n_ys c_code c_width c_height c_isTraced c_outlines c_points c_hasPolygon c_of c_corners c_costSum c_hasCurves c_curveCount c_sharp c_allowed f_froms f_sizes f_xs f_ys) s.heap.size = A at hD ⊢
  have hA : ∀ q : Nat, s.heap.size ≤ q → A q := fun q h => by rw [← hAe]; exact Or.inr h
  have hS : va_S A s.heap s.heap [] := va_S.rf
  clear hD0
  generalize hQf : MQ below (qq_M_piece dC dI cI cB cJ cZ a_this a_froms a_sizes a_xs a_ys a_colours a_layersOf a_areas a_used a_cornerAt a_counts a_costs a_firsts a_manys a_fs a_px a_py a_groups a_joinF n_froms n_sizes n_xs n_ys c_width c_height c_isTraced c_outlines c_points c_hasPolygon c_of c_corners c_costSum c_hasCurves c_curveCount c_sharp c_allowed f_froms f_sizes f_xs f_ys A post) ([.ref a_this, .int x1, .int x2, .int x3, .int x4] : List Value).toArray s 0 0 A = Qf
  have hl := lv_entry ([.ref a_this, .int x1, .int x2, .int x3, .int x4]) (n := 6) (Nat.le_of_ble_eq_true rfl)
  rw [lg_entry_eq]
  generalize (lg_sl ([.ref a_this, .int x1, .int x2, .int x3, .int x4]) ++ List.replicate (6 - (lg_sl ([.ref a_this, .int x1, .int x2, .int x3, .int x4])).length) Slot.unset).toArray = ls at hl ⊢
  have hl : lv_has ls 6 [(0, .ref a_this), (1, .int x1), (2, .int x2), (3, .int x3), (4, .int x4)] := hl
  unfold wp_M_piece at h
  have J84 : ∀ (x1_j84 : Int32) (x2_j84 : Int32) (x3_j84 : Int32) (x4_j84 : Int32) (y0_j84 : Int32) (c_code_j84 : Int32) (H : Heap) (locs : List Loc) (ls : Array Slot), wp_M_piece_J84 n_froms n_sizes n_xs n_ys c_isTraced c_outlines f_froms f_sizes f_xs f_ys c_code_j84 x1_j84 x2_j84 x3_j84 x4_j84 y0_j84 post → va_P (dC, dI) vwCl (cw_M_piece cI a_this a_froms a_sizes a_xs a_ys a_colours a_layersOf a_areas a_used a_cornerAt a_counts a_costs a_firsts a_manys a_fs a_px a_py a_groups a_joinF n_froms n_sizes n_xs n_ys c_code_j84 c_width c_height c_isTraced c_outlines c_points c_hasPolygon c_of c_corners c_costSum c_hasCurves c_curveCount c_sharp c_allowed f_froms f_sizes f_xs f_ys) H → va_D A (cw_M_piece cI a_this a_froms a_sizes a_xs a_ys a_colours a_layersOf a_areas a_used a_cornerAt a_counts a_costs a_firsts a_manys a_fs a_px a_py a_groups a_joinF n_froms n_sizes n_xs n_ys c_code_j84 c_width c_height c_isTraced c_outlines c_points c_hasPolygon c_of c_corners c_costSum c_hasCurves c_curveCount c_sharp c_allowed f_froms f_sizes f_xs f_ys) → va_S A s.heap H locs → lv_has ls 6 [(0, .ref a_this), (1, .int x1_j84), (2, .int x2_j84), (3, .int x3_j84), (4, .int x4_j84)] → W p l e (headSpec w_M_piece ({ frames := 2, cells := 0, slots := 0, locals := 62 })).room s m ([.ref a_this, .int x1, .int x2, .int x3, .int x4] : List Value).toArray below meth c H locs 0 0 Qf (F0 m 84 ls [.int y0_j84, .ref a_this]) := by
    intro x1_j84 x2_j84 x3_j84 x4_j84 y0_j84 c_code_j84 H locs ls h hP hD hS hl
    unfold wp_M_piece_J84 at h
    obtain ⟨Q84, hq84, h⟩ := h
    have hPc := hP.sub (ws' := (cw_M_refuses a_this a_colours a_froms a_sizes a_layersOf a_areas a_xs a_ys a_used a_cornerAt a_counts a_costs a_firsts a_manys a_fs a_px a_py a_groups a_joinF c_code_j84 c_width c_height c_isTraced c_outlines c_points c_hasPolygon c_of c_corners c_costSum c_hasCurves c_curveCount c_sharp c_allowed)) [0] rfl
    have hDc := hD.sub (ws' := (cw_M_refuses a_this a_colours a_froms a_sizes a_layersOf a_areas a_xs a_ys a_used a_cornerAt a_counts a_costs a_firsts a_manys a_fs a_px a_py a_groups a_joinF c_code_j84 c_width c_height c_isTraced c_outlines c_points c_hasPolygon c_of c_corners c_costSum c_hasCurves c_curveCount c_sharp c_allowed)) [0] (by decide) rfl
    have hFc := va_free (wc := (cw_M_refuses a_this a_colours a_froms a_sizes a_layersOf a_areas a_xs a_ys a_used a_cornerAt a_counts a_costs a_firsts a_manys a_fs a_px a_py a_groups a_joinF c_code_j84 c_width c_height c_isTraced c_outlines c_points c_hasPolygon c_of c_corners c_costSum c_hasCurves c_curveCount c_sharp c_allowed)) hD hS hA [0] rfl
    refine va_calli (va_runV (As := [.int y0_j84]) (rest := []) ⟨hx, hb, hml, hown, hts⟩ (c_M_refuses l dC dI cI cB cJ cZ a_this a_colours a_froms a_sizes a_layersOf a_areas a_xs a_ys a_used a_cornerAt a_counts a_costs a_firsts a_manys a_fs a_px a_py a_groups a_joinF H.size c_code_j84 c_width c_height c_isTraced c_outlines c_points c_hasPolygon c_of c_corners c_costSum c_hasCurves c_curveCount c_sharp c_allowed y0_j84 Q84 hq84) (cwV 1 hts (goodV q_774 q_776 q_p31 q_7 q_777) rfl rfl rfl (by decide +kernel) ⟨Nat.le_of_ble_eq_true rfl, Nat.le_of_ble_eq_true rfl⟩) ⟨fun a U g mk q => by obtain ⟨q0, q1, qP, qK, qD⟩ := q; exact ⟨q0, q1, qP, va_K.moved (u := U) (U := U.calling g mk a) (Vm.Alike.refl U.vm) qK, qD⟩, va_recv hK hPc (ci := 5) (q0 := 0) rfl rfl, fun U hU hW => ⟨rfl, by rw [hU], by rw [hU]; exact hPc, va_K.moved hW.alike hK, hDc.weaken (fun _ _ _ _ => trivial)⟩⟩ rfl rfl hl.1 rfl (lv_room (Nat.le_of_ble_eq_true rfl)) d_M_piece_84 ⟨Nat.le_of_ble_eq_true rfl, Nat.le_of_ble_eq_true rfl⟩) hS (fun q _ h => hFc q h) hFc (fun r84 u84 t H1 locs ht hvm hw hB hz1 hk1 hS => ?_)
    obtain ⟨u84_0, rfl⟩ : ∃ z, z = u84 := ⟨_, rfl⟩
    obtain ⟨hP1, -, hD1⟩ := hB
    rw [ht] at hP1
    have h := h r84 u84_0 hw
    obtain ⟨hP, hD⟩ := va_join (wr := [(a_froms, .inl (cI, n_froms, .inl f_froms)), (a_sizes, .inl (cI, n_sizes, .inl f_sizes)), (a_xs, .inl (cI, n_xs, .inl f_xs)), (a_ys, .inl (cI, n_ys, .inl f_ys))]) (w1 := (cw_M_refuses a_this a_colours a_froms a_sizes a_layersOf a_areas a_xs a_ys a_used a_cornerAt a_counts a_costs a_firsts a_manys a_fs a_px a_py a_groups a_joinF u84_0 c_width c_height c_isTraced c_outlines c_points c_hasPolygon c_of c_corners c_costSum c_hasCurves c_curveCount c_sharp c_allowed)) hP hD [0] [1, 2, 3, 4] rfl rfl (by decide) (by decide) hk1 hFc hP1 hD1
    clear hP1 hD1 hk1 hPc hDc hFc
    generalize H1 = H at hP hS ⊢
    have hP : va_P (dC, dI) vwCl (cw_M_piece cI a_this a_froms a_sizes a_xs a_ys a_colours a_layersOf a_areas a_used a_cornerAt a_counts a_costs a_firsts a_manys a_fs a_px a_py a_groups a_joinF n_froms n_sizes n_xs n_ys u84_0 c_width c_height c_isTraced c_outlines c_points c_hasPolygon c_of c_corners c_costSum c_hasCurves c_curveCount c_sharp c_allowed f_froms f_sizes f_xs f_ys) H := hP.sub [4, 0, 1, 2, 3] rfl
    have hD : va_D A (cw_M_piece cI a_this a_froms a_sizes a_xs a_ys a_colours a_layersOf a_areas a_used a_cornerAt a_counts a_costs a_firsts a_manys a_fs a_px a_py a_groups a_joinF n_froms n_sizes n_xs n_ys u84_0 c_width c_height c_isTraced c_outlines c_points c_hasPolygon c_of c_corners c_costSum c_hasCurves c_curveCount c_sharp c_allowed f_froms f_sizes f_xs f_ys) := hD.sub [4, 0, 1, 2, 3] (by decide) rfl
    refine lv_if_eq (tgt := 92) hx hb d_M_piece_87 (by decide) (fun cc_ => ?_) (fun cc_ => ?_)
    · have h := h.1 cc_
      refine lv_aload_n hx hb d_M_piece_92 rfl (lv_at hl 0 rfl) ?_
      refine lv_iload_n hx hb d_M_piece_93 rfl (lv_at hl 1 rfl) ?_
      refine lv_iload_n hx hb d_M_piece_94 rfl (lv_at hl 2 rfl) ?_
      refine lv_iload_n hx hb d_M_piece_95 rfl (lv_at hl 3 rfl) ?_
      refine lv_iload hx hb d_M_piece_96 (lv_at hl 4 rfl) ?_
      obtain ⟨Q98, hq98, h⟩ := h
      have hPc := hP.sub (ws' := (cw_M_costOf cI a_this a_froms a_sizes a_xs a_ys a_colours a_layersOf a_areas a_used a_cornerAt a_counts a_costs a_firsts a_manys a_fs a_px a_py a_groups a_joinF n_froms n_sizes n_xs n_ys u84_0 c_width c_height c_isTraced c_outlines c_points c_hasPolygon c_of c_corners c_costSum c_hasCurves c_curveCount c_sharp c_allowed f_froms f_sizes f_xs f_ys)) [0, 1, 2, 3, 4] rfl
      have hDc := hD.sub (ws' := (cw_M_costOf cI a_this a_froms a_sizes a_xs a_ys a_colours a_layersOf a_areas a_used a_cornerAt a_counts a_costs a_firsts a_manys a_fs a_px a_py a_groups a_joinF n_froms n_sizes n_xs n_ys u84_0 c_width c_height c_isTraced c_outlines c_points c_hasPolygon c_of c_corners c_costSum c_hasCurves c_curveCount c_sharp c_allowed f_froms f_sizes f_xs f_ys)) [0, 1, 2, 3, 4] (by decide) rfl
      have hFc := va_free (wc := (cw_M_costOf cI a_this a_froms a_sizes a_xs a_ys a_colours a_layersOf a_areas a_used a_cornerAt a_counts a_costs a_firsts a_manys a_fs a_px a_py a_groups a_joinF n_froms n_sizes n_xs n_ys u84_0 c_width c_height c_isTraced c_outlines c_points c_hasPolygon c_of c_corners c_costSum c_hasCurves c_curveCount c_sharp c_allowed f_froms f_sizes f_xs f_ys)) hD hS hA [0, 1, 2, 3, 4] rfl
      refine va_calli (va_runV (As := [.int x1_j84, .int x2_j84, .int x3_j84, .int x4_j84]) (rest := []) ⟨hx, hb, hml, hown, hts⟩ (c_M_costOf l dC dI cI cB cJ cZ a_this a_froms a_sizes a_xs a_ys a_colours a_layersOf a_areas a_used a_cornerAt a_counts a_costs a_firsts a_manys a_fs a_px a_py a_groups a_joinF H.size n_froms n_sizes n_xs n_ys u84_0 c_width c_height c_isTraced c_outlines c_points c_hasPolygon c_of c_corners c_costSum c_hasCurves c_curveCount c_sharp c_allowed f_froms f_sizes f_xs f_ys x1_j84 x2_j84 x3_j84 x4_j84 Q98 hq98) (cwV 4 hts (goodV q_847 q_849 q_p42 q_7 q_850) rfl rfl rfl (by decide +kernel) ⟨Nat.le_of_ble_eq_true rfl, Nat.le_of_ble_eq_true rfl⟩) ⟨fun a U g mk q => by obtain ⟨q0, q1, qP, qK, qD⟩ := q; exact ⟨q0, q1, qP, va_K.moved (u := U) (U := U.calling g mk a) (Vm.Alike.refl U.vm) qK, qD⟩, va_recv hK hPc (ci := 5) (q0 := 0) rfl rfl, fun U hU hW => ⟨rfl, by rw [hU], by rw [hU]; exact hPc, va_K.moved hW.alike hK, hDc.weaken (fun _ _ _ _ => trivial)⟩⟩ rfl rfl hl.1 rfl (lv_room (Nat.le_of_ble_eq_true rfl)) d_M_piece_98 ⟨Nat.le_of_ble_eq_true rfl, Nat.le_of_ble_eq_true rfl⟩) hS (fun q _ h => hFc q h) hFc (fun r98 u98 t H1 locs ht hvm hw hB hz1 hk1 hS => ?_)
      cases u98
      obtain ⟨hP1, -, hD1⟩ := hB
      rw [ht] at hP1
      have h := h r98 hw
      obtain ⟨hP, hD⟩ := va_join (wr := []) (w1 := (cw_M_costOf cI a_this a_froms a_sizes a_xs a_ys a_colours a_layersOf a_areas a_used a_cornerAt a_counts a_costs a_firsts a_manys a_fs a_px a_py a_groups a_joinF n_froms n_sizes n_xs n_ys u84_0 c_width c_height c_isTraced c_outlines c_points c_hasPolygon c_of c_corners c_costSum c_hasCurves c_curveCount c_sharp c_allowed f_froms f_sizes f_xs f_ys)) hP hD [0, 1, 2, 3, 4] [] rfl rfl (by decide) (by decide) hk1 hFc hP1 hD1
      clear hP1 hD1 hk1 hPc hDc hFc
      generalize H1 = H at hP hS ⊢
      have hP : va_P (dC, dI) vwCl (cw_M_piece cI a_this a_froms a_sizes a_xs a_ys a_colours a_layersOf a_areas a_used a_cornerAt a_counts a_costs a_firsts a_manys a_fs a_px a_py a_groups a_joinF n_froms n_sizes n_xs n_ys u84_0 c_width c_height c_isTraced c_outlines c_points c_hasPolygon c_of c_corners c_costSum c_hasCurves c_curveCount c_sharp c_allowed f_froms f_sizes f_xs f_ys) H := hP.sub [0, 1, 2, 3, 4] rfl
      have hD : va_D A (cw_M_piece cI a_this a_froms a_sizes a_xs a_ys a_colours a_layersOf a_areas a_used a_cornerAt a_counts a_costs a_firsts a_manys a_fs a_px a_py a_groups a_joinF n_froms n_sizes n_xs n_ys u84_0 c_width c_height c_isTraced c_outlines c_points c_hasPolygon c_of c_corners c_costSum c_hasCurves c_curveCount c_sharp c_allowed f_froms f_sizes f_xs f_ys) := hD.sub [0, 1, 2, 3, 4] (by decide) rfl
      subst hQf
      exact W.iret (v := r98) hx hb hr (fun t ht hW => ⟨⟨r98, u84_0, rfl, h, by rw [ht]; exact hP, va_K.moved hW.alike hK, hD⟩, hS.F ht⟩) hS.2.2 d_M_piece_101
    · have h := h.2 cc_
      refine lv_iconst (v := 0) hx hb d_M_piece_90 (by decide) ?_
      subst hQf
      exact W.iret (v := (0 : Int32)) hx hb hr (fun t ht hW => ⟨⟨(0 : Int32), u84_0, rfl, h, by rw [ht]; exact hP, va_K.moved hW.alike hK, hD⟩, hS.F ht⟩) hS.2.2 d_M_piece_91
  have J79 : ∀ (x1_j79 : Int32) (x2_j79 : Int32) (x3_j79 : Int32) (x4_j79 : Int32) (c_code_j79 : Int32) (H : Heap) (locs : List Loc) (ls : Array Slot), wp_M_piece_J79 n_froms n_sizes n_xs n_ys c_isTraced c_outlines f_froms f_sizes f_xs f_ys c_code_j79 x1_j79 x2_j79 x3_j79 x4_j79 post → va_P (dC, dI) vwCl (cw_M_piece cI a_this a_froms a_sizes a_xs a_ys a_colours a_layersOf a_areas a_used a_cornerAt a_counts a_costs a_firsts a_manys a_fs a_px a_py a_groups a_joinF n_froms n_sizes n_xs n_ys c_code_j79 c_width c_height c_isTraced c_outlines c_points c_hasPolygon c_of c_corners c_costSum c_hasCurves c_curveCount c_sharp c_allowed f_froms f_sizes f_xs f_ys) H → va_D A (cw_M_piece cI a_this a_froms a_sizes a_xs a_ys a_colours a_layersOf a_areas a_used a_cornerAt a_counts a_costs a_firsts a_manys a_fs a_px a_py a_groups a_joinF n_froms n_sizes n_xs n_ys c_code_j79 c_width c_height c_isTraced c_outlines c_points c_hasPolygon c_of c_corners c_costSum c_hasCurves c_curveCount c_sharp c_allowed f_froms f_sizes f_xs f_ys) → va_S A s.heap H locs → lv_has ls 6 [(0, .ref a_this), (1, .int x1_j79), (2, .int x2_j79), (3, .int x3_j79), (4, .int x4_j79)] → W p l e (headSpec w_M_piece ({ frames := 2, cells := 0, slots := 0, locals := 62 })).room s m ([.ref a_this, .int x1, .int x2, .int x3, .int x4] : List Value).toArray below meth c H locs 0 0 Qf (F0 m 79 ls [.ref a_this]) := by
    intro x1_j79 x2_j79 x3_j79 x4_j79 c_code_j79 H locs ls h hP hD hS hl
    unfold wp_M_piece_J79 at h
    refine lv_iconst (v := 3) hx hb d_M_piece_79 (by decide) ?_
    refine lv_goto (tgt := 84) hx hb d_M_piece_80 (by decide) ?_
    exact J84 x1_j79 x2_j79 x3_j79 x4_j79 (3 : Int32) c_code_j79 _ _ _ h hP hD hS (lv_sub hl [0, 1, 2, 3, 4] rfl)
  have J35 : ∀ (x1_j35 : Int32) (x2_j35 : Int32) (x3_j35 : Int32) (x4_j35 : Int32) (y0_j35 : Int32) (c_code_j35 : Int32) (H : Heap) (locs : List Loc) (ls : Array Slot), wp_M_piece_J35 n_froms n_sizes n_xs n_ys c_isTraced c_outlines f_froms f_sizes f_xs f_ys c_code_j35 x1_j35 x2_j35 x3_j35 x4_j35 y0_j35 post → va_P (dC, dI) vwCl (cw_M_piece cI a_this a_froms a_sizes a_xs a_ys a_colours a_layersOf a_areas a_used a_cornerAt a_counts a_costs a_firsts a_manys a_fs a_px a_py a_groups a_joinF n_froms n_sizes n_xs n_ys c_code_j35 c_width c_height c_isTraced c_outlines c_points c_hasPolygon c_of c_corners c_costSum c_hasCurves c_curveCount c_sharp c_allowed f_froms f_sizes f_xs f_ys) H → va_D A (cw_M_piece cI a_this a_froms a_sizes a_xs a_ys a_colours a_layersOf a_areas a_used a_cornerAt a_counts a_costs a_firsts a_manys a_fs a_px a_py a_groups a_joinF n_froms n_sizes n_xs n_ys c_code_j35 c_width c_height c_isTraced c_outlines c_points c_hasPolygon c_of c_corners c_costSum c_hasCurves c_curveCount c_sharp c_allowed f_froms f_sizes f_xs f_ys) → va_S A s.heap H locs → lv_has ls 6 [(0, .ref a_this), (1, .int x1_j35), (2, .int x2_j35), (3, .int x3_j35), (4, .int x4_j35)] → W p l e (headSpec w_M_piece ({ frames := 2, cells := 0, slots := 0, locals := 62 })).room s m ([.ref a_this, .int x1, .int x2, .int x3, .int x4] : List Value).toArray below meth c H locs 0 0 Qf (F0 m 35 ls [.int y0_j35]) := by
    intro x1_j35 x2_j35 x3_j35 x4_j35 y0_j35 c_code_j35 H locs ls h hP hD hS hl
    unfold wp_M_piece_J35 at h
    refine lv_istore (lv' := [(5, .int y0_j35), (0, .ref a_this), (1, .int x1_j35), (2, .int x2_j35), (3, .int x3_j35), (4, .int x4_j35)]) hx hb d_M_piece_35 hl (by decide) rfl (fun ls hl => ?_)
    refine lv_aload_n hx hb d_M_piece_37 rfl (lv_at hl 1 rfl) ?_
    refine lv_aload_n hx hb d_M_piece_38 rfl (lv_at hl 1 rfl) ?_
    refine va_get (D := (dC, dI)) (ci := 5) (v := .int c_isTraced) (C := R_M) (T := F_M) (N := 32) hx hb hts i_M_in hown hK hP 0 rfl rfl 4 (by decide) (hts _ q_665) (fun _ h9 => h9) rfl d_M_piece_39 ?_
    refine lv_if_ne (tgt := 49) hx hb d_M_piece_42 (by decide) (fun cc_ => ?_) (fun cc_ => ?_)
    · have h := h.1 cc_
      refine lv_iload hx hb d_M_piece_49 (lv_at hl 0 rfl) ?_
      refine lv_if_ne (tgt := 58) hx hb d_M_piece_51 (by decide) (fun cc_ => ?_) (fun cc_ => ?_)
      · have h := h.1 cc_
        refine lv_iload_n hx hb d_M_piece_58 rfl (lv_at hl 4 rfl) ?_
        refine lv_iconst (v := 1) hx hb d_M_piece_59 (by decide) ?_
        refine lv_bipush (v := 24) hx hb d_M_piece_60 (by decide) ?_
        obtain ⟨Q62, hq62, h⟩ := h
        have hPc := hP.sub (ws' := (cw_M_in)) [] rfl
        have hDc := hD.sub (ws' := (cw_M_in)) [] (by decide) rfl
        have hFc := va_free (wc := (cw_M_in)) hD hS hA [] rfl
        refine va_calli (va_runS (As := [.int x3_j35, .int (1 : Int32), .int (24 : Int32)]) (rest := [.ref a_this]) ⟨hx, hb, hml, hown, hts⟩ (c_M_in l dC dI cI cB cJ cZ H.size x3_j35 (1 : Int32) (24 : Int32) Q62 hq62) (va_cwS 3 hts (goodS q_771 q_772 q_7 q_773) rfl rfl rfl (by decide +kernel) ⟨Nat.le_of_ble_eq_true rfl, Nat.le_of_ble_eq_true rfl⟩) ⟨fun a U g mk q => by obtain ⟨q0, q1, qP, qK, qD⟩ := q; exact ⟨q0, q1, qP, va_K.moved (u := U) (U := U.calling g mk a) (Vm.Alike.refl U.vm) qK, qD⟩, fun U hU hW => ⟨rfl, by rw [hU], by rw [hU]; exact hPc, va_K.moved hW.alike hK, hDc.weaken (fun _ _ _ _ => trivial)⟩⟩ rfl rfl hl.1 rfl (lv_room (Nat.le_of_ble_eq_true rfl)) d_M_piece_62 ⟨Nat.le_of_ble_eq_true rfl, Nat.le_of_ble_eq_true rfl⟩) hS (fun q _ h => hFc q h) hFc (fun r62 u62 t H1 locs ht hvm hw hB hz1 hk1 hS => ?_)
        cases u62
        obtain ⟨hP1, -, hD1⟩ := hB
        rw [ht] at hP1
        have h := h r62 hw
        obtain ⟨hP, hD⟩ := va_join (wr := [(a_this, .inr (5, [.int c_code_j35, .int c_width, .int c_height, .ref a_colours, .int c_isTraced, .int c_outlines, .ref a_froms, .ref a_sizes, .ref a_layersOf, .ref a_areas, .int c_points, .ref a_xs, .ref a_ys, .ref a_used, .int c_hasPolygon, .int c_of, .int c_corners, .int c_costSum, .ref a_cornerAt, .ref a_counts, .ref a_costs, .int c_hasCurves, .int c_curveCount, .ref a_firsts, .ref a_manys, .ref a_fs, .int c_sharp, .int c_allowed, .ref a_px, .ref a_py, .ref a_groups, .ref a_joinF])), (a_froms, .inl (cI, n_froms, .inl f_froms)), (a_sizes, .inl (cI, n_sizes, .inl f_sizes)), (a_xs, .inl (cI, n_xs, .inl f_xs)), (a_ys, .inl (cI, n_ys, .inl f_ys))]) (w1 := (cw_M_in)) hP hD [] [0, 1, 2, 3, 4] rfl rfl (by decide) (by decide) hk1 hFc hP1 hD1
        clear hP1 hD1 hk1 hPc hDc hFc
        generalize H1 = H at hP hS ⊢
        have hP : va_P (dC, dI) vwCl (cw_M_piece cI a_this a_froms a_sizes a_xs a_ys a_colours a_layersOf a_areas a_used a_cornerAt a_counts a_costs a_firsts a_manys a_fs a_px a_py a_groups a_joinF n_froms n_sizes n_xs n_ys c_code_j35 c_width c_height c_isTraced c_outlines c_points c_hasPolygon c_of c_corners c_costSum c_hasCurves c_curveCount c_sharp c_allowed f_froms f_sizes f_xs f_ys) H := hP.sub [0, 1, 2, 3, 4] rfl
        have hD : va_D A (cw_M_piece cI a_this a_froms a_sizes a_xs a_ys a_colours a_layersOf a_areas a_used a_cornerAt a_counts a_costs a_firsts a_manys a_fs a_px a_py a_groups a_joinF n_froms n_sizes n_xs n_ys c_code_j35 c_width c_height c_isTraced c_outlines c_points c_hasPolygon c_of c_corners c_costSum c_hasCurves c_curveCount c_sharp c_allowed f_froms f_sizes f_xs f_ys) := hD.sub [0, 1, 2, 3, 4] (by decide) rfl
        refine lv_if_eq (tgt := 79) hx hb d_M_piece_65 (by decide) (fun cc_ => ?_) (fun cc_ => ?_)
        · have h := h.1 cc_
          exact J79 x1_j35 x2_j35 x3_j35 x4_j35 c_code_j35 _ _ _ h hP hD hS (lv_sub hl [1, 2, 3, 4, 5] rfl)
        · have h := h.2 cc_
          refine lv_iload hx hb d_M_piece_68 (lv_at hl 5 rfl) ?_
          refine lv_iconst (v := 1) hx hb d_M_piece_70 (by decide) ?_
          refine lv_bipush (v := 8) hx hb d_M_piece_71 (by decide) ?_
          obtain ⟨Q73, hq73, h⟩ := h
          have hPc := hP.sub (ws' := (cw_M_in)) [] rfl
          have hDc := hD.sub (ws' := (cw_M_in)) [] (by decide) rfl
          have hFc := va_free (wc := (cw_M_in)) hD hS hA [] rfl
          refine va_calli (va_runS (As := [.int x4_j35, .int (1 : Int32), .int (8 : Int32)]) (rest := [.ref a_this]) ⟨hx, hb, hml, hown, hts⟩ (c_M_in l dC dI cI cB cJ cZ H.size x4_j35 (1 : Int32) (8 : Int32) Q73 hq73) (va_cwS 3 hts (goodS q_771 q_772 q_7 q_773) rfl rfl rfl (by decide +kernel) ⟨Nat.le_of_ble_eq_true rfl, Nat.le_of_ble_eq_true rfl⟩) ⟨fun a U g mk q => by obtain ⟨q0, q1, qP, qK, qD⟩ := q; exact ⟨q0, q1, qP, va_K.moved (u := U) (U := U.calling g mk a) (Vm.Alike.refl U.vm) qK, qD⟩, fun U hU hW => ⟨rfl, by rw [hU], by rw [hU]; exact hPc, va_K.moved hW.alike hK, hDc.weaken (fun _ _ _ _ => trivial)⟩⟩ rfl rfl hl.1 rfl (lv_room (Nat.le_of_ble_eq_true rfl)) d_M_piece_73 ⟨Nat.le_of_ble_eq_true rfl, Nat.le_of_ble_eq_true rfl⟩) hS (fun q _ h => hFc q h) hFc (fun r73 u73 t H1 locs ht hvm hw hB hz1 hk1 hS => ?_)
          cases u73
          obtain ⟨hP1, -, hD1⟩ := hB
          rw [ht] at hP1
          have h := h r73 hw
          obtain ⟨hP, hD⟩ := va_join (wr := [(a_this, .inr (5, [.int c_code_j35, .int c_width, .int c_height, .ref a_colours, .int c_isTraced, .int c_outlines, .ref a_froms, .ref a_sizes, .ref a_layersOf, .ref a_areas, .int c_points, .ref a_xs, .ref a_ys, .ref a_used, .int c_hasPolygon, .int c_of, .int c_corners, .int c_costSum, .ref a_cornerAt, .ref a_counts, .ref a_costs, .int c_hasCurves, .int c_curveCount, .ref a_firsts, .ref a_manys, .ref a_fs, .int c_sharp, .int c_allowed, .ref a_px, .ref a_py, .ref a_groups, .ref a_joinF])), (a_froms, .inl (cI, n_froms, .inl f_froms)), (a_sizes, .inl (cI, n_sizes, .inl f_sizes)), (a_xs, .inl (cI, n_xs, .inl f_xs)), (a_ys, .inl (cI, n_ys, .inl f_ys))]) (w1 := (cw_M_in)) hP hD [] [0, 1, 2, 3, 4] rfl rfl (by decide) (by decide) hk1 hFc hP1 hD1
          clear hP1 hD1 hk1 hPc hDc hFc
          generalize H1 = H at hP hS ⊢
          have hP : va_P (dC, dI) vwCl (cw_M_piece cI a_this a_froms a_sizes a_xs a_ys a_colours a_layersOf a_areas a_used a_cornerAt a_counts a_costs a_firsts a_manys a_fs a_px a_py a_groups a_joinF n_froms n_sizes n_xs n_ys c_code_j35 c_width c_height c_isTraced c_outlines c_points c_hasPolygon c_of c_corners c_costSum c_hasCurves c_curveCount c_sharp c_allowed f_froms f_sizes f_xs f_ys) H := hP.sub [0, 1, 2, 3, 4] rfl
          have hD : va_D A (cw_M_piece cI a_this a_froms a_sizes a_xs a_ys a_colours a_layersOf a_areas a_used a_cornerAt a_counts a_costs a_firsts a_manys a_fs a_px a_py a_groups a_joinF n_froms n_sizes n_xs n_ys c_code_j35 c_width c_height c_isTraced c_outlines c_points c_hasPolygon c_of c_corners c_costSum c_hasCurves c_curveCount c_sharp c_allowed f_froms f_sizes f_xs f_ys) := hD.sub [0, 1, 2, 3, 4] (by decide) rfl
          refine lv_if_ne (tgt := 83) hx hb d_M_piece_76 (by decide) (fun cc_ => ?_) (fun cc_ => ?_)
          · have h := h.1 cc_
            refine lv_iconst (v := 0) hx hb d_M_piece_83 (by decide) ?_
            exact J84 x1_j35 x2_j35 x3_j35 x4_j35 (0 : Int32) c_code_j35 _ _ _ h hP hD hS (lv_sub hl [1, 2, 3, 4, 5] rfl)
          · have h := h.2 cc_
            exact J79 x1_j35 x2_j35 x3_j35 x4_j35 c_code_j35 _ _ _ h hP hD hS (lv_sub hl [1, 2, 3, 4, 5] rfl)
      · have h := h.2 cc_
        refine lv_iconst (v := 2) hx hb d_M_piece_54 (by decide) ?_
        refine lv_goto (tgt := 84) hx hb d_M_piece_55 (by decide) ?_
        exact J84 x1_j35 x2_j35 x3_j35 x4_j35 (2 : Int32) c_code_j35 _ _ _ h hP hD hS (lv_sub hl [1, 2, 3, 4, 5] rfl)
    · have h := h.2 cc_
      refine lv_iconst (v := 1) hx hb d_M_piece_45 (by decide) ?_
      refine lv_goto (tgt := 84) hx hb d_M_piece_46 (by decide) ?_
      exact J84 x1_j35 x2_j35 x3_j35 x4_j35 (1 : Int32) c_code_j35 _ _ _ h hP hD hS (lv_sub hl [1, 2, 3, 4, 5] rfl)
  have J34 : ∀ (x1_j34 : Int32) (x2_j34 : Int32) (x3_j34 : Int32) (x4_j34 : Int32) (c_code_j34 : Int32) (H : Heap) (locs : List Loc) (ls : Array Slot), wp_M_piece_J34 n_froms n_sizes n_xs n_ys c_isTraced c_outlines f_froms f_sizes f_xs f_ys c_code_j34 x1_j34 x2_j34 x3_j34 x4_j34 post → va_P (dC, dI) vwCl (cw_M_piece cI a_this a_froms a_sizes a_xs a_ys a_colours a_layersOf a_areas a_used a_cornerAt a_counts a_costs a_firsts a_manys a_fs a_px a_py a_groups a_joinF n_froms n_sizes n_xs n_ys c_code_j34 c_width c_height c_isTraced c_outlines c_points c_hasPolygon c_of c_corners c_costSum c_hasCurves c_curveCount c_sharp c_allowed f_froms f_sizes f_xs f_ys) H → va_D A (cw_M_piece cI a_this a_froms a_sizes a_xs a_ys a_colours a_layersOf a_areas a_used a_cornerAt a_counts a_costs a_firsts a_manys a_fs a_px a_py a_groups a_joinF n_froms n_sizes n_xs n_ys c_code_j34 c_width c_height c_isTraced c_outlines c_points c_hasPolygon c_of c_corners c_costSum c_hasCurves c_curveCount c_sharp c_allowed f_froms f_sizes f_xs f_ys) → va_S A s.heap H locs → lv_has ls 6 [(0, .ref a_this), (1, .int x1_j34), (2, .int x2_j34), (3, .int x3_j34), (4, .int x4_j34)] → W p l e (headSpec w_M_piece ({ frames := 2, cells := 0, slots := 0, locals := 62 })).room s m ([.ref a_this, .int x1, .int x2, .int x3, .int x4] : List Value).toArray below meth c H locs 0 0 Qf (F0 m 34 ls []) := by
    intro x1_j34 x2_j34 x3_j34 x4_j34 c_code_j34 H locs ls h hP hD hS hl
    unfold wp_M_piece_J34 at h
    refine lv_iconst (v := 0) hx hb d_M_piece_34 (by decide) ?_
    exact J35 x1_j34 x2_j34 x3_j34 x4_j34 (0 : Int32) c_code_j34 _ _ _ h hP hD hS (lv_sub hl [0, 1, 2, 3, 4] rfl)
  refine lv_iload_n hx hb d_M_piece_0 rfl (lv_at hl 1 rfl) ?_
  refine lv_iconst (v := 0) hx hb d_M_piece_1 (by decide) ?_
  refine lv_aload_n hx hb d_M_piece_2 rfl (lv_at hl 0 rfl) ?_
  refine va_get (D := (dC, dI)) (ci := 5) (v := .int c_outlines) (C := R_M) (T := F_M) (N := 32) hx hb hts i_M_in hown hK hP 0 rfl rfl 5 (by decide) (hts _ q_666) (fun _ h9 => h9) rfl d_M_piece_3 ?_
  refine lv_iconst (v := 1) hx hb d_M_piece_6 (by decide) ?_
  refine lv_isub hx hb d_M_piece_7 ?_
  obtain ⟨Q8, hq8, h⟩ := h
  have hPc := hP.sub (ws' := (cw_M_in)) [] rfl
  have hDc := hD.sub (ws' := (cw_M_in)) [] (by decide) rfl
  have hFc := va_free (wc := (cw_M_in)) hD hS hA [] rfl
  refine va_calli (va_runS (As := [.int x1, .int (0 : Int32), .int (c_outlines - (1 : Int32))]) (rest := []) ⟨hx, hb, hml, hown, hts⟩ (c_M_in l dC dI cI cB cJ cZ s.heap.size x1 (0 : Int32) (c_outlines - (1 : Int32)) Q8 hq8) (va_cwS 3 hts (goodS q_771 q_772 q_7 q_773) rfl rfl rfl (by decide +kernel) ⟨Nat.le_of_ble_eq_true rfl, Nat.le_of_ble_eq_true rfl⟩) ⟨fun a U g mk q => by obtain ⟨q0, q1, qP, qK, qD⟩ := q; exact ⟨q0, q1, qP, va_K.moved (u := U) (U := U.calling g mk a) (Vm.Alike.refl U.vm) qK, qD⟩, fun U hU hW => ⟨rfl, by rw [hU], by rw [hU]; exact hPc, va_K.moved hW.alike hK, hDc.weaken (fun _ _ _ _ => trivial)⟩⟩ rfl rfl hl.1 rfl (lv_room (Nat.le_of_ble_eq_true rfl)) d_M_piece_8 ⟨Nat.le_of_ble_eq_true rfl, Nat.le_of_ble_eq_true rfl⟩) hS (fun q _ h => hFc q h) hFc (fun r8 u8 t H1 locs ht hvm hw hB hz1 hk1 hS => ?_)
  cases u8
  obtain ⟨hP1, -, hD1⟩ := hB
  rw [ht] at hP1
  have h := h r8 hw
  obtain ⟨hP, hD⟩ := va_join (wr := [(a_this, .inr (5, [.int c_code, .int c_width, .int c_height, .ref a_colours, .int c_isTraced, .int c_outlines, .ref a_froms, .ref a_sizes, .ref a_layersOf, .ref a_areas, .int c_points, .ref a_xs, .ref a_ys, .ref a_used, .int c_hasPolygon, .int c_of, .int c_corners, .int c_costSum, .ref a_cornerAt, .ref a_counts, .ref a_costs, .int c_hasCurves, .int c_curveCount, .ref a_firsts, .ref a_manys, .ref a_fs, .int c_sharp, .int c_allowed, .ref a_px, .ref a_py, .ref a_groups, .ref a_joinF])), (a_froms, .inl (cI, n_froms, .inl f_froms)), (a_sizes, .inl (cI, n_sizes, .inl f_sizes)), (a_xs, .inl (cI, n_xs, .inl f_xs)), (a_ys, .inl (cI, n_ys, .inl f_ys))]) (w1 := (cw_M_in)) hP hD [] [0, 1, 2, 3, 4] rfl rfl (by decide) (by decide) hk1 hFc hP1 hD1
  clear hP1 hD1 hk1 hPc hDc hFc
  generalize H1 = H at hP hS ⊢
  have hP : va_P (dC, dI) vwCl (cw_M_piece cI a_this a_froms a_sizes a_xs a_ys a_colours a_layersOf a_areas a_used a_cornerAt a_counts a_costs a_firsts a_manys a_fs a_px a_py a_groups a_joinF n_froms n_sizes n_xs n_ys c_code c_width c_height c_isTraced c_outlines c_points c_hasPolygon c_of c_corners c_costSum c_hasCurves c_curveCount c_sharp c_allowed f_froms f_sizes f_xs f_ys) H := hP.sub [0, 1, 2, 3, 4] rfl
  have hD : va_D A (cw_M_piece cI a_this a_froms a_sizes a_xs a_ys a_colours a_layersOf a_areas a_used a_cornerAt a_counts a_costs a_firsts a_manys a_fs a_px a_py a_groups a_joinF n_froms n_sizes n_xs n_ys c_code c_width c_height c_isTraced c_outlines c_points c_hasPolygon c_of c_corners c_costSum c_hasCurves c_curveCount c_sharp c_allowed f_froms f_sizes f_xs f_ys) := hD.sub [0, 1, 2, 3, 4] (by decide) rfl
  refine lv_if_eq (tgt := 34) hx hb d_M_piece_11 (by decide) (fun cc_ => ?_) (fun cc_ => ?_)
  · have h := h.1 cc_
    exact J34 x1 x2 x3 x4 c_code _ _ _ h hP hD hS (lv_sub hl [0, 1, 2, 3, 4] rfl)
  · have h := h.2 cc_
    refine lv_iload_n hx hb d_M_piece_14 rfl (lv_at hl 2 rfl) ?_
    refine lv_iconst (v := 0) hx hb d_M_piece_15 (by decide) ?_
    refine lv_aload_n hx hb d_M_piece_16 rfl (lv_at hl 0 rfl) ?_
    refine va_get (D := (dC, dI)) (ci := 5) (v := .ref a_sizes) (C := R_M) (T := F_M) (N := 32) hx hb hts i_M_in hown hK hP 0 rfl rfl 7 (by decide) (hts _ q_668) (fun _ h9 => h9) rfl d_M_piece_17 ?_
    refine lv_iload_n hx hb d_M_piece_20 rfl (lv_at hl 1 rfl) ?_
    obtain ⟨hin, h⟩ := h
    refine va_iald hx hb hK hP 2 0 rfl rfl hin d_M_piece_21 ?_
    refine lv_iconst (v := 1) hx hb d_M_piece_22 (by decide) ?_
    refine lv_isub hx hb d_M_piece_23 ?_
    obtain ⟨Q24, hq24, h⟩ := h
    have hPc := hP.sub (ws' := (cw_M_in)) [] rfl
    have hDc := hD.sub (ws' := (cw_M_in)) [] (by decide) rfl
    have hFc := va_free (wc := (cw_M_in)) hD hS hA [] rfl
    refine va_calli (va_runS (As := [.int x2, .int (0 : Int32), .int ((f_sizes x1.toNatClampNeg) - (1 : Int32))]) (rest := []) ⟨hx, hb, hml, hown, hts⟩ (c_M_in l dC dI cI cB cJ cZ H.size x2 (0 : Int32) ((f_sizes x1.toNatClampNeg) - (1 : Int32)) Q24 hq24) (va_cwS 3 hts (goodS q_771 q_772 q_7 q_773) rfl rfl rfl (by decide +kernel) ⟨Nat.le_of_ble_eq_true rfl, Nat.le_of_ble_eq_true rfl⟩) ⟨fun a U g mk q => by obtain ⟨q0, q1, qP, qK, qD⟩ := q; exact ⟨q0, q1, qP, va_K.moved (u := U) (U := U.calling g mk a) (Vm.Alike.refl U.vm) qK, qD⟩, fun U hU hW => ⟨rfl, by rw [hU], by rw [hU]; exact hPc, va_K.moved hW.alike hK, hDc.weaken (fun _ _ _ _ => trivial)⟩⟩ rfl rfl hl.1 rfl (lv_room (Nat.le_of_ble_eq_true rfl)) d_M_piece_24 ⟨Nat.le_of_ble_eq_true rfl, Nat.le_of_ble_eq_true rfl⟩) hS (fun q _ h => hFc q h) hFc (fun r24 u24 t H1 locs ht hvm hw hB hz1 hk1 hS => ?_)
    cases u24
    obtain ⟨hP1, -, hD1⟩ := hB
    rw [ht] at hP1
    have h := h r24 hw
    obtain ⟨hP, hD⟩ := va_join (wr := [(a_this, .inr (5, [.int c_code, .int c_width, .int c_height, .ref a_colours, .int c_isTraced, .int c_outlines, .ref a_froms, .ref a_sizes, .ref a_layersOf, .ref a_areas, .int c_points, .ref a_xs, .ref a_ys, .ref a_used, .int c_hasPolygon, .int c_of, .int c_corners, .int c_costSum, .ref a_cornerAt, .ref a_counts, .ref a_costs, .int c_hasCurves, .int c_curveCount, .ref a_firsts, .ref a_manys, .ref a_fs, .int c_sharp, .int c_allowed, .ref a_px, .ref a_py, .ref a_groups, .ref a_joinF])), (a_froms, .inl (cI, n_froms, .inl f_froms)), (a_sizes, .inl (cI, n_sizes, .inl f_sizes)), (a_xs, .inl (cI, n_xs, .inl f_xs)), (a_ys, .inl (cI, n_ys, .inl f_ys))]) (w1 := (cw_M_in)) hP hD [] [0, 1, 2, 3, 4] rfl rfl (by decide) (by decide) hk1 hFc hP1 hD1
    clear hP1 hD1 hk1 hPc hDc hFc
    generalize H1 = H at hP hS ⊢
    have hP : va_P (dC, dI) vwCl (cw_M_piece cI a_this a_froms a_sizes a_xs a_ys a_colours a_layersOf a_areas a_used a_cornerAt a_counts a_costs a_firsts a_manys a_fs a_px a_py a_groups a_joinF n_froms n_sizes n_xs n_ys c_code c_width c_height c_isTraced c_outlines c_points c_hasPolygon c_of c_corners c_costSum c_hasCurves c_curveCount c_sharp c_allowed f_froms f_sizes f_xs f_ys) H := hP.sub [0, 1, 2, 3, 4] rfl
    have hD : va_D A (cw_M_piece cI a_this a_froms a_sizes a_xs a_ys a_colours a_layersOf a_areas a_used a_cornerAt a_counts a_costs a_firsts a_manys a_fs a_px a_py a_groups a_joinF n_froms n_sizes n_xs n_ys c_code c_width c_height c_isTraced c_outlines c_points c_hasPolygon c_of c_corners c_costSum c_hasCurves c_curveCount c_sharp c_allowed f_froms f_sizes f_xs f_ys) := hD.sub [0, 1, 2, 3, 4] (by decide) rfl
    refine lv_if_eq (tgt := 34) hx hb d_M_piece_27 (by decide) (fun cc_ => ?_) (fun cc_ => ?_)
    · have h := h.1 cc_
      exact J34 x1 x2 x3 x4 c_code _ _ _ h hP hD hS (lv_sub hl [0, 1, 2, 3, 4] rfl)
    · have h := h.2 cc_
      refine lv_iconst (v := 1) hx hb d_M_piece_30 (by decide) ?_
      refine lv_goto (tgt := 35) hx hb d_M_piece_31 (by decide) ?_
      exact J35 x1 x2 x3 x4 (1 : Int32) c_code _ _ _ h hP hD hS (lv_sub hl [0, 1, 2, 3, 4] rfl)
def wp_M_isLess_J15 (post : Int32 → Unit → Prop) : Prop :=
  post (1 : Int32) ()
def wp_M_isLess_J19 (post : Int32 → Unit → Prop) : Prop :=
  post (0 : Int32) ()
def wp_M_isLess (x0 : Int32) (x1 : Int32) (x2 : Int32) (x3 : Int32) (post : Int32 → Unit → Prop) : Prop :=
  (x0 < x2 → wp_M_isLess_J15 post) ∧ (¬ x0 < x2 → (¬ x0 = x2 → wp_M_isLess_J19 post) ∧ (x0 = x2 → (x3 ≤ x1 → wp_M_isLess_J19 post) ∧ (¬ x3 ≤ x1 → wp_M_isLess_J15 post)))
abbrev cw_M_isLess  : va_W := []
abbrev qq_M_isLess (dC : Nat → ClassId) (dI : Nat → Nat → Nat) (cI cB cJ cZ : ClassId) (A : Nat → Prop) (post : Int32 → Unit → Prop) : Array Value → State → Outcome → State → Prop := va_Qi post (fun _ t => va_P (dC, dI) vwCl (cw_M_isLess) t.heap ∧ va_K (dC, dI) vwCl [(cI, .int), (cB, .byte), (cJ, .long), (cZ, .boolean)] t ∧ va_D A (cw_M_isLess)) A
set_option maxHeartbeats 4000000 in
set_option maxRecDepth 100000 in
theorem c_M_isLess (l : Launch) (dC : Nat → ClassId) (dI : Nat → Nat → Nat) (cI cB cJ cZ : ClassId) (sz : Nat) (x0 : Int32) (x1 : Int32) (x2 : Int32) (x3 : Int32) (post : Int32 → Unit → Prop) (h : wp_M_isLess x0 x1 x2 x3 post) : Met l y_M_isLess w_M_isLess ({ frames := 0, cells := 0, slots := 0, locals := 0 }) (va_Pc [.int x0, .int x1, .int x2, .int x3] (fun U => U.heap.size = sz ∧ va_P (dC, dI) vwCl (cw_M_isLess) U.heap ∧ va_K (dC, dI) vwCl [(cI, .int), (cB, .byte), (cJ, .long), (cZ, .boolean)] U ∧ va_D (fun _ => True) (cw_M_isLess))) (qq_M_isLess dC dI cI cB cJ cZ (va_A (cw_M_isLess) sz) post) 0 0 (va_A (cw_M_isLess) sz) := by
  refine Met.ofW (cc := b_M_isLess) (maxL := 4) (ret := (some .boolean)) (by decide +kernel) rfl ?_
  intro p e s m args below meth c s₁ B hml hv
  obtain ⟨rfl, hsz, hP, hK, hD0⟩ := hv
  have hx := B.exec
  have hb := B.bytes
  have hr := B.returns
  have hts : ∀ w ∈ allW, w.before _ s = true := fun w hw => atoms_spec (ws := w_M_isLess) B.pre w (List.mem_cons_of_mem _ hw)
  have hown : s.vm.findClass R_M = some m.cls := findClass_of_methodNamed B.named
  have hlocks := B.notSynchronized
  subst hsz
  have hD := hD0.self (sz := s.heap.size)
  generalize hAe : va_A (cw_M_isLess) s.heap.size = A at hD ⊢
  have hA : ∀ q : Nat, s.heap.size ≤ q → A q := fun q h => by rw [← hAe]; exact Or.inr h
  have hS : va_S A s.heap s.heap [] := va_S.rf
  clear hD0
  generalize hQf : MQ below (qq_M_isLess dC dI cI cB cJ cZ A post) ([.int x0, .int x1, .int x2, .int x3] : List Value).toArray s 0 0 A = Qf
  have hl := lv_entry ([.int x0, .int x1, .int x2, .int x3]) (n := 4) (Nat.le_of_ble_eq_true rfl)
  rw [lg_entry_eq]
  generalize (lg_sl ([.int x0, .int x1, .int x2, .int x3]) ++ List.replicate (4 - (lg_sl ([.int x0, .int x1, .int x2, .int x3])).length) Slot.unset).toArray = ls at hl ⊢
  have hl : lv_has ls 4 [(0, .int x0), (1, .int x1), (2, .int x2), (3, .int x3)] := hl
  unfold wp_M_isLess at h
  have J15 : ∀ (H : Heap) (locs : List Loc) (ls : Array Slot), wp_M_isLess_J15 post → va_P (dC, dI) vwCl (cw_M_isLess) H → va_D A (cw_M_isLess) → va_S A s.heap H locs → lv_has ls 4 [] → W p l e (headSpec w_M_isLess ({ frames := 0, cells := 0, slots := 0, locals := 0 })).room s m ([.int x0, .int x1, .int x2, .int x3] : List Value).toArray below meth c H locs 0 0 Qf (F0 m 15 ls []) := by
    intro H locs ls h hP hD hS hl
    unfold wp_M_isLess_J15 at h
    refine lv_iconst (v := 1) hx hb d_M_isLess_15 (by decide) ?_
    refine lv_goto (tgt := 20) hx hb d_M_isLess_16 (by decide) ?_
    subst hQf
    exact W.zret (v := (1 : Int32)) hx hb hr (by rfl) (fun t ht hW => ⟨⟨(1 : Int32), (), rfl, h, by rw [ht]; exact hP, va_K.moved hW.alike hK, hD⟩, hS.F ht⟩) hS.2.2 d_M_isLess_20
  have J19 : ∀ (H : Heap) (locs : List Loc) (ls : Array Slot), wp_M_isLess_J19 post → va_P (dC, dI) vwCl (cw_M_isLess) H → va_D A (cw_M_isLess) → va_S A s.heap H locs → lv_has ls 4 [] → W p l e (headSpec w_M_isLess ({ frames := 0, cells := 0, slots := 0, locals := 0 })).room s m ([.int x0, .int x1, .int x2, .int x3] : List Value).toArray below meth c H locs 0 0 Qf (F0 m 19 ls []) := by
    intro H locs ls h hP hD hS hl
    unfold wp_M_isLess_J19 at h
    refine lv_iconst (v := 0) hx hb d_M_isLess_19 (by decide) ?_
    subst hQf
    exact W.zret (v := (0 : Int32)) hx hb hr (by rfl) (fun t ht hW => ⟨⟨(0 : Int32), (), rfl, h, by rw [ht]; exact hP, va_K.moved hW.alike hK, hD⟩, hS.F ht⟩) hS.2.2 d_M_isLess_20
  refine lv_iload_n hx hb d_M_isLess_0 rfl (lv_at hl 0 rfl) ?_
  refine lv_iload_n hx hb d_M_isLess_1 rfl (lv_at hl 2 rfl) ?_
  refine lv_icmp_lt (tgt := 15) hx hb d_M_isLess_2 (by decide) (fun cc_ => ?_) (fun cc_ => ?_)
  · have h := h.1 cc_
    exact J15 _ _ _ h hP hD hS (lv_sub hl [] rfl)
  · have h := h.2 cc_
    refine lv_iload_n hx hb d_M_isLess_5 rfl (lv_at hl 0 rfl) ?_
    refine lv_iload_n hx hb d_M_isLess_6 rfl (lv_at hl 2 rfl) ?_
    refine lv_icmp_ne (tgt := 19) hx hb d_M_isLess_7 (by decide) (fun cc_ => ?_) (fun cc_ => ?_)
    · have h := h.1 cc_
      exact J19 _ _ _ h hP hD hS (lv_sub hl [] rfl)
    · have h := h.2 cc_
      refine lv_iload_n hx hb d_M_isLess_10 rfl (lv_at hl 1 rfl) ?_
      refine lv_iload_n hx hb d_M_isLess_11 rfl (lv_at hl 3 rfl) ?_
      refine lv_icmp_ge (tgt := 19) hx hb d_M_isLess_12 (by decide) (fun cc_ => ?_) (fun cc_ => ?_)
      · have h := h.1 cc_
        exact J19 _ _ _ h hP hD hS (lv_sub hl [] rfl)
      · have h := h.2 cc_
        exact J15 _ _ _ h hP hD hS (lv_sub hl [] rfl)
def wp_M_fill_J337 (n_sizes n_counts n_costs n_froms n_xs n_ys : Nat) (f_sizes : Nat → Int32) (f_froms : Nat → Int32) (f_xs : Nat → Int32) (f_ys : Nat → Int32) (f_counts : Nat → Int32) (f_costs : Nat → Int32) (x1 : Int32) (x2 : Int32) (x3 : Int32) (x4 : Int32) (x5 : Int32) (x6 : Int32) (back75 : (Int32 × (Nat → Int32) × (Nat → Int32)) → Prop) (post : ((Nat → Int32) × (Nat → Int32)) → Prop) : Prop :=
  ∀ x6_337 : Int32, x6_337 = x6 + (-1 : Int32) → back75 (x6_337, f_counts, f_costs)
def wp_M_fill_J331 (n_sizes n_counts n_costs n_froms n_xs n_ys : Nat) (f_sizes : Nat → Int32) (f_froms : Nat → Int32) (f_xs : Nat → Int32) (f_ys : Nat → Int32) (f_counts : Nat → Int32) (f_costs : Nat → Int32) (x1 : Int32) (x2 : Int32) (x3 : Int32) (x4 : Int32) (x5 : Int32) (x6 : Int32) (x7 : Int32) (back75 : (Int32 × (Nat → Int32) × (Nat → Int32)) → Prop) (back130 : (Int32 × (Nat → Int32) × (Nat → Int32)) → Prop) (post : ((Nat → Int32) × (Nat → Int32)) → Prop) : Prop :=
  ∀ x7_331 : Int32, x7_331 = x7 + (1 : Int32) → back130 (x7_331, f_counts, f_costs)
def wp_M_fill_J325 (n_sizes n_counts n_costs n_froms n_xs n_ys : Nat) (f_sizes : Nat → Int32) (f_froms : Nat → Int32) (f_xs : Nat → Int32) (f_ys : Nat → Int32) (f_counts : Nat → Int32) (f_costs : Nat → Int32) (x1 : Int32) (x2 : Int32) (x3 : Int32) (x4 : Int32) (x5 : Int32) (x6 : Int32) (x7 : Int32) (x8 : Int32) (x10 : Int32) (x11 : Int32) (back75 : (Int32 × (Nat → Int32) × (Nat → Int32)) → Prop) (back196 : (Int32 × (Nat → Int32) × (Nat → Int32)) → Prop) (back130 : (Int32 × (Nat → Int32) × (Nat → Int32)) → Prop) (post : ((Nat → Int32) × (Nat → Int32)) → Prop) : Prop :=
  ∀ x11_325 : Int32, x11_325 = x11 + (1 : Int32) → back196 (x11_325, f_counts, f_costs)
def wp_M_fill_J224 (n_sizes n_counts n_costs n_froms n_xs n_ys : Nat) (f_sizes : Nat → Int32) (f_froms : Nat → Int32) (f_xs : Nat → Int32) (f_ys : Nat → Int32) (f_counts : Nat → Int32) (f_costs : Nat → Int32) (x1 : Int32) (x2 : Int32) (x3 : Int32) (x4 : Int32) (x5 : Int32) (x6 : Int32) (x7 : Int32) (x8 : Int32) (x10 : Int32) (x11 : Int32) (y0 : Int32) (y1 : Int32) (back75 : (Int32 × (Nat → Int32) × (Nat → Int32)) → Prop) (back196 : (Int32 × (Nat → Int32) × (Nat → Int32)) → Prop) (back130 : (Int32 × (Nat → Int32) × (Nat → Int32)) → Prop) (post : ((Nat → Int32) × (Nat → Int32)) → Prop) : Prop :=
  ∀ x12_228 : Int32, x12_228 = ((y1 * y0) + x8) → ∀ x13_239 : Int32, x13_239 = (((600 : Int32) * x11) + x6) → vp_in x12_228 n_counts ∧ ((1000000000 : Int32) ≤ (f_counts x12_228.toNatClampNeg) → wp_M_fill_J325 n_sizes n_counts n_costs n_froms n_xs n_ys f_sizes f_froms f_xs f_ys f_counts f_costs x1 x2 x3 x4 x5 x6 x7 x8 x10 x11 back75 back196 back130 post) ∧ (¬ (1000000000 : Int32) ≤ (f_counts x12_228.toNatClampNeg) → vp_in x12_228 n_counts ∧ vp_in x12_228 n_costs ∧ vp_in x13_239 n_counts ∧ vp_in x13_239 n_costs ∧ ∃ Q286 : Int32 → Unit → Prop, wp_M_isLess ((f_counts x12_228.toNatClampNeg) + (1 : Int32)) ((f_costs x12_228.toNatClampNeg) + x10) (f_counts x13_239.toNatClampNeg) (f_costs x13_239.toNatClampNeg) Q286 ∧ ∀ (r286 : Int32), Q286 r286 () → (r286 = 0 → wp_M_fill_J325 n_sizes n_counts n_costs n_froms n_xs n_ys f_sizes f_froms f_xs f_ys f_counts f_costs x1 x2 x3 x4 x5 x6 x7 x8 x10 x11 back75 back196 back130 post) ∧ (¬ r286 = 0 → vp_in x12_228 n_counts ∧ vp_in x13_239 n_counts ∧ ∀ f307 : Nat → Int32, f307 = upd f_counts x13_239.toNatClampNeg ((f_counts x12_228.toNatClampNeg) + (1 : Int32)) → vp_in x12_228 n_costs ∧ vp_in x13_239 n_costs ∧ ∀ f324 : Nat → Int32, f324 = upd f_costs x13_239.toNatClampNeg ((f_costs x12_228.toNatClampNeg) + x10) → wp_M_fill_J325 n_sizes n_counts n_costs n_froms n_xs n_ys f_sizes f_froms f_xs f_ys f307 f324 x1 x2 x3 x4 x5 x6 x7 x8 x10 x11 back75 back196 back130 post))
def wp_M_fill_L196 (n_sizes n_counts n_costs n_froms n_xs n_ys : Nat) (f_sizes : Nat → Int32) (f_froms : Nat → Int32) (f_xs : Nat → Int32) (f_ys : Nat → Int32) (x1 : Int32) (x2 : Int32) (x3 : Int32) (x4 : Int32) (x5 : Int32) (x6 : Int32) (x7 : Int32) (x8 : Int32) (x10 : Int32) (back75 : (Int32 × (Nat → Int32) × (Nat → Int32)) → Prop) (back130 : (Int32 × (Nat → Int32) × (Nat → Int32)) → Prop) (post : ((Nat → Int32) × (Nat → Int32)) → Prop) (back196 : (Int32 × (Nat → Int32) × (Nat → Int32)) → Prop) (x11 : Int32) (f_counts : Nat → Int32) (f_costs : Nat → Int32) : Prop :=
  ((4 : Int32) ≤ x11 → wp_M_fill_J331 n_sizes n_counts n_costs n_froms n_xs n_ys f_sizes f_froms f_xs f_ys f_counts f_costs x1 x2 x3 x4 x5 x6 x7 back75 back130 post) ∧ (¬ (4 : Int32) ≤ x11 → (x10 = (-1 : Int32) → wp_M_fill_J331 n_sizes n_counts n_costs n_froms n_xs n_ys f_sizes f_froms f_xs f_ys f_counts f_costs x1 x2 x3 x4 x5 x6 x7 back75 back130 post) ∧ (¬ x10 = (-1 : Int32) → (¬ x11 = 0 → wp_M_fill_J224 n_sizes n_counts n_costs n_froms n_xs n_ys f_sizes f_froms f_xs f_ys f_counts f_costs x1 x2 x3 x4 x5 x6 x7 x8 x10 x11 (x11 - (1 : Int32)) (600 : Int32) back75 back196 back130 post) ∧ (x11 = 0 → wp_M_fill_J224 n_sizes n_counts n_costs n_froms n_xs n_ys f_sizes f_froms f_xs f_ys f_counts f_costs x1 x2 x3 x4 x5 x6 x7 x8 x10 x11 (0 : Int32) (600 : Int32) back75 back196 back130 post)))
def wp_M_fill_J191 (n_sizes n_counts n_costs n_froms n_xs n_ys : Nat) (f_sizes : Nat → Int32) (f_froms : Nat → Int32) (f_xs : Nat → Int32) (f_ys : Nat → Int32) (f_counts : Nat → Int32) (f_costs : Nat → Int32) (x1 : Int32) (x2 : Int32) (x3 : Int32) (x4 : Int32) (x5 : Int32) (x6 : Int32) (x7 : Int32) (x8 : Int32) (y0 : Int32) (back75 : (Int32 × (Nat → Int32) × (Nat → Int32)) → Prop) (back130 : (Int32 × (Nat → Int32) × (Nat → Int32)) → Prop) (post : ((Nat → Int32) × (Nat → Int32)) → Prop) : Prop :=
  lpW (fun b z => wp_M_fill_L196 n_sizes n_counts n_costs n_froms n_xs n_ys f_sizes f_froms f_xs f_ys x1 x2 x3 x4 x5 x6 x7 x8 y0 back75 back130 post b z.1 z.2.1 z.2.2) ((0 : Int32), f_counts, f_costs)
def wp_M_fill_J170 (n_sizes n_counts n_costs n_froms n_xs n_ys : Nat) (f_sizes : Nat → Int32) (f_froms : Nat → Int32) (f_xs : Nat → Int32) (f_ys : Nat → Int32) (f_counts : Nat → Int32) (f_costs : Nat → Int32) (x1 : Int32) (x2 : Int32) (x3 : Int32) (x4 : Int32) (x5 : Int32) (x6 : Int32) (x7 : Int32) (x8 : Int32) (y0 : Int32) (back75 : (Int32 × (Nat → Int32) × (Nat → Int32)) → Prop) (back130 : (Int32 × (Nat → Int32) × (Nat → Int32)) → Prop) (post : ((Nat → Int32) × (Nat → Int32)) → Prop) : Prop :=
  (y0 = 0 → wp_M_fill_J191 n_sizes n_counts n_costs n_froms n_xs n_ys f_sizes f_froms f_xs f_ys f_counts f_costs x1 x2 x3 x4 x5 x6 x7 x8 (-1 : Int32) back75 back130 post) ∧ (¬ y0 = 0 → ∃ Q184 : Int32 → Unit → Prop, wp_M_costOf n_froms n_sizes n_xs n_ys f_froms f_sizes f_xs f_ys x1 x6 x7 x3 Q184 ∧ ∀ (r184 : Int32), Q184 r184 () → wp_M_fill_J191 n_sizes n_counts n_costs n_froms n_xs n_ys f_sizes f_froms f_xs f_ys f_counts f_costs x1 x2 x3 x4 x5 x6 x7 x8 r184 back75 back130 post)
def wp_M_fill_J165 (n_sizes n_counts n_costs n_froms n_xs n_ys : Nat) (f_sizes : Nat → Int32) (f_froms : Nat → Int32) (f_xs : Nat → Int32) (f_ys : Nat → Int32) (f_counts : Nat → Int32) (f_costs : Nat → Int32) (x1 : Int32) (x2 : Int32) (x3 : Int32) (x4 : Int32) (x5 : Int32) (x6 : Int32) (x7 : Int32) (x8 : Int32) (back75 : (Int32 × (Nat → Int32) × (Nat → Int32)) → Prop) (back130 : (Int32 × (Nat → Int32) × (Nat → Int32)) → Prop) (post : ((Nat → Int32) × (Nat → Int32)) → Prop) : Prop :=
  wp_M_fill_J170 n_sizes n_counts n_costs n_froms n_xs n_ys f_sizes f_froms f_xs f_ys f_counts f_costs x1 x2 x3 x4 x5 x6 x7 x8 (1 : Int32) back75 back130 post
def wp_M_fill_L130 (n_sizes n_counts n_costs n_froms n_xs n_ys : Nat) (f_sizes : Nat → Int32) (f_froms : Nat → Int32) (f_xs : Nat → Int32) (f_ys : Nat → Int32) (x1 : Int32) (x2 : Int32) (x3 : Int32) (x4 : Int32) (x5 : Int32) (x6 : Int32) (back75 : (Int32 × (Nat → Int32) × (Nat → Int32)) → Prop) (post : ((Nat → Int32) × (Nat → Int32)) → Prop) (back130 : (Int32 × (Nat → Int32) × (Nat → Int32)) → Prop) (x7 : Int32) (f_counts : Nat → Int32) (f_costs : Nat → Int32) : Prop :=
  ((24 : Int32) < x7 → wp_M_fill_J337 n_sizes n_counts n_costs n_froms n_xs n_ys f_sizes f_froms f_xs f_ys f_counts f_costs x1 x2 x3 x4 x5 x6 back75 post) ∧ (¬ (24 : Int32) < x7 → (x4 ≤ x6 → wp_M_fill_J337 n_sizes n_counts n_costs n_froms n_xs n_ys f_sizes f_froms f_xs f_ys f_counts f_costs x1 x2 x3 x4 x5 x6 back75 post) ∧ (¬ x4 ≤ x6 → ∀ x8_149 : Int32, x8_149 = (x6 + x7) → (x8_149 < x4 → wp_M_fill_J165 n_sizes n_counts n_costs n_froms n_xs n_ys f_sizes f_froms f_xs f_ys f_counts f_costs x1 x2 x3 x4 x5 x6 x7 x8_149 back75 back130 post) ∧ (¬ x8_149 < x4 → (¬ x8_149 = x5 → wp_M_fill_J170 n_sizes n_counts n_costs n_froms n_xs n_ys f_sizes f_froms f_xs f_ys f_counts f_costs x1 x2 x3 x4 x5 x6 x7 x8_149 (0 : Int32) back75 back130 post) ∧ (x8_149 = x5 → wp_M_fill_J165 n_sizes n_counts n_costs n_froms n_xs n_ys f_sizes f_froms f_xs f_ys f_counts f_costs x1 x2 x3 x4 x5 x6 x7 x8_149 back75 back130 post))))
def wp_M_fill_L84 (n_sizes n_counts n_costs n_froms n_xs n_ys : Nat) (f_sizes : Nat → Int32) (f_froms : Nat → Int32) (f_xs : Nat → Int32) (f_ys : Nat → Int32) (x1 : Int32) (x2 : Int32) (x3 : Int32) (x4 : Int32) (x5 : Int32) (x6 : Int32) (back75 : (Int32 × (Nat → Int32) × (Nat → Int32)) → Prop) (post : ((Nat → Int32) × (Nat → Int32)) → Prop) (back84 : (Int32 × (Nat → Int32) × (Nat → Int32)) → Prop) (x7 : Int32) (f_counts : Nat → Int32) (f_costs : Nat → Int32) : Prop :=
  ((4 : Int32) ≤ x7 → lpW (fun b z => wp_M_fill_L130 n_sizes n_counts n_costs n_froms n_xs n_ys f_sizes f_froms f_xs f_ys x1 x2 x3 x4 x5 x6 back75 post b z.1 z.2.1 z.2.2) ((1 : Int32), f_counts, f_costs)) ∧ (¬ (4 : Int32) ≤ x7 → vp_in (((600 : Int32) * x7) + x6) n_counts ∧ ∀ f105 : Nat → Int32, f105 = upd f_counts (((600 : Int32) * x7) + x6).toNatClampNeg (1000000000 : Int32) → vp_in (((600 : Int32) * x7) + x6) n_costs ∧ ∀ f120 : Nat → Int32, f120 = upd f_costs (((600 : Int32) * x7) + x6).toNatClampNeg (0 : Int32) → ∀ x7_121 : Int32, x7_121 = x7 + (1 : Int32) → back84 (x7_121, f105, f120))
def wp_M_fill_L75 (n_sizes n_counts n_costs n_froms n_xs n_ys : Nat) (f_sizes : Nat → Int32) (f_froms : Nat → Int32) (f_xs : Nat → Int32) (f_ys : Nat → Int32) (x1 : Int32) (x2 : Int32) (x3 : Int32) (x4 : Int32) (x5 : Int32) (post : ((Nat → Int32) × (Nat → Int32)) → Prop) (back75 : (Int32 × (Nat → Int32) × (Nat → Int32)) → Prop) (x6 : Int32) (f_counts : Nat → Int32) (f_costs : Nat → Int32) : Prop :=
  (x6 < x2 → post (f_counts, f_costs)) ∧ (¬ x6 < x2 → lpW (fun b z => wp_M_fill_L84 n_sizes n_counts n_costs n_froms n_xs n_ys f_sizes f_froms f_xs f_ys x1 x2 x3 x4 x5 x6 back75 post b z.1 z.2.1 z.2.2) ((0 : Int32), f_counts, f_costs))
def wp_M_fill_J47 (n_sizes n_counts n_costs n_froms n_xs n_ys : Nat) (f_sizes : Nat → Int32) (f_froms : Nat → Int32) (f_xs : Nat → Int32) (f_ys : Nat → Int32) (f_counts : Nat → Int32) (f_costs : Nat → Int32) (x1 : Int32) (x2 : Int32) (x3 : Int32) (x4 : Int32) (x5 : Int32) (x6 : Int32) (y0 : Int32) (y1 : Int32) (back17 : (Int32 × (Nat → Int32) × (Nat → Int32)) → Prop) (post : ((Nat → Int32) × (Nat → Int32)) → Prop) : Prop :=
  vp_in y1 n_counts ∧ ∀ f47 : Nat → Int32, f47 = upd f_counts y1.toNatClampNeg y0 → vp_in (((600 : Int32) * x6) + x5) n_costs ∧ ∀ f62 : Nat → Int32, f62 = upd f_costs (((600 : Int32) * x6) + x5).toNatClampNeg (0 : Int32) → ∀ x6_63 : Int32, x6_63 = x6 + (1 : Int32) → back17 (x6_63, f47, f62)
def wp_M_fill_L17 (n_sizes n_counts n_costs n_froms n_xs n_ys : Nat) (f_sizes : Nat → Int32) (f_froms : Nat → Int32) (f_xs : Nat → Int32) (f_ys : Nat → Int32) (x1 : Int32) (x2 : Int32) (x3 : Int32) (x4 : Int32) (x5 : Int32) (post : ((Nat → Int32) × (Nat → Int32)) → Prop) (back17 : (Int32 × (Nat → Int32) × (Nat → Int32)) → Prop) (x6 : Int32) (f_counts : Nat → Int32) (f_costs : Nat → Int32) : Prop :=
  ((4 : Int32) ≤ x6 → ∀ x6_73 : Int32, x6_73 = (x5 - (1 : Int32)) → lpW (fun b z => wp_M_fill_L75 n_sizes n_counts n_costs n_froms n_xs n_ys f_sizes f_froms f_xs f_ys x1 x2 x3 x4 x5 post b z.1 z.2.1 z.2.2) (x6_73, f_counts, f_costs)) ∧ (¬ (4 : Int32) ≤ x6 → (¬ x6 = 0 → wp_M_fill_J47 n_sizes n_counts n_costs n_froms n_xs n_ys f_sizes f_froms f_xs f_ys f_counts f_costs x1 x2 x3 x4 x5 x6 (1000000000 : Int32) (((600 : Int32) * x6) + x5) back17 post) ∧ (x6 = 0 → wp_M_fill_J47 n_sizes n_counts n_costs n_froms n_xs n_ys f_sizes f_froms f_xs f_ys f_counts f_costs x1 x2 x3 x4 x5 x6 (0 : Int32) (((600 : Int32) * x6) + x5) back17 post))
def wp_M_fill (n_sizes n_counts n_costs n_froms n_xs n_ys : Nat) (f_sizes : Nat → Int32) (f_counts : Nat → Int32) (f_costs : Nat → Int32) (f_froms : Nat → Int32) (f_xs : Nat → Int32) (f_ys : Nat → Int32) (x1 : Int32) (x2 : Int32) (x3 : Int32) (post : ((Nat → Int32) × (Nat → Int32)) → Prop) : Prop :=
  vp_in x1 n_sizes ∧ ∀ x4_6 : Int32, x4_6 = (f_sizes x1.toNatClampNeg) → ∀ x5_12 : Int32, x5_12 = (x2 + x4_6) → lpW (fun b z => wp_M_fill_L17 n_sizes n_counts n_costs n_froms n_xs n_ys f_sizes f_froms f_xs f_ys x1 x2 x3 x4_6 x5_12 post b z.1 z.2.1 z.2.2) ((0 : Int32), f_counts, f_costs)
abbrev cw_M_fill (cI : ClassId) (a_this a_sizes a_counts a_costs a_froms a_xs a_ys a_colours a_layersOf a_areas a_used a_cornerAt a_firsts a_manys a_fs a_px a_py a_groups a_joinF : Nat) (n_sizes n_counts n_costs n_froms n_xs n_ys : Nat) (c_code : Int32) (c_width : Int32) (c_height : Int32) (c_isTraced : Int32) (c_outlines : Int32) (c_points : Int32) (c_hasPolygon : Int32) (c_of : Int32) (c_corners : Int32) (c_costSum : Int32) (c_hasCurves : Int32) (c_curveCount : Int32) (c_sharp : Int32) (c_allowed : Int32) (f_sizes : Nat → Int32) (f_counts : Nat → Int32) (f_costs : Nat → Int32) (f_froms : Nat → Int32) (f_xs : Nat → Int32) (f_ys : Nat → Int32) : va_W := [(a_this, .inr (5, [.int c_code, .int c_width, .int c_height, .ref a_colours, .int c_isTraced, .int c_outlines, .ref a_froms, .ref a_sizes, .ref a_layersOf, .ref a_areas, .int c_points, .ref a_xs, .ref a_ys, .ref a_used, .int c_hasPolygon, .int c_of, .int c_corners, .int c_costSum, .ref a_cornerAt, .ref a_counts, .ref a_costs, .int c_hasCurves, .int c_curveCount, .ref a_firsts, .ref a_manys, .ref a_fs, .int c_sharp, .int c_allowed, .ref a_px, .ref a_py, .ref a_groups, .ref a_joinF])), (a_sizes, .inl (cI, n_sizes, .inl f_sizes)), (a_counts, .inl (cI, n_counts, .inl f_counts)), (a_costs, .inl (cI, n_costs, .inl f_costs)), (a_froms, .inl (cI, n_froms, .inl f_froms)), (a_xs, .inl (cI, n_xs, .inl f_xs)), (a_ys, .inl (cI, n_ys, .inl f_ys))]
abbrev qq_M_fill (dC : Nat → ClassId) (dI : Nat → Nat → Nat) (cI cB cJ cZ : ClassId) (a_this a_sizes a_counts a_costs a_froms a_xs a_ys a_colours a_layersOf a_areas a_used a_cornerAt a_firsts a_manys a_fs a_px a_py a_groups a_joinF : Nat) (n_sizes n_counts n_costs n_froms n_xs n_ys : Nat) (c_code : Int32) (c_width : Int32) (c_height : Int32) (c_isTraced : Int32) (c_outlines : Int32) (c_points : Int32) (c_hasPolygon : Int32) (c_of : Int32) (c_corners : Int32) (c_costSum : Int32) (c_hasCurves : Int32) (c_curveCount : Int32) (c_sharp : Int32) (c_allowed : Int32) (f_sizes : Nat → Int32) (f_froms : Nat → Int32) (f_xs : Nat → Int32) (f_ys : Nat → Int32) (A : Nat → Prop) (post : ((Nat → Int32) × (Nat → Int32)) → Prop) : Array Value → State → Outcome → State → Prop := va_Qv post (fun u t => va_P (dC, dI) vwCl (cw_M_fill cI a_this a_sizes a_counts a_costs a_froms a_xs a_ys a_colours a_layersOf a_areas a_used a_cornerAt a_firsts a_manys a_fs a_px a_py a_groups a_joinF n_sizes n_counts n_costs n_froms n_xs n_ys c_code c_width c_height c_isTraced c_outlines c_points c_hasPolygon c_of c_corners c_costSum c_hasCurves c_curveCount c_sharp c_allowed f_sizes u.1 u.2 f_froms f_xs f_ys) t.heap ∧ va_K (dC, dI) vwCl [(cI, .int), (cB, .byte), (cJ, .long), (cZ, .boolean)] t ∧ va_D A (cw_M_fill cI a_this a_sizes a_counts a_costs a_froms a_xs a_ys a_colours a_layersOf a_areas a_used a_cornerAt a_firsts a_manys a_fs a_px a_py a_groups a_joinF n_sizes n_counts n_costs n_froms n_xs n_ys c_code c_width c_height c_isTraced c_outlines c_points c_hasPolygon c_of c_corners c_costSum c_hasCurves c_curveCount c_sharp c_allowed f_sizes u.1 u.2 f_froms f_xs f_ys)) A
set_option maxHeartbeats 4000000 in
set_option maxRecDepth 100000 in
theorem c_M_fill (l : Launch) (dC : Nat → ClassId) (dI : Nat → Nat → Nat) (cI cB cJ cZ : ClassId) (a_this a_sizes a_counts a_costs a_froms a_xs a_ys a_colours a_layersOf a_areas a_used a_cornerAt a_firsts a_manys a_fs a_px a_py a_groups a_joinF : Nat) (sz : Nat) (n_sizes n_counts n_costs n_froms n_xs n_ys : Nat) (c_code : Int32) (c_width : Int32) (c_height : Int32) (c_isTraced : Int32) (c_outlines : Int32) (c_points : Int32) (c_hasPolygon : Int32) (c_of : Int32) (c_corners : Int32) (c_costSum : Int32) (c_hasCurves : Int32) (c_curveCount : Int32) (c_sharp : Int32) (c_allowed : Int32) (f_sizes : Nat → Int32) (f_counts : Nat → Int32) (f_costs : Nat → Int32) (f_froms : Nat → Int32) (f_xs : Nat → Int32) (f_ys : Nat → Int32) (x1 : Int32) (x2 : Int32) (x3 : Int32) (post : ((Nat → Int32) × (Nat → Int32)) → Prop) (h : wp_M_fill n_sizes n_counts n_costs n_froms n_xs n_ys f_sizes f_counts f_costs f_froms f_xs f_ys x1 x2 x3 post) : Met l y_M_fill w_M_fill ({ frames := 2, cells := 0, slots := 0, locals := 62 }) (va_Pc [.ref a_this, .int x1, .int x2, .int x3] (fun U => U.heap.size = sz ∧ va_P (dC, dI) vwCl (cw_M_fill cI a_this a_sizes a_counts a_costs a_froms a_xs a_ys a_colours a_layersOf a_areas a_used a_cornerAt a_firsts a_manys a_fs a_px a_py a_groups a_joinF n_sizes n_counts n_costs n_froms n_xs n_ys c_code c_width c_height c_isTraced c_outlines c_points c_hasPolygon c_of c_corners c_costSum c_hasCurves c_curveCount c_sharp c_allowed f_sizes f_counts f_costs f_froms f_xs f_ys) U.heap ∧ va_K (dC, dI) vwCl [(cI, .int), (cB, .byte), (cJ, .long), (cZ, .boolean)] U ∧ va_D (fun _ => True) (cw_M_fill cI a_this a_sizes a_counts a_costs a_froms a_xs a_ys a_colours a_layersOf a_areas a_used a_cornerAt a_firsts a_manys a_fs a_px a_py a_groups a_joinF n_sizes n_counts n_costs n_froms n_xs n_ys c_code c_width c_height c_isTraced c_outlines c_points c_hasPolygon c_of c_corners c_costSum c_hasCurves c_curveCount c_sharp c_allowed f_sizes f_counts f_costs f_froms f_xs f_ys))) (qq_M_fill dC dI cI cB cJ cZ a_this a_sizes a_counts a_costs a_froms a_xs a_ys a_colours a_layersOf a_areas a_used a_cornerAt a_firsts a_manys a_fs a_px a_py a_groups a_joinF n_sizes n_counts n_costs n_froms n_xs n_ys c_code c_width c_height c_isTraced c_outlines c_points c_hasPolygon c_of c_corners c_costSum c_hasCurves c_curveCount c_sharp c_allowed f_sizes f_froms f_xs f_ys (va_A (cw_M_fill cI a_this a_sizes a_counts a_costs a_froms a_xs a_ys a_colours a_layersOf a_areas a_used a_cornerAt a_firsts a_manys a_fs a_px a_py a_groups a_joinF n_sizes n_counts n_costs n_froms n_xs n_ys c_code c_width c_height c_isTraced c_outlines c_points c_hasPolygon c_of c_corners c_costSum c_hasCurves c_curveCount c_sharp c_allowed f_sizes f_counts f_costs f_froms f_xs f_ys) sz) post) 0 0 (va_A (cw_M_fill cI a_this a_sizes a_counts a_costs a_froms a_xs a_ys a_colours a_layersOf a_areas a_used a_cornerAt a_firsts a_manys a_fs a_px a_py a_groups a_joinF n_sizes n_counts n_costs n_froms n_xs n_ys c_code c_width c_height c_isTraced c_outlines c_points c_hasPolygon c_of c_corners c_costSum c_hasCurves c_curveCount c_sharp c_allowed f_sizes f_counts f_costs f_froms f_xs f_ys) sz) := by
  refine Met.ofW (cc := b_M_fill) (maxL := 14) (ret := none) (by decide +kernel) rfl ?_
  intro p e s m args below meth c s₁ B hml hv
  obtain ⟨rfl, hsz, hP, hK, hD0⟩ := hv
  have hx := B.exec
  have hb := B.bytes
  have hr := B.returns
  have hts : ∀ w ∈ allW, w.before _ s = true := fun w hw => atoms_spec (ws := w_M_fill) B.pre w (List.mem_cons_of_mem _ hw)
  have hown : s.vm.findClass R_M = some m.cls := findClass_of_methodNamed B.named
  have hlocks := B.notSynchronized
  subst hsz
  have hD := hD0.self (sz := s.heap.size)
  generalize hAe : va_A (cw_M_fill cI a_this a_sizes a_counts a_costs a_froms a_xs a_ys a_colours a_layersOf a_areas a_used a_cornerAt a_firsts a_manys a_fs a_px a_py a_groups a_joinF n_sizes n_counts n_costs n_froms n_xs n_ys c_code c_width c_height c_isTraced c_outlines c_points c_hasPolygon c_of c_corners c_costSum c_hasCurves c_curveCount c_sharp c_allowed f_sizes f_counts f_costs f_froms f_xs f_ys) s.heap.size = A at hD ⊢
  have hA : ∀ q : Nat, s.heap.size ≤ q → A q := fun q h => by rw [← hAe]; exact Or.inr h
  have hS : va_S A s.heap s.heap [] := va_S.rf
  clear hD0
  generalize hQf : MQ below (qq_M_fill dC dI cI cB cJ cZ a_this a_sizes a_counts a_costs a_froms a_xs a_ys a_colours a_layersOf a_areas a_used a_cornerAt a_firsts a_manys a_fs a_px a_py a_groups a_joinF n_sizes n_counts n_costs n_froms n_xs n_ys c_code c_width c_height c_isTraced c_outlines c_points c_hasPolygon c_of c_corners c_costSum c_hasCurves c_curveCount c_sharp c_allowed f_sizes f_froms f_xs f_ys A post) ([.ref a_this, .int x1, .int x2, .int x3] : List Value).toArray s 0 0 A = Qf
  have hl := lv_entry ([.ref a_this, .int x1, .int x2, .int x3]) (n := 14) (Nat.le_of_ble_eq_true rfl)
  rw [lg_entry_eq]
  generalize (lg_sl ([.ref a_this, .int x1, .int x2, .int x3]) ++ List.replicate (14 - (lg_sl ([.ref a_this, .int x1, .int x2, .int x3])).length) Slot.unset).toArray = ls at hl ⊢
  have hl : lv_has ls 14 [(0, .ref a_this), (1, .int x1), (2, .int x2), (3, .int x3)] := hl
  unfold wp_M_fill at h
  refine lv_aload_n hx hb d_M_fill_0 rfl (lv_at hl 0 rfl) ?_
  refine va_get (D := (dC, dI)) (ci := 5) (v := .ref a_sizes) (C := R_M) (T := F_M) (N := 32) hx hb hts i_M_in hown hK hP 0 rfl rfl 7 (by decide) (hts _ q_668) (fun _ h9 => h9) rfl d_M_fill_1 ?_
  refine lv_iload_n hx hb d_M_fill_4 rfl (lv_at hl 1 rfl) ?_
  obtain ⟨hin, h⟩ := h
  refine va_iald hx hb hK hP 1 0 rfl rfl hin d_M_fill_5 ?_
  refine lv_topi (fun x4_6 e_x4_6 => ?_)
  have h := h x4_6 e_x4_6
  refine lv_istore (lv' := [(4, .int x4_6), (0, .ref a_this), (1, .int x1), (2, .int x2), (3, .int x3)]) hx hb d_M_fill_6 hl (by decide) rfl (fun ls hl => ?_)
  refine lv_iload_n hx hb d_M_fill_8 rfl (lv_at hl 3 rfl) ?_
  refine lv_iload hx hb d_M_fill_9 (lv_at hl 0 rfl) ?_
  refine lv_iadd hx hb d_M_fill_11 ?_
  refine lv_topi (fun x5_12 e_x5_12 => ?_)
  have h := h x5_12 e_x5_12
  refine lv_istore (lv' := [(5, .int x5_12), (4, .int x4_6), (0, .ref a_this), (1, .int x1), (2, .int x2), (3, .int x3)]) hx hb d_M_fill_12 hl (by decide) rfl (fun ls hl => ?_)
  refine lv_iconst (v := 0) hx hb d_M_fill_14 (by decide) ?_
  refine lv_istore (lv' := [(6, .int (0 : Int32)), (5, .int x5_12), (4, .int x4_6), (0, .ref a_this), (1, .int x1), (2, .int x2), (3, .int x3)]) hx hb d_M_fill_15 hl (by decide) rfl (fun ls hl => ?_)
  refine lpW_ind (Wp := fun z => ∀ (H : Heap) (locs : List Loc) (ls : Array Slot), va_P (dC, dI) vwCl (cw_M_fill cI a_this a_sizes a_counts a_costs a_froms a_xs a_ys a_colours a_layersOf a_areas a_used a_cornerAt a_firsts a_manys a_fs a_px a_py a_groups a_joinF n_sizes n_counts n_costs n_froms n_xs n_ys c_code c_width c_height c_isTraced c_outlines c_points c_hasPolygon c_of c_corners c_costSum c_hasCurves c_curveCount c_sharp c_allowed f_sizes z.2.1 z.2.2 f_froms f_xs f_ys) H → va_D A (cw_M_fill cI a_this a_sizes a_counts a_costs a_froms a_xs a_ys a_colours a_layersOf a_areas a_used a_cornerAt a_firsts a_manys a_fs a_px a_py a_groups a_joinF n_sizes n_counts n_costs n_froms n_xs n_ys c_code c_width c_height c_isTraced c_outlines c_points c_hasPolygon c_of c_corners c_costSum c_hasCurves c_curveCount c_sharp c_allowed f_sizes z.2.1 z.2.2 f_froms f_xs f_ys) → va_S A s.heap H locs → lv_has ls 14 [(0, .ref a_this), (1, .int x1), (2, .int x2), (3, .int x3), (4, .int x4_6), (5, .int x5_12), (6, .int z.1)] → W p l e (headSpec w_M_fill ({ frames := 2, cells := 0, slots := 0, locals := 62 })).room s m ([.ref a_this, .int x1, .int x2, .int x3] : List Value).toArray below meth c H locs 0 0 Qf (F0 m 17 ls [])) h ?_ _ _ _ hP hD hS (lv_sub hl [3, 4, 5, 6, 2, 1, 0] rfl)
  rintro ⟨x6_l17, f_counts_l17, f_costs_l17⟩ back17 h hb17 H locs ls hP hD hS hl
  have h : wp_M_fill_L17 n_sizes n_counts n_costs n_froms n_xs n_ys f_sizes f_froms f_xs f_ys x1 x2 x3 x4_6 x5_12 post back17 x6_l17 f_counts_l17 f_costs_l17 := h
  have hP : va_P (dC, dI) vwCl (cw_M_fill cI a_this a_sizes a_counts a_costs a_froms a_xs a_ys a_colours a_layersOf a_areas a_used a_cornerAt a_firsts a_manys a_fs a_px a_py a_groups a_joinF n_sizes n_counts n_costs n_froms n_xs n_ys c_code c_width c_height c_isTraced c_outlines c_points c_hasPolygon c_of c_corners c_costSum c_hasCurves c_curveCount c_sharp c_allowed f_sizes f_counts_l17 f_costs_l17 f_froms f_xs f_ys) H := hP
  have hD : va_D A (cw_M_fill cI a_this a_sizes a_counts a_costs a_froms a_xs a_ys a_colours a_layersOf a_areas a_used a_cornerAt a_firsts a_manys a_fs a_px a_py a_groups a_joinF n_sizes n_counts n_costs n_froms n_xs n_ys c_code c_width c_height c_isTraced c_outlines c_points c_hasPolygon c_of c_corners c_costSum c_hasCurves c_curveCount c_sharp c_allowed f_sizes f_counts_l17 f_costs_l17 f_froms f_xs f_ys) := hD
  have hl : lv_has ls 14 [(0, .ref a_this), (1, .int x1), (2, .int x2), (3, .int x3), (4, .int x4_6), (5, .int x5_12), (6, .int x6_l17)] := hl
  unfold wp_M_fill_L17 at h
  have J47 : ∀ (x6_j47 : Int32) (y0_j47 : Int32) (y1_j47 : Int32) (f_counts_j47 : Nat → Int32) (f_costs_j47 : Nat → Int32) (H : Heap) (locs : List Loc) (ls : Array Slot), wp_M_fill_J47 n_sizes n_counts n_costs n_froms n_xs n_ys f_sizes f_froms f_xs f_ys f_counts_j47 f_costs_j47 x1 x2 x3 x4_6 x5_12 x6_j47 y0_j47 y1_j47 back17 post → va_P (dC, dI) vwCl (cw_M_fill cI a_this a_sizes a_counts a_costs a_froms a_xs a_ys a_colours a_layersOf a_areas a_used a_cornerAt a_firsts a_manys a_fs a_px a_py a_groups a_joinF n_sizes n_counts n_costs n_froms n_xs n_ys c_code c_width c_height c_isTraced c_outlines c_points c_hasPolygon c_of c_corners c_costSum c_hasCurves c_curveCount c_sharp c_allowed f_sizes f_counts_j47 f_costs_j47 f_froms f_xs f_ys) H → va_D A (cw_M_fill cI a_this a_sizes a_counts a_costs a_froms a_xs a_ys a_colours a_layersOf a_areas a_used a_cornerAt a_firsts a_manys a_fs a_px a_py a_groups a_joinF n_sizes n_counts n_costs n_froms n_xs n_ys c_code c_width c_height c_isTraced c_outlines c_points c_hasPolygon c_of c_corners c_costSum c_hasCurves c_curveCount c_sharp c_allowed f_sizes f_counts_j47 f_costs_j47 f_froms f_xs f_ys) → va_S A s.heap H locs → lv_has ls 14 [(0, .ref a_this), (1, .int x1), (2, .int x2), (3, .int x3), (4, .int x4_6), (5, .int x5_12), (6, .int x6_j47)] → W p l e (headSpec w_M_fill ({ frames := 2, cells := 0, slots := 0, locals := 62 })).room s m ([.ref a_this, .int x1, .int x2, .int x3] : List Value).toArray below meth c H locs 0 0 Qf (F0 m 47 ls [.int y0_j47, .int y1_j47, .ref a_counts]) := by
    intro x6_j47 y0_j47 y1_j47 f_counts_j47 f_costs_j47 H locs ls h hP hD hS hl
    unfold wp_M_fill_J47 at h
    obtain ⟨hin, h⟩ := h
    refine va_iast hx hb hK hP hD hS 2 0 rfl rfl hin d_M_fill_47 (fun H locs hP hD hS => ?_)
    obtain ⟨f47, e_f47⟩ : ∃ y : Nat → Int32, y = upd f_counts_j47 y1_j47.toNatClampNeg y0_j47 := ⟨_, rfl⟩
    have h := h f47 e_f47
    have hP : va_P (dC, dI) vwCl (cw_M_fill cI a_this a_sizes a_counts a_costs a_froms a_xs a_ys a_colours a_layersOf a_areas a_used a_cornerAt a_firsts a_manys a_fs a_px a_py a_groups a_joinF n_sizes n_counts n_costs n_froms n_xs n_ys c_code c_width c_height c_isTraced c_outlines c_points c_hasPolygon c_of c_corners c_costSum c_hasCurves c_curveCount c_sharp c_allowed f_sizes f47 f_costs_j47 f_froms f_xs f_ys) H := by rw [e_f47]; exact hP
    have hD : va_D A (cw_M_fill cI a_this a_sizes a_counts a_costs a_froms a_xs a_ys a_colours a_layersOf a_areas a_used a_cornerAt a_firsts a_manys a_fs a_px a_py a_groups a_joinF n_sizes n_counts n_costs n_froms n_xs n_ys c_code c_width c_height c_isTraced c_outlines c_points c_hasPolygon c_of c_corners c_costSum c_hasCurves c_curveCount c_sharp c_allowed f_sizes f47 f_costs_j47 f_froms f_xs f_ys) := by rw [e_f47]; exact hD
    refine lv_aload_n hx hb d_M_fill_48 rfl (lv_at hl 0 rfl) ?_
    refine va_get (D := (dC, dI)) (ci := 5) (v := .ref a_costs) (C := R_M) (T := F_M) (N := 32) hx hb hts i_M_in hown hK hP 0 rfl rfl 20 (by decide) (hts _ q_681) (fun _ h9 => h9) rfl d_M_fill_49 ?_
    refine lv_sipush (v := 600) hx hb d_M_fill_52 (by decide) ?_
    refine lv_iload hx hb d_M_fill_55 (lv_at hl 6 rfl) ?_
    refine lv_imul hx hb d_M_fill_57 ?_
    refine lv_iload hx hb d_M_fill_58 (lv_at hl 5 rfl) ?_
    refine lv_iadd hx hb d_M_fill_60 ?_
    refine lv_iconst (v := 0) hx hb d_M_fill_61 (by decide) ?_
    obtain ⟨hin, h⟩ := h
    refine va_iast hx hb hK hP hD hS 3 0 rfl rfl hin d_M_fill_62 (fun H locs hP hD hS => ?_)
    obtain ⟨f62, e_f62⟩ : ∃ y : Nat → Int32, y = upd f_costs_j47 (((600 : Int32) * x6_j47) + x5_12).toNatClampNeg (0 : Int32) := ⟨_, rfl⟩
    have h := h f62 e_f62
    have hP : va_P (dC, dI) vwCl (cw_M_fill cI a_this a_sizes a_counts a_costs a_froms a_xs a_ys a_colours a_layersOf a_areas a_used a_cornerAt a_firsts a_manys a_fs a_px a_py a_groups a_joinF n_sizes n_counts n_costs n_froms n_xs n_ys c_code c_width c_height c_isTraced c_outlines c_points c_hasPolygon c_of c_corners c_costSum c_hasCurves c_curveCount c_sharp c_allowed f_sizes f47 f62 f_froms f_xs f_ys) H := by rw [e_f62]; exact hP
    have hD : va_D A (cw_M_fill cI a_this a_sizes a_counts a_costs a_froms a_xs a_ys a_colours a_layersOf a_areas a_used a_cornerAt a_firsts a_manys a_fs a_px a_py a_groups a_joinF n_sizes n_counts n_costs n_froms n_xs n_ys c_code c_width c_height c_isTraced c_outlines c_points c_hasPolygon c_of c_corners c_costSum c_hasCurves c_curveCount c_sharp c_allowed f_sizes f47 f62 f_froms f_xs f_ys) := by rw [e_f62]; exact hD
    obtain ⟨x6_63, e_x6_63⟩ : ∃ y : Int32, y = x6_j47 + (1 : Int32) := ⟨_, rfl⟩
    have h := h x6_63 e_x6_63
    refine lv_iinc (v := x6_63) (lv' := [(6, .int x6_63), (0, .ref a_this), (1, .int x1), (2, .int x2), (3, .int x3), (4, .int x4_6), (5, .int x5_12)]) hx hb d_M_fill_63 hl (k := 6) rfl (by rw [e_x6_63]; rfl) (by decide) rfl (fun ls hl => ?_)
    refine lv_goto (tgt := 17) hx hb d_M_fill_66 (by decide) ?_
    exact hb17 _ h _ _ _ hP hD hS (lv_sub hl [1, 2, 3, 4, 5, 6, 0] rfl)
  refine lv_iload hx hb d_M_fill_17 (lv_at hl 6 rfl) ?_
  refine lv_iconst (v := 4) hx hb d_M_fill_19 (by decide) ?_
  refine lv_icmp_ge (tgt := 69) hx hb d_M_fill_20 (by decide) (fun cc_ => ?_) (fun cc_ => ?_)
  · have h := h.1 cc_
    refine lv_iload hx hb d_M_fill_69 (lv_at hl 5 rfl) ?_
    refine lv_iconst (v := 1) hx hb d_M_fill_71 (by decide) ?_
    refine lv_isub hx hb d_M_fill_72 ?_
    refine lv_topi (fun x6_73 e_x6_73 => ?_)
    have h := h x6_73 e_x6_73
    refine lv_istore (lv' := [(6, .int x6_73), (0, .ref a_this), (1, .int x1), (2, .int x2), (3, .int x3), (4, .int x4_6), (5, .int x5_12)]) hx hb d_M_fill_73 hl (by decide) rfl (fun ls hl => ?_)
    refine lpW_ind (Wp := fun z => ∀ (H : Heap) (locs : List Loc) (ls : Array Slot), va_P (dC, dI) vwCl (cw_M_fill cI a_this a_sizes a_counts a_costs a_froms a_xs a_ys a_colours a_layersOf a_areas a_used a_cornerAt a_firsts a_manys a_fs a_px a_py a_groups a_joinF n_sizes n_counts n_costs n_froms n_xs n_ys c_code c_width c_height c_isTraced c_outlines c_points c_hasPolygon c_of c_corners c_costSum c_hasCurves c_curveCount c_sharp c_allowed f_sizes z.2.1 z.2.2 f_froms f_xs f_ys) H → va_D A (cw_M_fill cI a_this a_sizes a_counts a_costs a_froms a_xs a_ys a_colours a_layersOf a_areas a_used a_cornerAt a_firsts a_manys a_fs a_px a_py a_groups a_joinF n_sizes n_counts n_costs n_froms n_xs n_ys c_code c_width c_height c_isTraced c_outlines c_points c_hasPolygon c_of c_corners c_costSum c_hasCurves c_curveCount c_sharp c_allowed f_sizes z.2.1 z.2.2 f_froms f_xs f_ys) → va_S A s.heap H locs → lv_has ls 14 [(0, .ref a_this), (1, .int x1), (2, .int x2), (3, .int x3), (4, .int x4_6), (5, .int x5_12), (6, .int z.1)] → W p l e (headSpec w_M_fill ({ frames := 2, cells := 0, slots := 0, locals := 62 })).room s m ([.ref a_this, .int x1, .int x2, .int x3] : List Value).toArray below meth c H locs 0 0 Qf (F0 m 75 ls [])) h ?_ _ _ _ hP hD hS (lv_sub hl [1, 2, 3, 4, 5, 6, 0] rfl)
    rintro ⟨x6_l75, f_counts_l75, f_costs_l75⟩ back75 h hb75 H locs ls hP hD hS hl
    have h : wp_M_fill_L75 n_sizes n_counts n_costs n_froms n_xs n_ys f_sizes f_froms f_xs f_ys x1 x2 x3 x4_6 x5_12 post back75 x6_l75 f_counts_l75 f_costs_l75 := h
    have hP : va_P (dC, dI) vwCl (cw_M_fill cI a_this a_sizes a_counts a_costs a_froms a_xs a_ys a_colours a_layersOf a_areas a_used a_cornerAt a_firsts a_manys a_fs a_px a_py a_groups a_joinF n_sizes n_counts n_costs n_froms n_xs n_ys c_code c_width c_height c_isTraced c_outlines c_points c_hasPolygon c_of c_corners c_costSum c_hasCurves c_curveCount c_sharp c_allowed f_sizes f_counts_l75 f_costs_l75 f_froms f_xs f_ys) H := hP
    have hD : va_D A (cw_M_fill cI a_this a_sizes a_counts a_costs a_froms a_xs a_ys a_colours a_layersOf a_areas a_used a_cornerAt a_firsts a_manys a_fs a_px a_py a_groups a_joinF n_sizes n_counts n_costs n_froms n_xs n_ys c_code c_width c_height c_isTraced c_outlines c_points c_hasPolygon c_of c_corners c_costSum c_hasCurves c_curveCount c_sharp c_allowed f_sizes f_counts_l75 f_costs_l75 f_froms f_xs f_ys) := hD
    have hl : lv_has ls 14 [(0, .ref a_this), (1, .int x1), (2, .int x2), (3, .int x3), (4, .int x4_6), (5, .int x5_12), (6, .int x6_l75)] := hl
    unfold wp_M_fill_L75 at h
    have J337 : ∀ (x6_j337 : Int32) (f_counts_j337 : Nat → Int32) (f_costs_j337 : Nat → Int32) (H : Heap) (locs : List Loc) (ls : Array Slot), wp_M_fill_J337 n_sizes n_counts n_costs n_froms n_xs n_ys f_sizes f_froms f_xs f_ys f_counts_j337 f_costs_j337 x1 x2 x3 x4_6 x5_12 x6_j337 back75 post → va_P (dC, dI) vwCl (cw_M_fill cI a_this a_sizes a_counts a_costs a_froms a_xs a_ys a_colours a_layersOf a_areas a_used a_cornerAt a_firsts a_manys a_fs a_px a_py a_groups a_joinF n_sizes n_counts n_costs n_froms n_xs n_ys c_code c_width c_height c_isTraced c_outlines c_points c_hasPolygon c_of c_corners c_costSum c_hasCurves c_curveCount c_sharp c_allowed f_sizes f_counts_j337 f_costs_j337 f_froms f_xs f_ys) H → va_D A (cw_M_fill cI a_this a_sizes a_counts a_costs a_froms a_xs a_ys a_colours a_layersOf a_areas a_used a_cornerAt a_firsts a_manys a_fs a_px a_py a_groups a_joinF n_sizes n_counts n_costs n_froms n_xs n_ys c_code c_width c_height c_isTraced c_outlines c_points c_hasPolygon c_of c_corners c_costSum c_hasCurves c_curveCount c_sharp c_allowed f_sizes f_counts_j337 f_costs_j337 f_froms f_xs f_ys) → va_S A s.heap H locs → lv_has ls 14 [(0, .ref a_this), (1, .int x1), (2, .int x2), (3, .int x3), (4, .int x4_6), (5, .int x5_12), (6, .int x6_j337)] → W p l e (headSpec w_M_fill ({ frames := 2, cells := 0, slots := 0, locals := 62 })).room s m ([.ref a_this, .int x1, .int x2, .int x3] : List Value).toArray below meth c H locs 0 0 Qf (F0 m 337 ls []) := by
      intro x6_j337 f_counts_j337 f_costs_j337 H locs ls h hP hD hS hl
      unfold wp_M_fill_J337 at h
      obtain ⟨x6_337, e_x6_337⟩ : ∃ y : Int32, y = x6_j337 + (-1 : Int32) := ⟨_, rfl⟩
      have h := h x6_337 e_x6_337
      refine lv_iinc (v := x6_337) (lv' := [(6, .int x6_337), (0, .ref a_this), (1, .int x1), (2, .int x2), (3, .int x3), (4, .int x4_6), (5, .int x5_12)]) hx hb d_M_fill_337 hl (k := 6) rfl (by rw [e_x6_337]; rfl) (by decide) rfl (fun ls hl => ?_)
      refine lv_goto (tgt := 75) hx hb d_M_fill_340 (by decide) ?_
      exact hb75 _ h _ _ _ hP hD hS (lv_sub hl [1, 2, 3, 4, 5, 6, 0] rfl)
    refine lv_iload hx hb d_M_fill_75 (lv_at hl 6 rfl) ?_
    refine lv_iload_n hx hb d_M_fill_77 rfl (lv_at hl 2 rfl) ?_
    refine lv_icmp_lt (tgt := 343) hx hb d_M_fill_78 (by decide) (fun cc_ => ?_) (fun cc_ => ?_)
    · have h := h.1 cc_
      subst hQf
      exact W.vret hx hb hr (fun t ht hW => ⟨⟨(f_counts_l75, f_costs_l75), rfl, h, by rw [ht]; exact hP, va_K.moved hW.alike hK, hD⟩, hS.F ht⟩) hS.2.2 d_M_fill_343
    · have h := h.2 cc_
      refine lv_iconst (v := 0) hx hb d_M_fill_81 (by decide) ?_
      refine lv_istore (lv' := [(7, .int (0 : Int32)), (0, .ref a_this), (1, .int x1), (2, .int x2), (3, .int x3), (4, .int x4_6), (5, .int x5_12), (6, .int x6_l75)]) hx hb d_M_fill_82 hl (by decide) rfl (fun ls hl => ?_)
      refine lpW_ind (Wp := fun z => ∀ (H : Heap) (locs : List Loc) (ls : Array Slot), va_P (dC, dI) vwCl (cw_M_fill cI a_this a_sizes a_counts a_costs a_froms a_xs a_ys a_colours a_layersOf a_areas a_used a_cornerAt a_firsts a_manys a_fs a_px a_py a_groups a_joinF n_sizes n_counts n_costs n_froms n_xs n_ys c_code c_width c_height c_isTraced c_outlines c_points c_hasPolygon c_of c_corners c_costSum c_hasCurves c_curveCount c_sharp c_allowed f_sizes z.2.1 z.2.2 f_froms f_xs f_ys) H → va_D A (cw_M_fill cI a_this a_sizes a_counts a_costs a_froms a_xs a_ys a_colours a_layersOf a_areas a_used a_cornerAt a_firsts a_manys a_fs a_px a_py a_groups a_joinF n_sizes n_counts n_costs n_froms n_xs n_ys c_code c_width c_height c_isTraced c_outlines c_points c_hasPolygon c_of c_corners c_costSum c_hasCurves c_curveCount c_sharp c_allowed f_sizes z.2.1 z.2.2 f_froms f_xs f_ys) → va_S A s.heap H locs → lv_has ls 14 [(0, .ref a_this), (1, .int x1), (2, .int x2), (3, .int x3), (4, .int x4_6), (5, .int x5_12), (6, .int x6_l75), (7, .int z.1)] → W p l e (headSpec w_M_fill ({ frames := 2, cells := 0, slots := 0, locals := 62 })).room s m ([.ref a_this, .int x1, .int x2, .int x3] : List Value).toArray below meth c H locs 0 0 Qf (F0 m 84 ls [])) h ?_ _ _ _ hP hD hS (lv_sub hl [1, 2, 3, 4, 5, 6, 7, 0] rfl)
      rintro ⟨x7_l84, f_counts_l84, f_costs_l84⟩ back84 h hb84 H locs ls hP hD hS hl
      have h : wp_M_fill_L84 n_sizes n_counts n_costs n_froms n_xs n_ys f_sizes f_froms f_xs f_ys x1 x2 x3 x4_6 x5_12 x6_l75 back75 post back84 x7_l84 f_counts_l84 f_costs_l84 := h
      have hP : va_P (dC, dI) vwCl (cw_M_fill cI a_this a_sizes a_counts a_costs a_froms a_xs a_ys a_colours a_layersOf a_areas a_used a_cornerAt a_firsts a_manys a_fs a_px a_py a_groups a_joinF n_sizes n_counts n_costs n_froms n_xs n_ys c_code c_width c_height c_isTraced c_outlines c_points c_hasPolygon c_of c_corners c_costSum c_hasCurves c_curveCount c_sharp c_allowed f_sizes f_counts_l84 f_costs_l84 f_froms f_xs f_ys) H := hP
      have hD : va_D A (cw_M_fill cI a_this a_sizes a_counts a_costs a_froms a_xs a_ys a_colours a_layersOf a_areas a_used a_cornerAt a_firsts a_manys a_fs a_px a_py a_groups a_joinF n_sizes n_counts n_costs n_froms n_xs n_ys c_code c_width c_height c_isTraced c_outlines c_points c_hasPolygon c_of c_corners c_costSum c_hasCurves c_curveCount c_sharp c_allowed f_sizes f_counts_l84 f_costs_l84 f_froms f_xs f_ys) := hD
      have hl : lv_has ls 14 [(0, .ref a_this), (1, .int x1), (2, .int x2), (3, .int x3), (4, .int x4_6), (5, .int x5_12), (6, .int x6_l75), (7, .int x7_l84)] := hl
      unfold wp_M_fill_L84 at h
      refine lv_iload hx hb d_M_fill_84 (lv_at hl 7 rfl) ?_
      refine lv_iconst (v := 4) hx hb d_M_fill_86 (by decide) ?_
      refine lv_icmp_ge (tgt := 127) hx hb d_M_fill_87 (by decide) (fun cc_ => ?_) (fun cc_ => ?_)
      · have h := h.1 cc_
        refine lv_iconst (v := 1) hx hb d_M_fill_127 (by decide) ?_
        refine lv_istore (lv' := [(7, .int (1 : Int32)), (0, .ref a_this), (1, .int x1), (2, .int x2), (3, .int x3), (4, .int x4_6), (5, .int x5_12), (6, .int x6_l75)]) hx hb d_M_fill_128 hl (by decide) rfl (fun ls hl => ?_)
        refine lpW_ind (Wp := fun z => ∀ (H : Heap) (locs : List Loc) (ls : Array Slot), va_P (dC, dI) vwCl (cw_M_fill cI a_this a_sizes a_counts a_costs a_froms a_xs a_ys a_colours a_layersOf a_areas a_used a_cornerAt a_firsts a_manys a_fs a_px a_py a_groups a_joinF n_sizes n_counts n_costs n_froms n_xs n_ys c_code c_width c_height c_isTraced c_outlines c_points c_hasPolygon c_of c_corners c_costSum c_hasCurves c_curveCount c_sharp c_allowed f_sizes z.2.1 z.2.2 f_froms f_xs f_ys) H → va_D A (cw_M_fill cI a_this a_sizes a_counts a_costs a_froms a_xs a_ys a_colours a_layersOf a_areas a_used a_cornerAt a_firsts a_manys a_fs a_px a_py a_groups a_joinF n_sizes n_counts n_costs n_froms n_xs n_ys c_code c_width c_height c_isTraced c_outlines c_points c_hasPolygon c_of c_corners c_costSum c_hasCurves c_curveCount c_sharp c_allowed f_sizes z.2.1 z.2.2 f_froms f_xs f_ys) → va_S A s.heap H locs → lv_has ls 14 [(0, .ref a_this), (1, .int x1), (2, .int x2), (3, .int x3), (4, .int x4_6), (5, .int x5_12), (6, .int x6_l75), (7, .int z.1)] → W p l e (headSpec w_M_fill ({ frames := 2, cells := 0, slots := 0, locals := 62 })).room s m ([.ref a_this, .int x1, .int x2, .int x3] : List Value).toArray below meth c H locs 0 0 Qf (F0 m 130 ls [])) h ?_ _ _ _ hP hD hS (lv_sub hl [1, 2, 3, 4, 5, 6, 7, 0] rfl)
        rintro ⟨x7_l130, f_counts_l130, f_costs_l130⟩ back130 h hb130 H locs ls hP hD hS hl
        have h : wp_M_fill_L130 n_sizes n_counts n_costs n_froms n_xs n_ys f_sizes f_froms f_xs f_ys x1 x2 x3 x4_6 x5_12 x6_l75 back75 post back130 x7_l130 f_counts_l130 f_costs_l130 := h
        have hP : va_P (dC, dI) vwCl (cw_M_fill cI a_this a_sizes a_counts a_costs a_froms a_xs a_ys a_colours a_layersOf a_areas a_used a_cornerAt a_firsts a_manys a_fs a_px a_py a_groups a_joinF n_sizes n_counts n_costs n_froms n_xs n_ys c_code c_width c_height c_isTraced c_outlines c_points c_hasPolygon c_of c_corners c_costSum c_hasCurves c_curveCount c_sharp c_allowed f_sizes f_counts_l130 f_costs_l130 f_froms f_xs f_ys) H := hP
        have hD : va_D A (cw_M_fill cI a_this a_sizes a_counts a_costs a_froms a_xs a_ys a_colours a_layersOf a_areas a_used a_cornerAt a_firsts a_manys a_fs a_px a_py a_groups a_joinF n_sizes n_counts n_costs n_froms n_xs n_ys c_code c_width c_height c_isTraced c_outlines c_points c_hasPolygon c_of c_corners c_costSum c_hasCurves c_curveCount c_sharp c_allowed f_sizes f_counts_l130 f_costs_l130 f_froms f_xs f_ys) := hD
        have hl : lv_has ls 14 [(0, .ref a_this), (1, .int x1), (2, .int x2), (3, .int x3), (4, .int x4_6), (5, .int x5_12), (6, .int x6_l75), (7, .int x7_l130)] := hl
        unfold wp_M_fill_L130 at h
        have J331 : ∀ (x7_j331 : Int32) (f_counts_j331 : Nat → Int32) (f_costs_j331 : Nat → Int32) (H : Heap) (locs : List Loc) (ls : Array Slot), wp_M_fill_J331 n_sizes n_counts n_costs n_froms n_xs n_ys f_sizes f_froms f_xs f_ys f_counts_j331 f_costs_j331 x1 x2 x3 x4_6 x5_12 x6_l75 x7_j331 back75 back130 post → va_P (dC, dI) vwCl (cw_M_fill cI a_this a_sizes a_counts a_costs a_froms a_xs a_ys a_colours a_layersOf a_areas a_used a_cornerAt a_firsts a_manys a_fs a_px a_py a_groups a_joinF n_sizes n_counts n_costs n_froms n_xs n_ys c_code c_width c_height c_isTraced c_outlines c_points c_hasPolygon c_of c_corners c_costSum c_hasCurves c_curveCount c_sharp c_allowed f_sizes f_counts_j331 f_costs_j331 f_froms f_xs f_ys) H → va_D A (cw_M_fill cI a_this a_sizes a_counts a_costs a_froms a_xs a_ys a_colours a_layersOf a_areas a_used a_cornerAt a_firsts a_manys a_fs a_px a_py a_groups a_joinF n_sizes n_counts n_costs n_froms n_xs n_ys c_code c_width c_height c_isTraced c_outlines c_points c_hasPolygon c_of c_corners c_costSum c_hasCurves c_curveCount c_sharp c_allowed f_sizes f_counts_j331 f_costs_j331 f_froms f_xs f_ys) → va_S A s.heap H locs → lv_has ls 14 [(0, .ref a_this), (1, .int x1), (2, .int x2), (3, .int x3), (4, .int x4_6), (5, .int x5_12), (6, .int x6_l75), (7, .int x7_j331)] → W p l e (headSpec w_M_fill ({ frames := 2, cells := 0, slots := 0, locals := 62 })).room s m ([.ref a_this, .int x1, .int x2, .int x3] : List Value).toArray below meth c H locs 0 0 Qf (F0 m 331 ls []) := by
          intro x7_j331 f_counts_j331 f_costs_j331 H locs ls h hP hD hS hl
          unfold wp_M_fill_J331 at h
          obtain ⟨x7_331, e_x7_331⟩ : ∃ y : Int32, y = x7_j331 + (1 : Int32) := ⟨_, rfl⟩
          have h := h x7_331 e_x7_331
          refine lv_iinc (v := x7_331) (lv' := [(7, .int x7_331), (0, .ref a_this), (1, .int x1), (2, .int x2), (3, .int x3), (4, .int x4_6), (5, .int x5_12), (6, .int x6_l75)]) hx hb d_M_fill_331 hl (k := 7) rfl (by rw [e_x7_331]; rfl) (by decide) rfl (fun ls hl => ?_)
          refine lv_goto (tgt := 130) hx hb d_M_fill_334 (by decide) ?_
          exact hb130 _ h _ _ _ hP hD hS (lv_sub hl [1, 2, 3, 4, 5, 6, 7, 0] rfl)
        have J191 : ∀ (x7_j191 : Int32) (x8_j191 : Int32) (y0_j191 : Int32) (f_counts_j191 : Nat → Int32) (f_costs_j191 : Nat → Int32) (H : Heap) (locs : List Loc) (ls : Array Slot), wp_M_fill_J191 n_sizes n_counts n_costs n_froms n_xs n_ys f_sizes f_froms f_xs f_ys f_counts_j191 f_costs_j191 x1 x2 x3 x4_6 x5_12 x6_l75 x7_j191 x8_j191 y0_j191 back75 back130 post → va_P (dC, dI) vwCl (cw_M_fill cI a_this a_sizes a_counts a_costs a_froms a_xs a_ys a_colours a_layersOf a_areas a_used a_cornerAt a_firsts a_manys a_fs a_px a_py a_groups a_joinF n_sizes n_counts n_costs n_froms n_xs n_ys c_code c_width c_height c_isTraced c_outlines c_points c_hasPolygon c_of c_corners c_costSum c_hasCurves c_curveCount c_sharp c_allowed f_sizes f_counts_j191 f_costs_j191 f_froms f_xs f_ys) H → va_D A (cw_M_fill cI a_this a_sizes a_counts a_costs a_froms a_xs a_ys a_colours a_layersOf a_areas a_used a_cornerAt a_firsts a_manys a_fs a_px a_py a_groups a_joinF n_sizes n_counts n_costs n_froms n_xs n_ys c_code c_width c_height c_isTraced c_outlines c_points c_hasPolygon c_of c_corners c_costSum c_hasCurves c_curveCount c_sharp c_allowed f_sizes f_counts_j191 f_costs_j191 f_froms f_xs f_ys) → va_S A s.heap H locs → lv_has ls 14 [(0, .ref a_this), (1, .int x1), (2, .int x2), (3, .int x3), (4, .int x4_6), (5, .int x5_12), (6, .int x6_l75), (7, .int x7_j191), (8, .int x8_j191)] → W p l e (headSpec w_M_fill ({ frames := 2, cells := 0, slots := 0, locals := 62 })).room s m ([.ref a_this, .int x1, .int x2, .int x3] : List Value).toArray below meth c H locs 0 0 Qf (F0 m 191 ls [.int y0_j191]) := by
          intro x7_j191 x8_j191 y0_j191 f_counts_j191 f_costs_j191 H locs ls h hP hD hS hl
          unfold wp_M_fill_J191 at h
          refine lv_istore (lv' := [(10, .int y0_j191), (0, .ref a_this), (1, .int x1), (2, .int x2), (3, .int x3), (4, .int x4_6), (5, .int x5_12), (6, .int x6_l75), (7, .int x7_j191), (8, .int x8_j191)]) hx hb d_M_fill_191 hl (by decide) rfl (fun ls hl => ?_)
          refine lv_iconst (v := 0) hx hb d_M_fill_193 (by decide) ?_
          refine lv_istore (lv' := [(11, .int (0 : Int32)), (10, .int y0_j191), (0, .ref a_this), (1, .int x1), (2, .int x2), (3, .int x3), (4, .int x4_6), (5, .int x5_12), (6, .int x6_l75), (7, .int x7_j191), (8, .int x8_j191)]) hx hb d_M_fill_194 hl (by decide) rfl (fun ls hl => ?_)
          refine lpW_ind (Wp := fun z => ∀ (H : Heap) (locs : List Loc) (ls : Array Slot), va_P (dC, dI) vwCl (cw_M_fill cI a_this a_sizes a_counts a_costs a_froms a_xs a_ys a_colours a_layersOf a_areas a_used a_cornerAt a_firsts a_manys a_fs a_px a_py a_groups a_joinF n_sizes n_counts n_costs n_froms n_xs n_ys c_code c_width c_height c_isTraced c_outlines c_points c_hasPolygon c_of c_corners c_costSum c_hasCurves c_curveCount c_sharp c_allowed f_sizes z.2.1 z.2.2 f_froms f_xs f_ys) H → va_D A (cw_M_fill cI a_this a_sizes a_counts a_costs a_froms a_xs a_ys a_colours a_layersOf a_areas a_used a_cornerAt a_firsts a_manys a_fs a_px a_py a_groups a_joinF n_sizes n_counts n_costs n_froms n_xs n_ys c_code c_width c_height c_isTraced c_outlines c_points c_hasPolygon c_of c_corners c_costSum c_hasCurves c_curveCount c_sharp c_allowed f_sizes z.2.1 z.2.2 f_froms f_xs f_ys) → va_S A s.heap H locs → lv_has ls 14 [(0, .ref a_this), (1, .int x1), (2, .int x2), (3, .int x3), (4, .int x4_6), (5, .int x5_12), (6, .int x6_l75), (7, .int x7_j191), (8, .int x8_j191), (10, .int y0_j191), (11, .int z.1)] → W p l e (headSpec w_M_fill ({ frames := 2, cells := 0, slots := 0, locals := 62 })).room s m ([.ref a_this, .int x1, .int x2, .int x3] : List Value).toArray below meth c H locs 0 0 Qf (F0 m 196 ls [])) h ?_ _ _ _ hP hD hS (lv_sub hl [2, 3, 4, 5, 6, 7, 8, 9, 10, 1, 0] rfl)
          rintro ⟨x11_l196, f_counts_l196, f_costs_l196⟩ back196 h hb196 H locs ls hP hD hS hl
          have h : wp_M_fill_L196 n_sizes n_counts n_costs n_froms n_xs n_ys f_sizes f_froms f_xs f_ys x1 x2 x3 x4_6 x5_12 x6_l75 x7_j191 x8_j191 y0_j191 back75 back130 post back196 x11_l196 f_counts_l196 f_costs_l196 := h
          have hP : va_P (dC, dI) vwCl (cw_M_fill cI a_this a_sizes a_counts a_costs a_froms a_xs a_ys a_colours a_layersOf a_areas a_used a_cornerAt a_firsts a_manys a_fs a_px a_py a_groups a_joinF n_sizes n_counts n_costs n_froms n_xs n_ys c_code c_width c_height c_isTraced c_outlines c_points c_hasPolygon c_of c_corners c_costSum c_hasCurves c_curveCount c_sharp c_allowed f_sizes f_counts_l196 f_costs_l196 f_froms f_xs f_ys) H := hP
          have hD : va_D A (cw_M_fill cI a_this a_sizes a_counts a_costs a_froms a_xs a_ys a_colours a_layersOf a_areas a_used a_cornerAt a_firsts a_manys a_fs a_px a_py a_groups a_joinF n_sizes n_counts n_costs n_froms n_xs n_ys c_code c_width c_height c_isTraced c_outlines c_points c_hasPolygon c_of c_corners c_costSum c_hasCurves c_curveCount c_sharp c_allowed f_sizes f_counts_l196 f_costs_l196 f_froms f_xs f_ys) := hD
          have hl : lv_has ls 14 [(0, .ref a_this), (1, .int x1), (2, .int x2), (3, .int x3), (4, .int x4_6), (5, .int x5_12), (6, .int x6_l75), (7, .int x7_j191), (8, .int x8_j191), (10, .int y0_j191), (11, .int x11_l196)] := hl
          unfold wp_M_fill_L196 at h
          have J325 : ∀ (x11_j325 : Int32) (f_counts_j325 : Nat → Int32) (f_costs_j325 : Nat → Int32) (H : Heap) (locs : List Loc) (ls : Array Slot), wp_M_fill_J325 n_sizes n_counts n_costs n_froms n_xs n_ys f_sizes f_froms f_xs f_ys f_counts_j325 f_costs_j325 x1 x2 x3 x4_6 x5_12 x6_l75 x7_j191 x8_j191 y0_j191 x11_j325 back75 back196 back130 post → va_P (dC, dI) vwCl (cw_M_fill cI a_this a_sizes a_counts a_costs a_froms a_xs a_ys a_colours a_layersOf a_areas a_used a_cornerAt a_firsts a_manys a_fs a_px a_py a_groups a_joinF n_sizes n_counts n_costs n_froms n_xs n_ys c_code c_width c_height c_isTraced c_outlines c_points c_hasPolygon c_of c_corners c_costSum c_hasCurves c_curveCount c_sharp c_allowed f_sizes f_counts_j325 f_costs_j325 f_froms f_xs f_ys) H → va_D A (cw_M_fill cI a_this a_sizes a_counts a_costs a_froms a_xs a_ys a_colours a_layersOf a_areas a_used a_cornerAt a_firsts a_manys a_fs a_px a_py a_groups a_joinF n_sizes n_counts n_costs n_froms n_xs n_ys c_code c_width c_height c_isTraced c_outlines c_points c_hasPolygon c_of c_corners c_costSum c_hasCurves c_curveCount c_sharp c_allowed f_sizes f_counts_j325 f_costs_j325 f_froms f_xs f_ys) → va_S A s.heap H locs → lv_has ls 14 [(0, .ref a_this), (1, .int x1), (2, .int x2), (3, .int x3), (4, .int x4_6), (5, .int x5_12), (6, .int x6_l75), (7, .int x7_j191), (8, .int x8_j191), (10, .int y0_j191), (11, .int x11_j325)] → W p l e (headSpec w_M_fill ({ frames := 2, cells := 0, slots := 0, locals := 62 })).room s m ([.ref a_this, .int x1, .int x2, .int x3] : List Value).toArray below meth c H locs 0 0 Qf (F0 m 325 ls []) := by
            intro x11_j325 f_counts_j325 f_costs_j325 H locs ls h hP hD hS hl
            unfold wp_M_fill_J325 at h
            obtain ⟨x11_325, e_x11_325⟩ : ∃ y : Int32, y = x11_j325 + (1 : Int32) := ⟨_, rfl⟩
            have h := h x11_325 e_x11_325
            refine lv_iinc (v := x11_325) (lv' := [(11, .int x11_325), (0, .ref a_this), (1, .int x1), (2, .int x2), (3, .int x3), (4, .int x4_6), (5, .int x5_12), (6, .int x6_l75), (7, .int x7_j191), (8, .int x8_j191), (10, .int y0_j191)]) hx hb d_M_fill_325 hl (k := 10) rfl (by rw [e_x11_325]; rfl) (by decide) rfl (fun ls hl => ?_)
            refine lv_goto (tgt := 196) hx hb d_M_fill_328 (by decide) ?_
            exact hb196 _ h _ _ _ hP hD hS (lv_sub hl [1, 2, 3, 4, 5, 6, 7, 8, 9, 10, 0] rfl)
          have J224 : ∀ (x11_j224 : Int32) (y0_j224 : Int32) (y1_j224 : Int32) (f_counts_j224 : Nat → Int32) (f_costs_j224 : Nat → Int32) (H : Heap) (locs : List Loc) (ls : Array Slot), wp_M_fill_J224 n_sizes n_counts n_costs n_froms n_xs n_ys f_sizes f_froms f_xs f_ys f_counts_j224 f_costs_j224 x1 x2 x3 x4_6 x5_12 x6_l75 x7_j191 x8_j191 y0_j191 x11_j224 y0_j224 y1_j224 back75 back196 back130 post → va_P (dC, dI) vwCl (cw_M_fill cI a_this a_sizes a_counts a_costs a_froms a_xs a_ys a_colours a_layersOf a_areas a_used a_cornerAt a_firsts a_manys a_fs a_px a_py a_groups a_joinF n_sizes n_counts n_costs n_froms n_xs n_ys c_code c_width c_height c_isTraced c_outlines c_points c_hasPolygon c_of c_corners c_costSum c_hasCurves c_curveCount c_sharp c_allowed f_sizes f_counts_j224 f_costs_j224 f_froms f_xs f_ys) H → va_D A (cw_M_fill cI a_this a_sizes a_counts a_costs a_froms a_xs a_ys a_colours a_layersOf a_areas a_used a_cornerAt a_firsts a_manys a_fs a_px a_py a_groups a_joinF n_sizes n_counts n_costs n_froms n_xs n_ys c_code c_width c_height c_isTraced c_outlines c_points c_hasPolygon c_of c_corners c_costSum c_hasCurves c_curveCount c_sharp c_allowed f_sizes f_counts_j224 f_costs_j224 f_froms f_xs f_ys) → va_S A s.heap H locs → lv_has ls 14 [(0, .ref a_this), (1, .int x1), (2, .int x2), (3, .int x3), (4, .int x4_6), (5, .int x5_12), (6, .int x6_l75), (7, .int x7_j191), (8, .int x8_j191), (10, .int y0_j191), (11, .int x11_j224)] → W p l e (headSpec w_M_fill ({ frames := 2, cells := 0, slots := 0, locals := 62 })).room s m ([.ref a_this, .int x1, .int x2, .int x3] : List Value).toArray below meth c H locs 0 0 Qf (F0 m 224 ls [.int y0_j224, .int y1_j224]) := by
            intro x11_j224 y0_j224 y1_j224 f_counts_j224 f_costs_j224 H locs ls h hP hD hS hl
            unfold wp_M_fill_J224 at h
            refine lv_imul hx hb d_M_fill_224 ?_
            refine lv_iload hx hb d_M_fill_225 (lv_at hl 8 rfl) ?_
            refine lv_iadd hx hb d_M_fill_227 ?_
            refine lv_topi (fun x12_228 e_x12_228 => ?_)
            have h := h x12_228 e_x12_228
            refine lv_istore (lv' := [(12, .int x12_228), (0, .ref a_this), (1, .int x1), (2, .int x2), (3, .int x3), (4, .int x4_6), (5, .int x5_12), (6, .int x6_l75), (7, .int x7_j191), (8, .int x8_j191), (10, .int y0_j191), (11, .int x11_j224)]) hx hb d_M_fill_228 hl (by decide) rfl (fun ls hl => ?_)
            refine lv_sipush (v := 600) hx hb d_M_fill_230 (by decide) ?_
            refine lv_iload hx hb d_M_fill_233 (lv_at hl 11 rfl) ?_
            refine lv_imul hx hb d_M_fill_235 ?_
            refine lv_iload hx hb d_M_fill_236 (lv_at hl 7 rfl) ?_
            refine lv_iadd hx hb d_M_fill_238 ?_
            refine lv_topi (fun x13_239 e_x13_239 => ?_)
            have h := h x13_239 e_x13_239
            refine lv_istore (lv' := [(13, .int x13_239), (12, .int x12_228), (0, .ref a_this), (1, .int x1), (2, .int x2), (3, .int x3), (4, .int x4_6), (5, .int x5_12), (6, .int x6_l75), (7, .int x7_j191), (8, .int x8_j191), (10, .int y0_j191), (11, .int x11_j224)]) hx hb d_M_fill_239 hl (by decide) rfl (fun ls hl => ?_)
            refine lv_aload_n hx hb d_M_fill_241 rfl (lv_at hl 2 rfl) ?_
            refine va_get (D := (dC, dI)) (ci := 5) (v := .ref a_counts) (C := R_M) (T := F_M) (N := 32) hx hb hts i_M_in hown hK hP 0 rfl rfl 19 (by decide) (hts _ q_680) (fun _ h9 => h9) rfl d_M_fill_242 ?_
            refine lv_iload hx hb d_M_fill_245 (lv_at hl 1 rfl) ?_
            obtain ⟨hin, h⟩ := h
            refine va_iald hx hb hK hP 2 0 rfl rfl hin d_M_fill_247 ?_
            refine lv_ldc (v := 1000000000) hx hb hown (hts _ q_858) d_M_fill_248 ?_
            refine lv_icmp_ge (tgt := 325) hx hb d_M_fill_250 (by decide) (fun cc_ => ?_) (fun cc_ => ?_)
            · have h := h.1 cc_
              exact J325 x11_j224 f_counts_j224 f_costs_j224 _ _ _ h hP hD hS (lv_sub hl [2, 3, 4, 5, 6, 7, 8, 9, 10, 11, 12] rfl)
            · have h := h.2 cc_
              refine lv_aload_n hx hb d_M_fill_253 rfl (lv_at hl 2 rfl) ?_
              refine va_get (D := (dC, dI)) (ci := 5) (v := .ref a_counts) (C := R_M) (T := F_M) (N := 32) hx hb hts i_M_in hown hK hP 0 rfl rfl 19 (by decide) (hts _ q_680) (fun _ h9 => h9) rfl d_M_fill_254 ?_
              refine lv_iload hx hb d_M_fill_257 (lv_at hl 1 rfl) ?_
              obtain ⟨hin, h⟩ := h
              refine va_iald hx hb hK hP 2 0 rfl rfl hin d_M_fill_259 ?_
              refine lv_iconst (v := 1) hx hb d_M_fill_260 (by decide) ?_
              refine lv_iadd hx hb d_M_fill_261 ?_
              refine lv_aload_n hx hb d_M_fill_262 rfl (lv_at hl 2 rfl) ?_
              refine va_get (D := (dC, dI)) (ci := 5) (v := .ref a_costs) (C := R_M) (T := F_M) (N := 32) hx hb hts i_M_in hown hK hP 0 rfl rfl 20 (by decide) (hts _ q_681) (fun _ h9 => h9) rfl d_M_fill_263 ?_
              refine lv_iload hx hb d_M_fill_266 (lv_at hl 1 rfl) ?_
              obtain ⟨hin, h⟩ := h
              refine va_iald hx hb hK hP 3 0 rfl rfl hin d_M_fill_268 ?_
              refine lv_iload hx hb d_M_fill_269 (lv_at hl 11 rfl) ?_
              refine lv_iadd hx hb d_M_fill_271 ?_
              refine lv_aload_n hx hb d_M_fill_272 rfl (lv_at hl 2 rfl) ?_
              refine va_get (D := (dC, dI)) (ci := 5) (v := .ref a_counts) (C := R_M) (T := F_M) (N := 32) hx hb hts i_M_in hown hK hP 0 rfl rfl 19 (by decide) (hts _ q_680) (fun _ h9 => h9) rfl d_M_fill_273 ?_
              refine lv_iload hx hb d_M_fill_276 (lv_at hl 0 rfl) ?_
              obtain ⟨hin, h⟩ := h
              refine va_iald hx hb hK hP 2 0 rfl rfl hin d_M_fill_278 ?_
              refine lv_aload_n hx hb d_M_fill_279 rfl (lv_at hl 2 rfl) ?_
              refine va_get (D := (dC, dI)) (ci := 5) (v := .ref a_costs) (C := R_M) (T := F_M) (N := 32) hx hb hts i_M_in hown hK hP 0 rfl rfl 20 (by decide) (hts _ q_681) (fun _ h9 => h9) rfl d_M_fill_280 ?_
              refine lv_iload hx hb d_M_fill_283 (lv_at hl 0 rfl) ?_
              obtain ⟨hin, h⟩ := h
              refine va_iald hx hb hK hP 3 0 rfl rfl hin d_M_fill_285 ?_
              obtain ⟨Q286, hq286, h⟩ := h
              have hPc := hP.sub (ws' := (cw_M_isLess)) [] rfl
              have hDc := hD.sub (ws' := (cw_M_isLess)) [] (by decide) rfl
              have hFc := va_free (wc := (cw_M_isLess)) hD hS hA [] rfl
              refine va_calli (va_runS (As := [.int ((f_counts_j224 x12_228.toNatClampNeg) + (1 : Int32)), .int ((f_costs_j224 x12_228.toNatClampNeg) + y0_j191), .int (f_counts_j224 x13_239.toNatClampNeg), .int (f_costs_j224 x13_239.toNatClampNeg)]) (rest := []) ⟨hx, hb, hml, hown, hts⟩ (c_M_isLess l dC dI cI cB cJ cZ H.size ((f_counts_j224 x12_228.toNatClampNeg) + (1 : Int32)) ((f_costs_j224 x12_228.toNatClampNeg) + y0_j191) (f_counts_j224 x13_239.toNatClampNeg) (f_costs_j224 x13_239.toNatClampNeg) Q286 hq286) (va_cwS 4 hts (goodS q_863 q_864 q_7 q_865) rfl rfl rfl (by decide +kernel) ⟨Nat.le_of_ble_eq_true rfl, Nat.le_of_ble_eq_true rfl⟩) ⟨fun a U g mk q => by obtain ⟨q0, q1, qP, qK, qD⟩ := q; exact ⟨q0, q1, qP, va_K.moved (u := U) (U := U.calling g mk a) (Vm.Alike.refl U.vm) qK, qD⟩, fun U hU hW => ⟨rfl, by rw [hU], by rw [hU]; exact hPc, va_K.moved hW.alike hK, hDc.weaken (fun _ _ _ _ => trivial)⟩⟩ rfl rfl hl.1 rfl (lv_room (Nat.le_of_ble_eq_true rfl)) d_M_fill_286 ⟨Nat.le_of_ble_eq_true rfl, Nat.le_of_ble_eq_true rfl⟩) hS (fun q _ h => hFc q h) hFc (fun r286 u286 t H1 locs ht hvm hw hB hz1 hk1 hS => ?_)
              cases u286
              obtain ⟨hP1, -, hD1⟩ := hB
              rw [ht] at hP1
              have h := h r286 hw
              obtain ⟨hP, hD⟩ := va_join (wr := [(a_this, .inr (5, [.int c_code, .int c_width, .int c_height, .ref a_colours, .int c_isTraced, .int c_outlines, .ref a_froms, .ref a_sizes, .ref a_layersOf, .ref a_areas, .int c_points, .ref a_xs, .ref a_ys, .ref a_used, .int c_hasPolygon, .int c_of, .int c_corners, .int c_costSum, .ref a_cornerAt, .ref a_counts, .ref a_costs, .int c_hasCurves, .int c_curveCount, .ref a_firsts, .ref a_manys, .ref a_fs, .int c_sharp, .int c_allowed, .ref a_px, .ref a_py, .ref a_groups, .ref a_joinF])), (a_sizes, .inl (cI, n_sizes, .inl f_sizes)), (a_counts, .inl (cI, n_counts, .inl f_counts_j224)), (a_costs, .inl (cI, n_costs, .inl f_costs_j224)), (a_froms, .inl (cI, n_froms, .inl f_froms)), (a_xs, .inl (cI, n_xs, .inl f_xs)), (a_ys, .inl (cI, n_ys, .inl f_ys))]) (w1 := (cw_M_isLess)) hP hD [] [0, 1, 2, 3, 4, 5, 6] rfl rfl (by decide) (by decide) hk1 hFc hP1 hD1
              clear hP1 hD1 hk1 hPc hDc hFc
              generalize H1 = H at hP hS ⊢
              have hP : va_P (dC, dI) vwCl (cw_M_fill cI a_this a_sizes a_counts a_costs a_froms a_xs a_ys a_colours a_layersOf a_areas a_used a_cornerAt a_firsts a_manys a_fs a_px a_py a_groups a_joinF n_sizes n_counts n_costs n_froms n_xs n_ys c_code c_width c_height c_isTraced c_outlines c_points c_hasPolygon c_of c_corners c_costSum c_hasCurves c_curveCount c_sharp c_allowed f_sizes f_counts_j224 f_costs_j224 f_froms f_xs f_ys) H := hP.sub [0, 1, 2, 3, 4, 5, 6] rfl
              have hD : va_D A (cw_M_fill cI a_this a_sizes a_counts a_costs a_froms a_xs a_ys a_colours a_layersOf a_areas a_used a_cornerAt a_firsts a_manys a_fs a_px a_py a_groups a_joinF n_sizes n_counts n_costs n_froms n_xs n_ys c_code c_width c_height c_isTraced c_outlines c_points c_hasPolygon c_of c_corners c_costSum c_hasCurves c_curveCount c_sharp c_allowed f_sizes f_counts_j224 f_costs_j224 f_froms f_xs f_ys) := hD.sub [0, 1, 2, 3, 4, 5, 6] (by decide) rfl
              refine lv_if_eq (tgt := 325) hx hb d_M_fill_289 (by decide) (fun cc_ => ?_) (fun cc_ => ?_)
              · have h := h.1 cc_
                exact J325 x11_j224 f_counts_j224 f_costs_j224 _ _ _ h hP hD hS (lv_sub hl [2, 3, 4, 5, 6, 7, 8, 9, 10, 11, 12] rfl)
              · have h := h.2 cc_
                refine lv_aload_n hx hb d_M_fill_292 rfl (lv_at hl 2 rfl) ?_
                refine va_get (D := (dC, dI)) (ci := 5) (v := .ref a_counts) (C := R_M) (T := F_M) (N := 32) hx hb hts i_M_in hown hK hP 0 rfl rfl 19 (by decide) (hts _ q_680) (fun _ h9 => h9) rfl d_M_fill_293 ?_
                refine lv_iload hx hb d_M_fill_296 (lv_at hl 0 rfl) ?_
                refine lv_aload_n hx hb d_M_fill_298 rfl (lv_at hl 2 rfl) ?_
                refine va_get (D := (dC, dI)) (ci := 5) (v := .ref a_counts) (C := R_M) (T := F_M) (N := 32) hx hb hts i_M_in hown hK hP 0 rfl rfl 19 (by decide) (hts _ q_680) (fun _ h9 => h9) rfl d_M_fill_299 ?_
                refine lv_iload hx hb d_M_fill_302 (lv_at hl 1 rfl) ?_
                obtain ⟨hin, h⟩ := h
                refine va_iald hx hb hK hP 2 0 rfl rfl hin d_M_fill_304 ?_
                refine lv_iconst (v := 1) hx hb d_M_fill_305 (by decide) ?_
                refine lv_iadd hx hb d_M_fill_306 ?_
                obtain ⟨hin, h⟩ := h
                refine va_iast hx hb hK hP hD hS 2 0 rfl rfl hin d_M_fill_307 (fun H locs hP hD hS => ?_)
                obtain ⟨f307, e_f307⟩ : ∃ y : Nat → Int32, y = upd f_counts_j224 x13_239.toNatClampNeg ((f_counts_j224 x12_228.toNatClampNeg) + (1 : Int32)) := ⟨_, rfl⟩
                have h := h f307 e_f307
                have hP : va_P (dC, dI) vwCl (cw_M_fill cI a_this a_sizes a_counts a_costs a_froms a_xs a_ys a_colours a_layersOf a_areas a_used a_cornerAt a_firsts a_manys a_fs a_px a_py a_groups a_joinF n_sizes n_counts n_costs n_froms n_xs n_ys c_code c_width c_height c_isTraced c_outlines c_points c_hasPolygon c_of c_corners c_costSum c_hasCurves c_curveCount c_sharp c_allowed f_sizes f307 f_costs_j224 f_froms f_xs f_ys) H := by rw [e_f307]; exact hP
                have hD : va_D A (cw_M_fill cI a_this a_sizes a_counts a_costs a_froms a_xs a_ys a_colours a_layersOf a_areas a_used a_cornerAt a_firsts a_manys a_fs a_px a_py a_groups a_joinF n_sizes n_counts n_costs n_froms n_xs n_ys c_code c_width c_height c_isTraced c_outlines c_points c_hasPolygon c_of c_corners c_costSum c_hasCurves c_curveCount c_sharp c_allowed f_sizes f307 f_costs_j224 f_froms f_xs f_ys) := by rw [e_f307]; exact hD
                refine lv_aload_n hx hb d_M_fill_308 rfl (lv_at hl 2 rfl) ?_
                refine va_get (D := (dC, dI)) (ci := 5) (v := .ref a_costs) (C := R_M) (T := F_M) (N := 32) hx hb hts i_M_in hown hK hP 0 rfl rfl 20 (by decide) (hts _ q_681) (fun _ h9 => h9) rfl d_M_fill_309 ?_
                refine lv_iload hx hb d_M_fill_312 (lv_at hl 0 rfl) ?_
                refine lv_aload_n hx hb d_M_fill_314 rfl (lv_at hl 2 rfl) ?_
                refine va_get (D := (dC, dI)) (ci := 5) (v := .ref a_costs) (C := R_M) (T := F_M) (N := 32) hx hb hts i_M_in hown hK hP 0 rfl rfl 20 (by decide) (hts _ q_681) (fun _ h9 => h9) rfl d_M_fill_315 ?_
                refine lv_iload hx hb d_M_fill_318 (lv_at hl 1 rfl) ?_
                obtain ⟨hin, h⟩ := h
                refine va_iald hx hb hK hP 3 0 rfl rfl hin d_M_fill_320 ?_
                refine lv_iload hx hb d_M_fill_321 (lv_at hl 11 rfl) ?_
                refine lv_iadd hx hb d_M_fill_323 ?_
                obtain ⟨hin, h⟩ := h
                refine va_iast hx hb hK hP hD hS 3 0 rfl rfl hin d_M_fill_324 (fun H locs hP hD hS => ?_)
                obtain ⟨f324, e_f324⟩ : ∃ y : Nat → Int32, y = upd f_costs_j224 x13_239.toNatClampNeg ((f_costs_j224 x12_228.toNatClampNeg) + y0_j191) := ⟨_, rfl⟩
                have h := h f324 e_f324
                have hP : va_P (dC, dI) vwCl (cw_M_fill cI a_this a_sizes a_counts a_costs a_froms a_xs a_ys a_colours a_layersOf a_areas a_used a_cornerAt a_firsts a_manys a_fs a_px a_py a_groups a_joinF n_sizes n_counts n_costs n_froms n_xs n_ys c_code c_width c_height c_isTraced c_outlines c_points c_hasPolygon c_of c_corners c_costSum c_hasCurves c_curveCount c_sharp c_allowed f_sizes f307 f324 f_froms f_xs f_ys) H := by rw [e_f324]; exact hP
                have hD : va_D A (cw_M_fill cI a_this a_sizes a_counts a_costs a_froms a_xs a_ys a_colours a_layersOf a_areas a_used a_cornerAt a_firsts a_manys a_fs a_px a_py a_groups a_joinF n_sizes n_counts n_costs n_froms n_xs n_ys c_code c_width c_height c_isTraced c_outlines c_points c_hasPolygon c_of c_corners c_costSum c_hasCurves c_curveCount c_sharp c_allowed f_sizes f307 f324 f_froms f_xs f_ys) := by rw [e_f324]; exact hD
                exact J325 x11_j224 f307 f324 _ _ _ h hP hD hS (lv_sub hl [2, 3, 4, 5, 6, 7, 8, 9, 10, 11, 12] rfl)
          refine lv_iload hx hb d_M_fill_196 (lv_at hl 10 rfl) ?_
          refine lv_iconst (v := 4) hx hb d_M_fill_198 (by decide) ?_
          refine lv_icmp_ge (tgt := 331) hx hb d_M_fill_199 (by decide) (fun cc_ => ?_) (fun cc_ => ?_)
          · have h := h.1 cc_
            exact J331 x7_j191 f_counts_l196 f_costs_l196 _ _ _ h hP hD hS (lv_sub hl [0, 1, 2, 3, 4, 5, 6, 7] rfl)
          · have h := h.2 cc_
            refine lv_iload hx hb d_M_fill_202 (lv_at hl 9 rfl) ?_
            refine lv_iconst (v := -1) hx hb d_M_fill_204 (by decide) ?_
            refine lv_icmp_eq (tgt := 331) hx hb d_M_fill_205 (by decide) (fun cc_ => ?_) (fun cc_ => ?_)
            · have h := h.1 cc_
              exact J331 x7_j191 f_counts_l196 f_costs_l196 _ _ _ h hP hD hS (lv_sub hl [0, 1, 2, 3, 4, 5, 6, 7] rfl)
            · have h := h.2 cc_
              refine lv_sipush (v := 600) hx hb d_M_fill_208 (by decide) ?_
              refine lv_iload hx hb d_M_fill_211 (lv_at hl 10 rfl) ?_
              refine lv_if_ne (tgt := 220) hx hb d_M_fill_213 (by decide) (fun cc_ => ?_) (fun cc_ => ?_)
              · have h := h.1 cc_
                refine lv_iload hx hb d_M_fill_220 (lv_at hl 10 rfl) ?_
                refine lv_iconst (v := 1) hx hb d_M_fill_222 (by decide) ?_
                refine lv_isub hx hb d_M_fill_223 ?_
                exact J224 x11_l196 (x11_l196 - (1 : Int32)) (600 : Int32) f_counts_l196 f_costs_l196 _ _ _ h hP hD hS (lv_sub hl [0, 1, 2, 3, 4, 5, 6, 7, 8, 9, 10] rfl)
              · have h := h.2 cc_
                refine lv_iconst (v := 0) hx hb d_M_fill_216 (by decide) ?_
                refine lv_goto (tgt := 224) hx hb d_M_fill_217 (by decide) ?_
                exact J224 x11_l196 (0 : Int32) (600 : Int32) f_counts_l196 f_costs_l196 _ _ _ h hP hD hS (lv_sub hl [0, 1, 2, 3, 4, 5, 6, 7, 8, 9, 10] rfl)
        have J170 : ∀ (x7_j170 : Int32) (x8_j170 : Int32) (y0_j170 : Int32) (f_counts_j170 : Nat → Int32) (f_costs_j170 : Nat → Int32) (H : Heap) (locs : List Loc) (ls : Array Slot), wp_M_fill_J170 n_sizes n_counts n_costs n_froms n_xs n_ys f_sizes f_froms f_xs f_ys f_counts_j170 f_costs_j170 x1 x2 x3 x4_6 x5_12 x6_l75 x7_j170 x8_j170 y0_j170 back75 back130 post → va_P (dC, dI) vwCl (cw_M_fill cI a_this a_sizes a_counts a_costs a_froms a_xs a_ys a_colours a_layersOf a_areas a_used a_cornerAt a_firsts a_manys a_fs a_px a_py a_groups a_joinF n_sizes n_counts n_costs n_froms n_xs n_ys c_code c_width c_height c_isTraced c_outlines c_points c_hasPolygon c_of c_corners c_costSum c_hasCurves c_curveCount c_sharp c_allowed f_sizes f_counts_j170 f_costs_j170 f_froms f_xs f_ys) H → va_D A (cw_M_fill cI a_this a_sizes a_counts a_costs a_froms a_xs a_ys a_colours a_layersOf a_areas a_used a_cornerAt a_firsts a_manys a_fs a_px a_py a_groups a_joinF n_sizes n_counts n_costs n_froms n_xs n_ys c_code c_width c_height c_isTraced c_outlines c_points c_hasPolygon c_of c_corners c_costSum c_hasCurves c_curveCount c_sharp c_allowed f_sizes f_counts_j170 f_costs_j170 f_froms f_xs f_ys) → va_S A s.heap H locs → lv_has ls 14 [(0, .ref a_this), (1, .int x1), (2, .int x2), (3, .int x3), (4, .int x4_6), (5, .int x5_12), (6, .int x6_l75), (7, .int x7_j170), (8, .int x8_j170)] → W p l e (headSpec w_M_fill ({ frames := 2, cells := 0, slots := 0, locals := 62 })).room s m ([.ref a_this, .int x1, .int x2, .int x3] : List Value).toArray below meth c H locs 0 0 Qf (F0 m 170 ls [.int y0_j170]) := by
          intro x7_j170 x8_j170 y0_j170 f_counts_j170 f_costs_j170 H locs ls h hP hD hS hl
          unfold wp_M_fill_J170 at h
          refine lv_istore (lv' := [(9, .int y0_j170), (0, .ref a_this), (1, .int x1), (2, .int x2), (3, .int x3), (4, .int x4_6), (5, .int x5_12), (6, .int x6_l75), (7, .int x7_j170), (8, .int x8_j170)]) hx hb d_M_fill_170 hl (by decide) rfl (fun ls hl => ?_)
          refine lv_iload hx hb d_M_fill_172 (lv_at hl 0 rfl) ?_
          refine lv_if_eq (tgt := 190) hx hb d_M_fill_174 (by decide) (fun cc_ => ?_) (fun cc_ => ?_)
          · have h := h.1 cc_
            refine lv_iconst (v := -1) hx hb d_M_fill_190 (by decide) ?_
            exact J191 x7_j170 x8_j170 (-1 : Int32) f_counts_j170 f_costs_j170 _ _ _ h hP hD hS (lv_sub hl [1, 2, 3, 4, 5, 6, 7, 8, 9] rfl)
          · have h := h.2 cc_
            refine lv_aload_n hx hb d_M_fill_177 rfl (lv_at hl 1 rfl) ?_
            refine lv_iload_n hx hb d_M_fill_178 rfl (lv_at hl 2 rfl) ?_
            refine lv_iload hx hb d_M_fill_179 (lv_at hl 7 rfl) ?_
            refine lv_iload hx hb d_M_fill_181 (lv_at hl 8 rfl) ?_
            refine lv_iload_n hx hb d_M_fill_183 rfl (lv_at hl 4 rfl) ?_
            obtain ⟨Q184, hq184, h⟩ := h
            have hPc := hP.sub (ws' := (cw_M_costOf cI a_this a_froms a_sizes a_xs a_ys a_colours a_layersOf a_areas a_used a_cornerAt a_counts a_costs a_firsts a_manys a_fs a_px a_py a_groups a_joinF n_froms n_sizes n_xs n_ys c_code c_width c_height c_isTraced c_outlines c_points c_hasPolygon c_of c_corners c_costSum c_hasCurves c_curveCount c_sharp c_allowed f_froms f_sizes f_xs f_ys)) [0, 4, 1, 5, 6] rfl
            have hDc := hD.sub (ws' := (cw_M_costOf cI a_this a_froms a_sizes a_xs a_ys a_colours a_layersOf a_areas a_used a_cornerAt a_counts a_costs a_firsts a_manys a_fs a_px a_py a_groups a_joinF n_froms n_sizes n_xs n_ys c_code c_width c_height c_isTraced c_outlines c_points c_hasPolygon c_of c_corners c_costSum c_hasCurves c_curveCount c_sharp c_allowed f_froms f_sizes f_xs f_ys)) [0, 4, 1, 5, 6] (by decide) rfl
            have hFc := va_free (wc := (cw_M_costOf cI a_this a_froms a_sizes a_xs a_ys a_colours a_layersOf a_areas a_used a_cornerAt a_counts a_costs a_firsts a_manys a_fs a_px a_py a_groups a_joinF n_froms n_sizes n_xs n_ys c_code c_width c_height c_isTraced c_outlines c_points c_hasPolygon c_of c_corners c_costSum c_hasCurves c_curveCount c_sharp c_allowed f_froms f_sizes f_xs f_ys)) hD hS hA [0, 4, 1, 5, 6] rfl
            refine va_calli (va_runV (As := [.int x1, .int x6_l75, .int x7_j170, .int x3]) (rest := []) ⟨hx, hb, hml, hown, hts⟩ (c_M_costOf l dC dI cI cB cJ cZ a_this a_froms a_sizes a_xs a_ys a_colours a_layersOf a_areas a_used a_cornerAt a_counts a_costs a_firsts a_manys a_fs a_px a_py a_groups a_joinF H.size n_froms n_sizes n_xs n_ys c_code c_width c_height c_isTraced c_outlines c_points c_hasPolygon c_of c_corners c_costSum c_hasCurves c_curveCount c_sharp c_allowed f_froms f_sizes f_xs f_ys x1 x6_l75 x7_j170 x3 Q184 hq184) (cwV 4 hts (goodV q_847 q_849 q_p42 q_7 q_850) rfl rfl rfl (by decide +kernel) ⟨Nat.le_of_ble_eq_true rfl, Nat.le_of_ble_eq_true rfl⟩) ⟨fun a U g mk q => by obtain ⟨q0, q1, qP, qK, qD⟩ := q; exact ⟨q0, q1, qP, va_K.moved (u := U) (U := U.calling g mk a) (Vm.Alike.refl U.vm) qK, qD⟩, va_recv hK hPc (ci := 5) (q0 := 0) rfl rfl, fun U hU hW => ⟨rfl, by rw [hU], by rw [hU]; exact hPc, va_K.moved hW.alike hK, hDc.weaken (fun _ _ _ _ => trivial)⟩⟩ rfl rfl hl.1 rfl (lv_room (Nat.le_of_ble_eq_true rfl)) d_M_fill_184 ⟨Nat.le_of_ble_eq_true rfl, Nat.le_of_ble_eq_true rfl⟩) hS (fun q _ h => hFc q h) hFc (fun r184 u184 t H1 locs ht hvm hw hB hz1 hk1 hS => ?_)
            cases u184
            obtain ⟨hP1, -, hD1⟩ := hB
            rw [ht] at hP1
            have h := h r184 hw
            obtain ⟨hP, hD⟩ := va_join (wr := [(a_counts, .inl (cI, n_counts, .inl f_counts_j170)), (a_costs, .inl (cI, n_costs, .inl f_costs_j170))]) (w1 := (cw_M_costOf cI a_this a_froms a_sizes a_xs a_ys a_colours a_layersOf a_areas a_used a_cornerAt a_counts a_costs a_firsts a_manys a_fs a_px a_py a_groups a_joinF n_froms n_sizes n_xs n_ys c_code c_width c_height c_isTraced c_outlines c_points c_hasPolygon c_of c_corners c_costSum c_hasCurves c_curveCount c_sharp c_allowed f_froms f_sizes f_xs f_ys)) hP hD [0, 4, 1, 5, 6] [2, 3] rfl rfl (by decide) (by decide) hk1 hFc hP1 hD1
            clear hP1 hD1 hk1 hPc hDc hFc
            generalize H1 = H at hP hS ⊢
            have hP : va_P (dC, dI) vwCl (cw_M_fill cI a_this a_sizes a_counts a_costs a_froms a_xs a_ys a_colours a_layersOf a_areas a_used a_cornerAt a_firsts a_manys a_fs a_px a_py a_groups a_joinF n_sizes n_counts n_costs n_froms n_xs n_ys c_code c_width c_height c_isTraced c_outlines c_points c_hasPolygon c_of c_corners c_costSum c_hasCurves c_curveCount c_sharp c_allowed f_sizes f_counts_j170 f_costs_j170 f_froms f_xs f_ys) H := hP.sub [2, 4, 0, 1, 3, 5, 6] rfl
            have hD : va_D A (cw_M_fill cI a_this a_sizes a_counts a_costs a_froms a_xs a_ys a_colours a_layersOf a_areas a_used a_cornerAt a_firsts a_manys a_fs a_px a_py a_groups a_joinF n_sizes n_counts n_costs n_froms n_xs n_ys c_code c_width c_height c_isTraced c_outlines c_points c_hasPolygon c_of c_corners c_costSum c_hasCurves c_curveCount c_sharp c_allowed f_sizes f_counts_j170 f_costs_j170 f_froms f_xs f_ys) := hD.sub [2, 4, 0, 1, 3, 5, 6] (by decide) rfl
            refine lv_goto (tgt := 191) hx hb d_M_fill_187 (by decide) ?_
            exact J191 x7_j170 x8_j170 r184 f_counts_j170 f_costs_j170 _ _ _ h hP hD hS (lv_sub hl [1, 2, 3, 4, 5, 6, 7, 8, 9] rfl)
        have J165 : ∀ (x7_j165 : Int32) (x8_j165 : Int32) (f_counts_j165 : Nat → Int32) (f_costs_j165 : Nat → Int32) (H : Heap) (locs : List Loc) (ls : Array Slot), wp_M_fill_J165 n_sizes n_counts n_costs n_froms n_xs n_ys f_sizes f_froms f_xs f_ys f_counts_j165 f_costs_j165 x1 x2 x3 x4_6 x5_12 x6_l75 x7_j165 x8_j165 back75 back130 post → va_P (dC, dI) vwCl (cw_M_fill cI a_this a_sizes a_counts a_costs a_froms a_xs a_ys a_colours a_layersOf a_areas a_used a_cornerAt a_firsts a_manys a_fs a_px a_py a_groups a_joinF n_sizes n_counts n_costs n_froms n_xs n_ys c_code c_width c_height c_isTraced c_outlines c_points c_hasPolygon c_of c_corners c_costSum c_hasCurves c_curveCount c_sharp c_allowed f_sizes f_counts_j165 f_costs_j165 f_froms f_xs f_ys) H → va_D A (cw_M_fill cI a_this a_sizes a_counts a_costs a_froms a_xs a_ys a_colours a_layersOf a_areas a_used a_cornerAt a_firsts a_manys a_fs a_px a_py a_groups a_joinF n_sizes n_counts n_costs n_froms n_xs n_ys c_code c_width c_height c_isTraced c_outlines c_points c_hasPolygon c_of c_corners c_costSum c_hasCurves c_curveCount c_sharp c_allowed f_sizes f_counts_j165 f_costs_j165 f_froms f_xs f_ys) → va_S A s.heap H locs → lv_has ls 14 [(0, .ref a_this), (1, .int x1), (2, .int x2), (3, .int x3), (4, .int x4_6), (5, .int x5_12), (6, .int x6_l75), (7, .int x7_j165), (8, .int x8_j165)] → W p l e (headSpec w_M_fill ({ frames := 2, cells := 0, slots := 0, locals := 62 })).room s m ([.ref a_this, .int x1, .int x2, .int x3] : List Value).toArray below meth c H locs 0 0 Qf (F0 m 165 ls []) := by
          intro x7_j165 x8_j165 f_counts_j165 f_costs_j165 H locs ls h hP hD hS hl
          unfold wp_M_fill_J165 at h
          refine lv_iconst (v := 1) hx hb d_M_fill_165 (by decide) ?_
          refine lv_goto (tgt := 170) hx hb d_M_fill_166 (by decide) ?_
          exact J170 x7_j165 x8_j165 (1 : Int32) f_counts_j165 f_costs_j165 _ _ _ h hP hD hS (lv_sub hl [0, 1, 2, 3, 4, 5, 6, 7, 8] rfl)
        refine lv_iload hx hb d_M_fill_130 (lv_at hl 7 rfl) ?_
        refine lv_bipush (v := 24) hx hb d_M_fill_132 (by decide) ?_
        refine lv_icmp_gt (tgt := 337) hx hb d_M_fill_134 (by decide) (fun cc_ => ?_) (fun cc_ => ?_)
        · have h := h.1 cc_
          exact J337 x6_l75 f_counts_l130 f_costs_l130 _ _ _ h hP hD hS (lv_sub hl [0, 1, 2, 3, 4, 5, 6] rfl)
        · have h := h.2 cc_
          refine lv_iload hx hb d_M_fill_137 (lv_at hl 6 rfl) ?_
          refine lv_iload hx hb d_M_fill_139 (lv_at hl 4 rfl) ?_
          refine lv_icmp_ge (tgt := 337) hx hb d_M_fill_141 (by decide) (fun cc_ => ?_) (fun cc_ => ?_)
          · have h := h.1 cc_
            exact J337 x6_l75 f_counts_l130 f_costs_l130 _ _ _ h hP hD hS (lv_sub hl [0, 1, 2, 3, 4, 5, 6] rfl)
          · have h := h.2 cc_
            refine lv_iload hx hb d_M_fill_144 (lv_at hl 6 rfl) ?_
            refine lv_iload hx hb d_M_fill_146 (lv_at hl 7 rfl) ?_
            refine lv_iadd hx hb d_M_fill_148 ?_
            refine lv_topi (fun x8_149 e_x8_149 => ?_)
            have h := h x8_149 e_x8_149
            refine lv_istore (lv' := [(8, .int x8_149), (0, .ref a_this), (1, .int x1), (2, .int x2), (3, .int x3), (4, .int x4_6), (5, .int x5_12), (6, .int x6_l75), (7, .int x7_l130)]) hx hb d_M_fill_149 hl (by decide) rfl (fun ls hl => ?_)
            refine lv_iload hx hb d_M_fill_151 (lv_at hl 0 rfl) ?_
            refine lv_iload hx hb d_M_fill_153 (lv_at hl 5 rfl) ?_
            refine lv_icmp_lt (tgt := 165) hx hb d_M_fill_155 (by decide) (fun cc_ => ?_) (fun cc_ => ?_)
            · have h := h.1 cc_
              exact J165 x7_l130 x8_149 f_counts_l130 f_costs_l130 _ _ _ h hP hD hS (lv_sub hl [1, 2, 3, 4, 5, 6, 7, 8, 0] rfl)
            · have h := h.2 cc_
              refine lv_iload hx hb d_M_fill_158 (lv_at hl 0 rfl) ?_
              refine lv_iload hx hb d_M_fill_160 (lv_at hl 6 rfl) ?_
              refine lv_icmp_ne (tgt := 169) hx hb d_M_fill_162 (by decide) (fun cc_ => ?_) (fun cc_ => ?_)
              · have h := h.1 cc_
                refine lv_iconst (v := 0) hx hb d_M_fill_169 (by decide) ?_
                exact J170 x7_l130 x8_149 (0 : Int32) f_counts_l130 f_costs_l130 _ _ _ h hP hD hS (lv_sub hl [1, 2, 3, 4, 5, 6, 7, 8, 0] rfl)
              · have h := h.2 cc_
                exact J165 x7_l130 x8_149 f_counts_l130 f_costs_l130 _ _ _ h hP hD hS (lv_sub hl [1, 2, 3, 4, 5, 6, 7, 8, 0] rfl)
      · have h := h.2 cc_
        refine lv_aload_n hx hb d_M_fill_90 rfl (lv_at hl 0 rfl) ?_
        refine va_get (D := (dC, dI)) (ci := 5) (v := .ref a_counts) (C := R_M) (T := F_M) (N := 32) hx hb hts i_M_in hown hK hP 0 rfl rfl 19 (by decide) (hts _ q_680) (fun _ h9 => h9) rfl d_M_fill_91 ?_
        refine lv_sipush (v := 600) hx hb d_M_fill_94 (by decide) ?_
        refine lv_iload hx hb d_M_fill_97 (lv_at hl 7 rfl) ?_
        refine lv_imul hx hb d_M_fill_99 ?_
        refine lv_iload hx hb d_M_fill_100 (lv_at hl 6 rfl) ?_
        refine lv_iadd hx hb d_M_fill_102 ?_
        refine lv_ldc (v := 1000000000) hx hb hown (hts _ q_858) d_M_fill_103 ?_
        obtain ⟨hin, h⟩ := h
        refine va_iast hx hb hK hP hD hS 2 0 rfl rfl hin d_M_fill_105 (fun H locs hP hD hS => ?_)
        obtain ⟨f105, e_f105⟩ : ∃ y : Nat → Int32, y = upd f_counts_l84 (((600 : Int32) * x7_l84) + x6_l75).toNatClampNeg (1000000000 : Int32) := ⟨_, rfl⟩
        have h := h f105 e_f105
        have hP : va_P (dC, dI) vwCl (cw_M_fill cI a_this a_sizes a_counts a_costs a_froms a_xs a_ys a_colours a_layersOf a_areas a_used a_cornerAt a_firsts a_manys a_fs a_px a_py a_groups a_joinF n_sizes n_counts n_costs n_froms n_xs n_ys c_code c_width c_height c_isTraced c_outlines c_points c_hasPolygon c_of c_corners c_costSum c_hasCurves c_curveCount c_sharp c_allowed f_sizes f105 f_costs_l84 f_froms f_xs f_ys) H := by rw [e_f105]; exact hP
        have hD : va_D A (cw_M_fill cI a_this a_sizes a_counts a_costs a_froms a_xs a_ys a_colours a_layersOf a_areas a_used a_cornerAt a_firsts a_manys a_fs a_px a_py a_groups a_joinF n_sizes n_counts n_costs n_froms n_xs n_ys c_code c_width c_height c_isTraced c_outlines c_points c_hasPolygon c_of c_corners c_costSum c_hasCurves c_curveCount c_sharp c_allowed f_sizes f105 f_costs_l84 f_froms f_xs f_ys) := by rw [e_f105]; exact hD
        refine lv_aload_n hx hb d_M_fill_106 rfl (lv_at hl 0 rfl) ?_
        refine va_get (D := (dC, dI)) (ci := 5) (v := .ref a_costs) (C := R_M) (T := F_M) (N := 32) hx hb hts i_M_in hown hK hP 0 rfl rfl 20 (by decide) (hts _ q_681) (fun _ h9 => h9) rfl d_M_fill_107 ?_
        refine lv_sipush (v := 600) hx hb d_M_fill_110 (by decide) ?_
        refine lv_iload hx hb d_M_fill_113 (lv_at hl 7 rfl) ?_
        refine lv_imul hx hb d_M_fill_115 ?_
        refine lv_iload hx hb d_M_fill_116 (lv_at hl 6 rfl) ?_
        refine lv_iadd hx hb d_M_fill_118 ?_
        refine lv_iconst (v := 0) hx hb d_M_fill_119 (by decide) ?_
        obtain ⟨hin, h⟩ := h
        refine va_iast hx hb hK hP hD hS 3 0 rfl rfl hin d_M_fill_120 (fun H locs hP hD hS => ?_)
        obtain ⟨f120, e_f120⟩ : ∃ y : Nat → Int32, y = upd f_costs_l84 (((600 : Int32) * x7_l84) + x6_l75).toNatClampNeg (0 : Int32) := ⟨_, rfl⟩
        have h := h f120 e_f120
        have hP : va_P (dC, dI) vwCl (cw_M_fill cI a_this a_sizes a_counts a_costs a_froms a_xs a_ys a_colours a_layersOf a_areas a_used a_cornerAt a_firsts a_manys a_fs a_px a_py a_groups a_joinF n_sizes n_counts n_costs n_froms n_xs n_ys c_code c_width c_height c_isTraced c_outlines c_points c_hasPolygon c_of c_corners c_costSum c_hasCurves c_curveCount c_sharp c_allowed f_sizes f105 f120 f_froms f_xs f_ys) H := by rw [e_f120]; exact hP
        have hD : va_D A (cw_M_fill cI a_this a_sizes a_counts a_costs a_froms a_xs a_ys a_colours a_layersOf a_areas a_used a_cornerAt a_firsts a_manys a_fs a_px a_py a_groups a_joinF n_sizes n_counts n_costs n_froms n_xs n_ys c_code c_width c_height c_isTraced c_outlines c_points c_hasPolygon c_of c_corners c_costSum c_hasCurves c_curveCount c_sharp c_allowed f_sizes f105 f120 f_froms f_xs f_ys) := by rw [e_f120]; exact hD
        obtain ⟨x7_121, e_x7_121⟩ : ∃ y : Int32, y = x7_l84 + (1 : Int32) := ⟨_, rfl⟩
        have h := h x7_121 e_x7_121
        refine lv_iinc (v := x7_121) (lv' := [(7, .int x7_121), (0, .ref a_this), (1, .int x1), (2, .int x2), (3, .int x3), (4, .int x4_6), (5, .int x5_12), (6, .int x6_l75)]) hx hb d_M_fill_121 hl (k := 7) rfl (by rw [e_x7_121]; rfl) (by decide) rfl (fun ls hl => ?_)
        refine lv_goto (tgt := 84) hx hb d_M_fill_124 (by decide) ?_
        exact hb84 _ h _ _ _ hP hD hS (lv_sub hl [1, 2, 3, 4, 5, 6, 7, 0] rfl)
  · have h := h.2 cc_
    refine lv_aload_n hx hb d_M_fill_23 rfl (lv_at hl 0 rfl) ?_
    refine va_get (D := (dC, dI)) (ci := 5) (v := .ref a_counts) (C := R_M) (T := F_M) (N := 32) hx hb hts i_M_in hown hK hP 0 rfl rfl 19 (by decide) (hts _ q_680) (fun _ h9 => h9) rfl d_M_fill_24 ?_
    refine lv_sipush (v := 600) hx hb d_M_fill_27 (by decide) ?_
    refine lv_iload hx hb d_M_fill_30 (lv_at hl 6 rfl) ?_
    refine lv_imul hx hb d_M_fill_32 ?_
    refine lv_iload hx hb d_M_fill_33 (lv_at hl 5 rfl) ?_
    refine lv_iadd hx hb d_M_fill_35 ?_
    refine lv_iload hx hb d_M_fill_36 (lv_at hl 6 rfl) ?_
    refine lv_if_ne (tgt := 45) hx hb d_M_fill_38 (by decide) (fun cc_ => ?_) (fun cc_ => ?_)
    · have h := h.1 cc_
      refine lv_ldc (v := 1000000000) hx hb hown (hts _ q_858) d_M_fill_45 ?_
      exact J47 x6_l17 (1000000000 : Int32) (((600 : Int32) * x6_l17) + x5_12) f_counts_l17 f_costs_l17 _ _ _ h hP hD hS (lv_sub hl [0, 1, 2, 3, 4, 5, 6] rfl)
    · have h := h.2 cc_
      refine lv_iconst (v := 0) hx hb d_M_fill_41 (by decide) ?_
      refine lv_goto (tgt := 47) hx hb d_M_fill_42 (by decide) ?_
      exact J47 x6_l17 (0 : Int32) (((600 : Int32) * x6_l17) + x5_12) f_counts_l17 f_costs_l17 _ _ _ h hP hD hS (lv_sub hl [0, 1, 2, 3, 4, 5, 6] rfl)
