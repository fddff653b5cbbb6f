def wp_M_corner_J31 (n_cornerAt n_froms n_sizes n_xs n_ys : Nat) (c_hasPolygon : Int32) (c_of : Int32) (c_corners : Int32) (f_cornerAt : Nat → Int32) (f_froms : Nat → Int32) (f_sizes : Nat → Int32) (f_xs : Nat → Int32) (f_ys : Nat → Int32) (c_code : Int32) (x1 : Int32) (x2 : Int32) (y0 : Int32) (post : Int32 → Int32 → Prop) : Prop :=
  ∃ Q31 : Int32 → Int32 → Prop, wp_M_refuses c_code y0 Q31 ∧ ∀ (r31 : Int32) (u31_0 : Int32), Q31 r31 u31_0 → (r31 = 0 → (¬ x2 = 0 → (¬ x2 = (1 : Int32) → (¬ x2 = (2 : Int32) → (¬ x2 = (3 : Int32) → (¬ x2 = (4 : Int32) → post (-1 : Int32) u31_0) ∧ (x2 = (4 : Int32) → ∃ Q98 : Int32 → Unit → Prop, wp_M_turnAt n_cornerAt n_froms n_sizes n_xs n_ys c_of c_corners f_cornerAt f_froms f_sizes f_xs f_ys x1 Q98 ∧ ∀ (r98 : Int32), Q98 r98 () → post r98 u31_0)) ∧ (x2 = (3 : Int32) → ∃ Q85 : Int32 → Unit → Prop, wp_M_angleAt n_cornerAt n_froms n_sizes n_xs n_ys c_of c_corners f_cornerAt f_froms f_sizes f_xs f_ys x1 Q85 ∧ ∀ (r85 : Int32), Q85 r85 () → post r85 u31_0)) ∧ (x2 = (2 : Int32) → ∃ Q72 : Int32 → Unit → Prop, wp_M_cornerY n_cornerAt n_froms n_sizes n_ys c_of c_corners f_cornerAt f_froms f_sizes f_ys x1 Q72 ∧ ∀ (r72 : Int32), Q72 r72 () → post r72 u31_0)) ∧ (x2 = (1 : Int32) → ∃ Q59 : Int32 → Unit → Prop, wp_M_cornerX n_cornerAt n_froms n_sizes n_xs c_of c_corners f_cornerAt f_froms f_sizes f_xs x1 Q59 ∧ ∀ (r59 : Int32), Q59 r59 () → post r59 u31_0)) ∧ (x2 = 0 → vp_in x1 n_cornerAt ∧ post (f_cornerAt x1.toNatClampNeg) u31_0)) ∧ (¬ r31 = 0 → post (0 : Int32) u31_0)
def wp_M_corner (n_cornerAt n_froms n_sizes n_xs n_ys : Nat) (c_code : Int32) (c_hasPolygon : Int32) (c_of : Int32) (c_corners : Int32) (f_cornerAt : Nat → Int32) (f_froms : Nat → Int32) (f_sizes : Nat → Int32) (f_xs : Nat → Int32) (f_ys : Nat → Int32) (x1 : Int32) (x2 : Int32) (post : Int32 → Int32 → Prop) : Prop :=
  (¬ c_hasPolygon = 0 → ∃ Q20 : Int32 → Unit → Prop, wp_M_in x1 (0 : Int32) (c_corners - (1 : Int32)) Q20 ∧ ∀ (r20 : Int32), Q20 r20 () → (¬ r20 = 0 → wp_M_corner_J31 n_cornerAt n_froms n_sizes n_xs n_ys c_hasPolygon c_of c_corners f_cornerAt f_froms f_sizes f_xs f_ys c_code x1 x2 (0 : Int32) post) ∧ (r20 = 0 → wp_M_corner_J31 n_cornerAt n_froms n_sizes n_xs n_ys c_hasPolygon c_of c_corners f_cornerAt f_froms f_sizes f_xs f_ys c_code x1 x2 (2 : Int32) post)) ∧ (c_hasPolygon = 0 → wp_M_corner_J31 n_cornerAt n_froms n_sizes n_xs n_ys c_hasPolygon c_of c_corners f_cornerAt f_froms f_sizes f_xs f_ys c_code x1 x2 (1 : Int32) post)
abbrev cw_M_corner (cI : ClassId) (a_this a_cornerAt a_froms a_sizes a_xs a_ys a_colours a_layersOf a_areas a_used a_counts a_costs a_firsts a_manys a_fs a_px a_py a_groups a_joinF : Nat) (n_cornerAt n_froms n_sizes n_xs n_ys : Nat) (c_code : Int32) (c_width : Int32) (c_height : Int32) (c_isTraced : Int32) (c_outlines : Int32) (c_points : Int32) (c_hasPolygon : Int32) (c_of : Int32) (c_corners : Int32) (c_costSum : Int32) (c_hasCurves : Int32) (c_curveCount : Int32) (c_sharp : Int32) (c_allowed : Int32) (f_cornerAt : Nat → Int32) (f_froms : Nat → Int32) (f_sizes : Nat → Int32) (f_xs : Nat → Int32) (f_ys : Nat → Int32) : va_W := [(a_this, .inr (5, [.int c_code, .int c_width, .int c_height, .ref a_colours, .int c_isTraced, .int c_outlines, .ref a_froms, .ref a_sizes, .ref a_layersOf, .ref a_areas, .int c_points, .ref a_xs, .ref a_ys, .ref a_used, .int c_hasPolygon, .int c_of, .int c_corners, .int c_costSum, .ref a_cornerAt, .ref a_counts, .ref a_costs, .int c_hasCurves, .int c_curveCount, .ref a_firsts, .ref a_manys, .ref a_fs, .int c_sharp, .int c_allowed, .ref a_px, .ref a_py, .ref a_groups, .ref a_joinF])), (a_cornerAt, .inl (cI, n_cornerAt, .inl f_cornerAt)), (a_froms, .inl (cI, n_froms, .inl f_froms)), (a_sizes, .inl (cI, n_sizes, .inl f_sizes)), (a_xs, .inl (cI, n_xs, .inl f_xs)), (a_ys, .inl (cI, n_ys, .inl f_ys))]
abbrev qq_M_corner (dC : Nat → ClassId) (dI : Nat → Nat → Nat) (cI cB cJ cZ : ClassId) (a_this a_cornerAt a_froms a_sizes a_xs a_ys a_colours a_layersOf a_areas a_used a_counts a_costs a_firsts a_manys a_fs a_px a_py a_groups a_joinF : Nat) (n_cornerAt n_froms n_sizes n_xs n_ys : Nat) (c_width : Int32) (c_height : Int32) (c_isTraced : Int32) (c_outlines : Int32) (c_points : Int32) (c_hasPolygon : Int32) (c_of : Int32) (c_corners : Int32) (c_costSum : Int32) (c_hasCurves : Int32) (c_curveCount : Int32) (c_sharp : Int32) (c_allowed : Int32) (f_cornerAt : Nat → Int32) (f_froms : Nat → Int32) (f_sizes : Nat → Int32) (f_xs : Nat → Int32) (f_ys : Nat → Int32) (A : Nat → Prop) (post : Int32 → Int32 → Prop) : Array Value → State → Outcome → State → Prop := va_Qi post (fun u t => va_P (dC, dI) vwCl (cw_M_corner cI a_this a_cornerAt a_froms a_sizes a_xs a_ys a_colours a_layersOf a_areas a_used a_counts a_costs a_firsts a_manys a_fs a_px a_py a_groups a_joinF n_cornerAt n_froms n_sizes n_xs n_ys u c_width c_height c_isTraced c_outlines c_points c_hasPolygon c_of c_corners c_costSum c_hasCurves c_curveCount c_sharp c_allowed f_cornerAt f_froms f_sizes f_xs f_ys) t.heap ∧ va_K (dC, dI) vwCl [(cI, .int), (cB, .byte), (cJ, .long), (cZ, .boolean)] t ∧ va_D A (cw_M_corner cI a_this a_cornerAt a_froms a_sizes a_xs a_ys a_colours a_layersOf a_areas a_used a_counts a_costs a_firsts a_manys a_fs a_px a_py a_groups a_joinF n_cornerAt n_froms n_sizes n_xs n_ys u c_width c_height c_isTraced c_outlines c_points c_hasPolygon c_of c_corners c_costSum c_hasCurves c_curveCount c_sharp c_allowed f_cornerAt f_froms f_sizes f_xs f_ys)) A
set_option maxHeartbeats 4000000 in
set_option maxRecDepth 100000 in
theorem c_M_corner (l : Launch) (dC : Nat → ClassId) (dI : Nat → Nat → Nat) (cI cB cJ cZ : ClassId) (a_this a_cornerAt a_froms a_sizes a_xs a_ys a_colours a_layersOf a_areas a_used a_counts a_costs a_firsts a_manys a_fs a_px a_py a_groups a_joinF : Nat) (sz : Nat) (n_cornerAt n_froms n_sizes n_xs n_ys : Nat) (c_code : Int32) (c_width : Int32) (c_height : Int32) (c_isTraced : Int32) (c_outlines : Int32) (c_points : Int32) (c_hasPolygon : Int32) (c_of : Int32) (c_corners : Int32) (c_costSum : Int32) (c_hasCurves : Int32) (c_curveCount : Int32) (c_sharp : Int32) (c_allowed : Int32) (f_cornerAt : Nat → Int32) (f_froms : Nat → Int32) (f_sizes : Nat → Int32) (f_xs : Nat → Int32) (f_ys : Nat → Int32) (x1 : Int32) (x2 : Int32) (post : Int32 → Int32 → Prop) (h : wp_M_corner n_cornerAt n_froms n_sizes n_xs n_ys c_code c_hasPolygon c_of c_corners f_cornerAt f_froms f_sizes f_xs f_ys x1 x2 post) : Met l y_M_corner w_M_corner ({ frames := 4, cells := 0, slots := 0, locals := 93 }) (va_Pc [.ref a_this, .int x1, .int x2] (fun U => U.heap.size = sz ∧ va_P (dC, dI) vwCl (cw_M_corner cI a_this a_cornerAt a_froms a_sizes a_xs a_ys a_colours a_layersOf a_areas a_used a_counts a_costs a_firsts a_manys a_fs a_px a_py a_groups a_joinF n_cornerAt n_froms n_sizes n_xs n_ys c_code c_width c_height c_isTraced c_outlines c_points c_hasPolygon c_of c_corners c_costSum c_hasCurves c_curveCount c_sharp c_allowed f_cornerAt f_froms f_sizes f_xs f_ys) U.heap ∧ va_K (dC, dI) vwCl [(cI, .int), (cB, .byte), (cJ, .long), (cZ, .boolean)] U ∧ va_D (fun _ => True) (cw_M_corner cI a_this a_cornerAt a_froms a_sizes a_xs a_ys a_colours a_layersOf a_areas a_used a_counts a_costs a_firsts a_manys a_fs a_px a_py a_groups a_joinF n_cornerAt n_froms n_sizes n_xs n_ys c_code c_width c_height c_isTraced c_outlines c_points c_hasPolygon c_of c_corners c_costSum c_hasCurves c_curveCount c_sharp c_allowed f_cornerAt f_froms f_sizes f_xs f_ys))) (qq_M_corner dC dI cI cB cJ cZ a_this a_cornerAt a_froms a_sizes a_xs a_ys a_colours a_layersOf a_areas a_used a_counts a_costs a_firsts a_manys a_fs a_px a_py a_groups a_joinF n_cornerAt n_froms n_sizes n_xs n_ys c_width c_height c_isTraced c_outlines c_points c_hasPolygon c_of c_corners c_costSum c_hasCurves c_curveCount c_sharp c_allowed f_cornerAt f_froms f_sizes f_xs f_ys (va_A (cw_M_corner cI a_this a_cornerAt a_froms a_sizes a_xs a_ys a_colours a_layersOf a_areas a_used a_counts a_costs a_firsts a_manys a_fs a_px a_py a_groups a_joinF n_cornerAt n_froms n_sizes n_xs n_ys c_code c_width c_height c_isTraced c_outlines c_points c_hasPolygon c_of c_corners c_costSum c_hasCurves c_curveCount c_sharp c_allowed f_cornerAt f_froms f_sizes f_xs f_ys) sz) post) 0 0 (va_A (cw_M_corner cI a_this a_cornerAt a_froms a_sizes a_xs a_ys a_colours a_layersOf a_areas a_used a_counts a_costs a_firsts a_manys a_fs a_px a_py a_groups a_joinF n_cornerAt n_froms n_sizes n_xs n_ys c_code c_width c_height c_isTraced c_outlines c_points c_hasPolygon c_of c_corners c_costSum c_hasCurves c_curveCount c_sharp c_allowed f_cornerAt f_froms f_sizes f_xs f_ys) sz) := by
  refine Met.ofW (cc := b_M_corner) (maxL := 3) (ret := (some .int)) (by decide +kernel) rfl ?_
  intro p e s m args below meth c s₁ B hml hv
  obtain ⟨rfl, hsz, hP, hK, hD0⟩ := hv
  have hx := B.exec
  have hb := B.bytes
  have hr := B.returns
  have hts : ∀ w ∈ allW, w.before _ s = true := fun w hw => atoms_spec (ws := w_M_corner) B.pre w (List.mem_cons_of_mem _ hw)
  have hown : s.vm.findClass R_M = some m.cls := findClass_of_methodNamed B.named
  have hlocks := B.notSynchronized
  subst hsz
  have hD := hD0.self (sz := s.heap.size)
  generalize hAe : va_A (cw_M_corner cI a_this a_cornerAt a_froms a_sizes a_xs a_ys a_colours a_layersOf a_areas a_used a_counts a_costs a_firsts a_manys a_fs a_px a_py a_groups a_joinF n_cornerAt n_froms n_sizes n_xs n_ys c_code c_width c_height c_isTraced c_outlines c_points c_hasPolygon c_of c_corners c_costSum c_hasCurves c_curveCount c_sharp c_allowed f_cornerAt f_froms f_sizes f_xs f_ys) s.heap.size = A at hD ⊢
  have hA : ∀ q : Nat, s.heap.size ≤ q → A q := fun q h => by rw [← hAe]; exact Or.inr h
  have hS : va_S A s.heap s.heap [] := va_S.rf
  clear hD0
  generalize hQf : MQ below (qq_M_corner dC dI cI cB cJ cZ a_this a_cornerAt a_froms a_sizes a_xs a_ys a_colours a_layersOf a_areas a_used a_counts a_costs a_firsts a_manys a_fs a_px a_py a_groups a_joinF n_cornerAt n_froms n_sizes n_xs n_ys c_width c_height c_isTraced c_outlines c_points c_hasPolygon c_of c_corners c_costSum c_hasCurves c_curveCount c_sharp c_allowed f_cornerAt f_froms f_sizes f_xs f_ys A post) ([.ref a_this, .int x1, .int x2] : List Value).toArray s 0 0 A = Qf
  have hl := lv_entry ([.ref a_this, .int x1, .int x2]) (n := 3) (Nat.le_of_ble_eq_true rfl)
  rw [lg_entry_eq]
  generalize (lg_sl ([.ref a_this, .int x1, .int x2]) ++ List.replicate (3 - (lg_sl ([.ref a_this, .int x1, .int x2])).length) Slot.unset).toArray = ls at hl ⊢
  have hl : lv_has ls 3 [(0, .ref a_this), (1, .int x1), (2, .int x2)] := hl
  unfold wp_M_corner at h
  have J31 : ∀ (x1_j31 : Int32) (x2_j31 : Int32) (y0_j31 : Int32) (c_code_j31 : Int32) (H : Heap) (locs : List Loc) (ls : Array Slot), wp_M_corner_J31 n_cornerAt n_froms n_sizes n_xs n_ys c_hasPolygon c_of c_corners f_cornerAt f_froms f_sizes f_xs f_ys c_code_j31 x1_j31 x2_j31 y0_j31 post → va_P (dC, dI) vwCl (cw_M_corner cI a_this a_cornerAt a_froms a_sizes a_xs a_ys a_colours a_layersOf a_areas a_used a_counts a_costs a_firsts a_manys a_fs a_px a_py a_groups a_joinF n_cornerAt n_froms n_sizes n_xs n_ys c_code_j31 c_width c_height c_isTraced c_outlines c_points c_hasPolygon c_of c_corners c_costSum c_hasCurves c_curveCount c_sharp c_allowed f_cornerAt f_froms f_sizes f_xs f_ys) H → va_D A (cw_M_corner cI a_this a_cornerAt a_froms a_sizes a_xs a_ys a_colours a_layersOf a_areas a_used a_counts a_costs a_firsts a_manys a_fs a_px a_py a_groups a_joinF n_cornerAt n_froms n_sizes n_xs n_ys c_code_j31 c_width c_height c_isTraced c_outlines c_points c_hasPolygon c_of c_corners c_costSum c_hasCurves c_curveCount c_sharp c_allowed f_cornerAt f_froms f_sizes f_xs f_ys) → va_S A s.heap H locs → lv_has ls 3 [(0, .ref a_this), (1, .int x1_j31), (2, .int x2_j31)] → W p l e (headSpec w_M_corner ({ frames := 4, cells := 0, slots := 0, locals := 93 })).room s m ([.ref a_this, .int x1, .int x2] : List Value).toArray below meth c H locs 0 0 Qf (F0 m 31 ls [.int y0_j31, .ref a_this]) := by
    intro x1_j31 x2_j31 y0_j31 c_code_j31 H locs ls h hP hD hS hl
    unfold wp_M_corner_J31 at h
    obtain ⟨Q31, hq31, h⟩ := h
    have hPc := hP.sub (ws' := (cw_M_refuses a_this a_colours a_froms a_sizes a_layersOf a_areas a_xs a_ys a_used a_cornerAt a_counts a_costs a_firsts a_manys a_fs a_px a_py a_groups a_joinF c_code_j31 c_width c_height c_isTraced c_outlines c_points c_hasPolygon c_of c_corners c_costSum c_hasCurves c_curveCount c_sharp c_allowed)) [0] rfl
    have hDc := hD.sub (ws' := (cw_M_refuses a_this a_colours a_froms a_sizes a_layersOf a_areas a_xs a_ys a_used a_cornerAt a_counts a_costs a_firsts a_manys a_fs a_px a_py a_groups a_joinF c_code_j31 c_width c_height c_isTraced c_outlines c_points c_hasPolygon c_of c_corners c_costSum c_hasCurves c_curveCount c_sharp c_allowed)) [0] (by decide) rfl
    have hFc := va_free (wc := (cw_M_refuses a_this a_colours a_froms a_sizes a_layersOf a_areas a_xs a_ys a_used a_cornerAt a_counts a_costs a_firsts a_manys a_fs a_px a_py a_groups a_joinF c_code_j31 c_width c_height c_isTraced c_outlines c_points c_hasPolygon c_of c_corners c_costSum c_hasCurves c_curveCount c_sharp c_allowed)) hD hS hA [0] rfl
    refine va_calli (va_runV (As := [.int y0_j31]) (rest := []) ⟨hx, hb, hml, hown, hts⟩ (c_M_refuses l dC dI cI cB cJ cZ a_this a_colours a_froms a_sizes a_layersOf a_areas a_xs a_ys a_used a_cornerAt a_counts a_costs a_firsts a_manys a_fs a_px a_py a_groups a_joinF H.size c_code_j31 c_width c_height c_isTraced c_outlines c_points c_hasPolygon c_of c_corners c_costSum c_hasCurves c_curveCount c_sharp c_allowed y0_j31 Q31 hq31) (cwV 1 hts (goodV q_774 q_776 q_p31 q_7 q_777) rfl rfl rfl (by decide +kernel) ⟨Nat.le_of_ble_eq_true rfl, Nat.le_of_ble_eq_true rfl⟩) ⟨fun a U g mk q => by obtain ⟨q0, q1, qP, qK, qD⟩ := q; exact ⟨q0, q1, qP, va_K.moved (u := U) (U := U.calling g mk a) (Vm.Alike.refl U.vm) qK, qD⟩, va_recv hK hPc (ci := 5) (q0 := 0) rfl rfl, fun U hU hW => ⟨rfl, by rw [hU], by rw [hU]; exact hPc, va_K.moved hW.alike hK, hDc.weaken (fun _ _ _ _ => trivial)⟩⟩ rfl rfl hl.1 rfl (lv_room (Nat.le_of_ble_eq_true rfl)) d_M_corner_31 ⟨Nat.le_of_ble_eq_true rfl, Nat.le_of_ble_eq_true rfl⟩) hS (fun q _ h => hFc q h) hFc (fun r31 u31 t H1 locs ht hvm hw hB hz1 hk1 hS => ?_)
    obtain ⟨u31_0, rfl⟩ : ∃ z, z = u31 := ⟨_, rfl⟩
    obtain ⟨hP1, -, hD1⟩ := hB
    rw [ht] at hP1
    have h := h r31 u31_0 hw
    obtain ⟨hP, hD⟩ := va_join (wr := [(a_cornerAt, .inl (cI, n_cornerAt, .inl f_cornerAt)), (a_froms, .inl (cI, n_froms, .inl f_froms)), (a_sizes, .inl (cI, n_sizes, .inl f_sizes)), (a_xs, .inl (cI, n_xs, .inl f_xs)), (a_ys, .inl (cI, n_ys, .inl f_ys))]) (w1 := (cw_M_refuses a_this a_colours a_froms a_sizes a_layersOf a_areas a_xs a_ys a_used a_cornerAt a_counts a_costs a_firsts a_manys a_fs a_px a_py a_groups a_joinF u31_0 c_width c_height c_isTraced c_outlines c_points c_hasPolygon c_of c_corners c_costSum c_hasCurves c_curveCount c_sharp c_allowed)) hP hD [0] [1, 2, 3, 4, 5] rfl rfl (by decide) (by decide) hk1 hFc hP1 hD1
    clear hP1 hD1 hk1 hPc hDc hFc
    generalize H1 = H at hP hS ⊢
    have hP : va_P (dC, dI) vwCl (cw_M_corner cI a_this a_cornerAt a_froms a_sizes a_xs a_ys a_colours a_layersOf a_areas a_used a_counts a_costs a_firsts a_manys a_fs a_px a_py a_groups a_joinF n_cornerAt n_froms n_sizes n_xs n_ys u31_0 c_width c_height c_isTraced c_outlines c_points c_hasPolygon c_of c_corners c_costSum c_hasCurves c_curveCount c_sharp c_allowed f_cornerAt f_froms f_sizes f_xs f_ys) H := hP.sub [5, 0, 1, 2, 3, 4] rfl
    have hD : va_D A (cw_M_corner cI a_this a_cornerAt a_froms a_sizes a_xs a_ys a_colours a_layersOf a_areas a_used a_counts a_costs a_firsts a_manys a_fs a_px a_py a_groups a_joinF n_cornerAt n_froms n_sizes n_xs n_ys u31_0 c_width c_height c_isTraced c_outlines c_points c_hasPolygon c_of c_corners c_costSum c_hasCurves c_curveCount c_sharp c_allowed f_cornerAt f_froms f_sizes f_xs f_ys) := hD.sub [5, 0, 1, 2, 3, 4] (by decide) rfl
    refine lv_if_eq (tgt := 39) hx hb d_M_corner_34 (by decide) (fun cc_ => ?_) (fun cc_ => ?_)
    · have h := h.1 cc_
      refine lv_iload_n hx hb d_M_corner_39 rfl (lv_at hl 2 rfl) ?_
      refine lv_if_ne (tgt := 52) hx hb d_M_corner_40 (by decide) (fun cc_ => ?_) (fun cc_ => ?_)
      · have h := h.1 cc_
        refine lv_iload_n hx hb d_M_corner_52 rfl (lv_at hl 2 rfl) ?_
        refine lv_iconst (v := 1) hx hb d_M_corner_53 (by decide) ?_
        refine lv_icmp_ne (tgt := 65) hx hb d_M_corner_54 (by decide) (fun cc_ => ?_) (fun cc_ => ?_)
        · have h := h.1 cc_
          refine lv_iload_n hx hb d_M_corner_65 rfl (lv_at hl 2 rfl) ?_
          refine lv_iconst (v := 2) hx hb d_M_corner_66 (by decide) ?_
          refine lv_icmp_ne (tgt := 78) hx hb d_M_corner_67 (by decide) (fun cc_ => ?_) (fun cc_ => ?_)
          · have h := h.1 cc_
            refine lv_iload_n hx hb d_M_corner_78 rfl (lv_at hl 2 rfl) ?_
            refine lv_iconst (v := 3) hx hb d_M_corner_79 (by decide) ?_
            refine lv_icmp_ne (tgt := 91) hx hb d_M_corner_80 (by decide) (fun cc_ => ?_) (fun cc_ => ?_)
            · have h := h.1 cc_
              refine lv_iload_n hx hb d_M_corner_91 rfl (lv_at hl 2 rfl) ?_
              refine lv_iconst (v := 4) hx hb d_M_corner_92 (by decide) ?_
              refine lv_icmp_ne (tgt := 104) hx hb d_M_corner_93 (by decide) (fun cc_ => ?_) (fun cc_ => ?_)
              · have h := h.1 cc_
                refine lv_iconst (v := -1) hx hb d_M_corner_104 (by decide) ?_
                subst hQf
                exact W.iret (v := (-1 : Int32)) hx hb hr (fun t ht hW => ⟨⟨(-1 : Int32), u31_0, rfl, h, by rw [ht]; exact hP, va_K.moved hW.alike hK, hD⟩, hS.F ht⟩) hS.2.2 d_M_corner_105
              · have h := h.2 cc_
                refine lv_aload_n hx hb d_M_corner_96 rfl (lv_at hl 0 rfl) ?_
                refine lv_iload_n hx hb d_M_corner_97 rfl (lv_at hl 1 rfl) ?_
                obtain ⟨Q98, hq98, h⟩ := h
                have hPc := hP.sub (ws' := (cw_M_turnAt cI a_this a_cornerAt a_froms a_sizes a_xs a_ys a_colours a_layersOf a_areas a_used a_counts a_costs a_firsts a_manys a_fs a_px a_py a_groups a_joinF n_cornerAt n_froms n_sizes n_xs n_ys u31_0 c_width c_height c_isTraced c_outlines c_points c_hasPolygon c_of c_corners c_costSum c_hasCurves c_curveCount c_sharp c_allowed f_cornerAt f_froms f_sizes f_xs f_ys)) [0, 1, 2, 3, 4, 5] rfl
                have hDc := hD.sub (ws' := (cw_M_turnAt cI a_this a_cornerAt a_froms a_sizes a_xs a_ys a_colours a_layersOf a_areas a_used a_counts a_costs a_firsts a_manys a_fs a_px a_py a_groups a_joinF n_cornerAt n_froms n_sizes n_xs n_ys u31_0 c_width c_height c_isTraced c_outlines c_points c_hasPolygon c_of c_corners c_costSum c_hasCurves c_curveCount c_sharp c_allowed f_cornerAt f_froms f_sizes f_xs f_ys)) [0, 1, 2, 3, 4, 5] (by decide) rfl
                have hFc := va_free (wc := (cw_M_turnAt cI a_this a_cornerAt a_froms a_sizes a_xs a_ys a_colours a_layersOf a_areas a_used a_counts a_costs a_firsts a_manys a_fs a_px a_py a_groups a_joinF n_cornerAt n_froms n_sizes n_xs n_ys u31_0 c_width c_height c_isTraced c_outlines c_points c_hasPolygon c_of c_corners c_costSum c_hasCurves c_curveCount c_sharp c_allowed f_cornerAt f_froms f_sizes f_xs f_ys)) hD hS hA [0, 1, 2, 3, 4, 5] rfl
                refine va_calli (va_runV (As := [.int x1_j31]) (rest := []) ⟨hx, hb, hml, hown, hts⟩ (c_M_turnAt l dC dI cI cB cJ cZ a_this a_cornerAt a_froms a_sizes a_xs a_ys a_colours a_layersOf a_areas a_used a_counts a_costs a_firsts a_manys a_fs a_px a_py a_groups a_joinF H.size n_cornerAt n_froms n_sizes n_xs n_ys u31_0 c_width c_height c_isTraced c_outlines c_points c_hasPolygon c_of c_corners c_costSum c_hasCurves c_curveCount c_sharp c_allowed f_cornerAt f_froms f_sizes f_xs f_ys x1_j31 Q98 hq98) (cwV 1 hts (goodV q_890 q_892 q_p49 q_7 q_893) rfl rfl rfl (by decide +kernel) ⟨Nat.le_of_ble_eq_true rfl, Nat.le_of_ble_eq_true rfl⟩) ⟨fun a U g mk q => by obtain ⟨q0, q1, qP, qK, qD⟩ := q; exact ⟨q0, q1, qP, va_K.moved (u := U) (U := U.calling g mk a) (Vm.Alike.refl U.vm) qK, qD⟩, va_recv hK hPc (ci := 5) (q0 := 0) rfl rfl, fun U hU hW => ⟨rfl, by rw [hU], by rw [hU]; exact hPc, va_K.moved hW.alike hK, hDc.weaken (fun _ _ _ _ => trivial)⟩⟩ rfl rfl hl.1 rfl (lv_room (Nat.le_of_ble_eq_true rfl)) d_M_corner_98 ⟨Nat.le_of_ble_eq_true rfl, Nat.le_of_ble_eq_true rfl⟩) hS (fun q _ h => hFc q h) hFc (fun r98 u98 t H1 locs ht hvm hw hB hz1 hk1 hS => ?_)
                cases u98
                obtain ⟨hP1, -, hD1⟩ := hB
                rw [ht] at hP1
                have h := h r98 hw
                obtain ⟨hP, hD⟩ := va_join (wr := []) (w1 := (cw_M_turnAt cI a_this a_cornerAt a_froms a_sizes a_xs a_ys a_colours a_layersOf a_areas a_used a_counts a_costs a_firsts a_manys a_fs a_px a_py a_groups a_joinF n_cornerAt n_froms n_sizes n_xs n_ys u31_0 c_width c_height c_isTraced c_outlines c_points c_hasPolygon c_of c_corners c_costSum c_hasCurves c_curveCount c_sharp c_allowed f_cornerAt f_froms f_sizes f_xs f_ys)) hP hD [0, 1, 2, 3, 4, 5] [] rfl rfl (by decide) (by decide) hk1 hFc hP1 hD1
                clear hP1 hD1 hk1 hPc hDc hFc
                generalize H1 = H at hP hS ⊢
                have hP : va_P (dC, dI) vwCl (cw_M_corner cI a_this a_cornerAt a_froms a_sizes a_xs a_ys a_colours a_layersOf a_areas a_used a_counts a_costs a_firsts a_manys a_fs a_px a_py a_groups a_joinF n_cornerAt n_froms n_sizes n_xs n_ys u31_0 c_width c_height c_isTraced c_outlines c_points c_hasPolygon c_of c_corners c_costSum c_hasCurves c_curveCount c_sharp c_allowed f_cornerAt f_froms f_sizes f_xs f_ys) H := hP.sub [0, 1, 2, 3, 4, 5] rfl
                have hD : va_D A (cw_M_corner cI a_this a_cornerAt a_froms a_sizes a_xs a_ys a_colours a_layersOf a_areas a_used a_counts a_costs a_firsts a_manys a_fs a_px a_py a_groups a_joinF n_cornerAt n_froms n_sizes n_xs n_ys u31_0 c_width c_height c_isTraced c_outlines c_points c_hasPolygon c_of c_corners c_costSum c_hasCurves c_curveCount c_sharp c_allowed f_cornerAt f_froms f_sizes f_xs f_ys) := hD.sub [0, 1, 2, 3, 4, 5] (by decide) rfl
                refine lv_goto (tgt := 105) hx hb d_M_corner_101 (by decide) ?_
                subst hQf
                exact W.iret (v := r98) hx hb hr (fun t ht hW => ⟨⟨r98, u31_0, rfl, h, by rw [ht]; exact hP, va_K.moved hW.alike hK, hD⟩, hS.F ht⟩) hS.2.2 d_M_corner_105
            · have h := h.2 cc_
              refine lv_aload_n hx hb d_M_corner_83 rfl (lv_at hl 0 rfl) ?_
              refine lv_iload_n hx hb d_M_corner_84 rfl (lv_at hl 1 rfl) ?_
              obtain ⟨Q85, hq85, h⟩ := h
              have hPc := hP.sub (ws' := (cw_M_angleAt cI a_this a_cornerAt a_froms a_sizes a_xs a_ys a_colours a_layersOf a_areas a_used a_counts a_costs a_firsts a_manys a_fs a_px a_py a_groups a_joinF n_cornerAt n_froms n_sizes n_xs n_ys u31_0 c_width c_height c_isTraced c_outlines c_points c_hasPolygon c_of c_corners c_costSum c_hasCurves c_curveCount c_sharp c_allowed f_cornerAt f_froms f_sizes f_xs f_ys)) [0, 1, 2, 3, 4, 5] rfl
              have hDc := hD.sub (ws' := (cw_M_angleAt cI a_this a_cornerAt a_froms a_sizes a_xs a_ys a_colours a_layersOf a_areas a_used a_counts a_costs a_firsts a_manys a_fs a_px a_py a_groups a_joinF n_cornerAt n_froms n_sizes n_xs n_ys u31_0 c_width c_height c_isTraced c_outlines c_points c_hasPolygon c_of c_corners c_costSum c_hasCurves c_curveCount c_sharp c_allowed f_cornerAt f_froms f_sizes f_xs f_ys)) [0, 1, 2, 3, 4, 5] (by decide) rfl
              have hFc := va_free (wc := (cw_M_angleAt cI a_this a_cornerAt a_froms a_sizes a_xs a_ys a_colours a_layersOf a_areas a_used a_counts a_costs a_firsts a_manys a_fs a_px a_py a_groups a_joinF n_cornerAt n_froms n_sizes n_xs n_ys u31_0 c_width c_height c_isTraced c_outlines c_points c_hasPolygon c_of c_corners c_costSum c_hasCurves c_curveCount c_sharp c_allowed f_cornerAt f_froms f_sizes f_xs f_ys)) hD hS hA [0, 1, 2, 3, 4, 5] rfl
              refine va_calli (va_runV (As := [.int x1_j31]) (rest := []) ⟨hx, hb, hml, hown, hts⟩ (c_M_angleAt l dC dI cI cB cJ cZ a_this a_cornerAt a_froms a_sizes a_xs a_ys a_colours a_layersOf a_areas a_used a_counts a_costs a_firsts a_manys a_fs a_px a_py a_groups a_joinF H.size n_cornerAt n_froms n_sizes n_xs n_ys u31_0 c_width c_height c_isTraced c_outlines c_points c_hasPolygon c_of c_corners c_costSum c_hasCurves c_curveCount c_sharp c_allowed f_cornerAt f_froms f_sizes f_xs f_ys x1_j31 Q85 hq85) (cwV 1 hts (goodV q_882 q_884 q_p47 q_7 q_885) rfl rfl rfl (by decide +kernel) ⟨Nat.le_of_ble_eq_true rfl, Nat.le_of_ble_eq_true rfl⟩) ⟨fun a U g mk q => by obtain ⟨q0, q1, qP, qK, qD⟩ := q; exact ⟨q0, q1, qP, va_K.moved (u := U) (U := U.calling g mk a) (Vm.Alike.refl U.vm) qK, qD⟩, va_recv hK hPc (ci := 5) (q0 := 0) rfl rfl, fun U hU hW => ⟨rfl, by rw [hU], by rw [hU]; exact hPc, va_K.moved hW.alike hK, hDc.weaken (fun _ _ _ _ => trivial)⟩⟩ rfl rfl hl.1 rfl (lv_room (Nat.le_of_ble_eq_true rfl)) d_M_corner_85 ⟨Nat.le_of_ble_eq_true rfl, Nat.le_of_ble_eq_true rfl⟩) hS (fun q _ h => hFc q h) hFc (fun r85 u85 t H1 locs ht hvm hw hB hz1 hk1 hS => ?_)
              cases u85
              obtain ⟨hP1, -, hD1⟩ := hB
              rw [ht] at hP1
              have h := h r85 hw
              obtain ⟨hP, hD⟩ := va_join (wr := []) (w1 := (cw_M_angleAt cI a_this a_cornerAt a_froms a_sizes a_xs a_ys a_colours a_layersOf a_areas a_used a_counts a_costs a_firsts a_manys a_fs a_px a_py a_groups a_joinF n_cornerAt n_froms n_sizes n_xs n_ys u31_0 c_width c_height c_isTraced c_outlines c_points c_hasPolygon c_of c_corners c_costSum c_hasCurves c_curveCount c_sharp c_allowed f_cornerAt f_froms f_sizes f_xs f_ys)) hP hD [0, 1, 2, 3, 4, 5] [] rfl rfl (by decide) (by decide) hk1 hFc hP1 hD1
              clear hP1 hD1 hk1 hPc hDc hFc
              generalize H1 = H at hP hS ⊢
              have hP : va_P (dC, dI) vwCl (cw_M_corner cI a_this a_cornerAt a_froms a_sizes a_xs a_ys a_colours a_layersOf a_areas a_used a_counts a_costs a_firsts a_manys a_fs a_px a_py a_groups a_joinF n_cornerAt n_froms n_sizes n_xs n_ys u31_0 c_width c_height c_isTraced c_outlines c_points c_hasPolygon c_of c_corners c_costSum c_hasCurves c_curveCount c_sharp c_allowed f_cornerAt f_froms f_sizes f_xs f_ys) H := hP.sub [0, 1, 2, 3, 4, 5] rfl
              have hD : va_D A (cw_M_corner cI a_this a_cornerAt a_froms a_sizes a_xs a_ys a_colours a_layersOf a_areas a_used a_counts a_costs a_firsts a_manys a_fs a_px a_py a_groups a_joinF n_cornerAt n_froms n_sizes n_xs n_ys u31_0 c_width c_height c_isTraced c_outlines c_points c_hasPolygon c_of c_corners c_costSum c_hasCurves c_curveCount c_sharp c_allowed f_cornerAt f_froms f_sizes f_xs f_ys) := hD.sub [0, 1, 2, 3, 4, 5] (by decide) rfl
              refine lv_goto (tgt := 105) hx hb d_M_corner_88 (by decide) ?_
              subst hQf
              exact W.iret (v := r85) hx hb hr (fun t ht hW => ⟨⟨r85, u31_0, rfl, h, by rw [ht]; exact hP, va_K.moved hW.alike hK, hD⟩, hS.F ht⟩) hS.2.2 d_M_corner_105
          · have h := h.2 cc_
            refine lv_aload_n hx hb d_M_corner_70 rfl (lv_at hl 0 rfl) ?_
            refine lv_iload_n hx hb d_M_corner_71 rfl (lv_at hl 1 rfl) ?_
            obtain ⟨Q72, hq72, h⟩ := h
            have hPc := hP.sub (ws' := (cw_M_cornerY cI a_this a_cornerAt a_froms a_sizes a_ys a_colours a_layersOf a_areas a_xs a_used a_counts a_costs a_firsts a_manys a_fs a_px a_py a_groups a_joinF n_cornerAt n_froms n_sizes n_ys u31_0 c_width c_height c_isTraced c_outlines c_points c_hasPolygon c_of c_corners c_costSum c_hasCurves c_curveCount c_sharp c_allowed f_cornerAt f_froms f_sizes f_ys)) [0, 1, 2, 3, 5] rfl
            have hDc := hD.sub (ws' := (cw_M_cornerY cI a_this a_cornerAt a_froms a_sizes a_ys a_colours a_layersOf a_areas a_xs a_used a_counts a_costs a_firsts a_manys a_fs a_px a_py a_groups a_joinF n_cornerAt n_froms n_sizes n_ys u31_0 c_width c_height c_isTraced c_outlines c_points c_hasPolygon c_of c_corners c_costSum c_hasCurves c_curveCount c_sharp c_allowed f_cornerAt f_froms f_sizes f_ys)) [0, 1, 2, 3, 5] (by decide) rfl
            have hFc := va_free (wc := (cw_M_cornerY cI a_this a_cornerAt a_froms a_sizes a_ys a_colours a_layersOf a_areas a_xs a_used a_counts a_costs a_firsts a_manys a_fs a_px a_py a_groups a_joinF n_cornerAt n_froms n_sizes n_ys u31_0 c_width c_height c_isTraced c_outlines c_points c_hasPolygon c_of c_corners c_costSum c_hasCurves c_curveCount c_sharp c_allowed f_cornerAt f_froms f_sizes f_ys)) hD hS hA [0, 1, 2, 3, 5] rfl
            refine va_calli (va_runV (As := [.int x1_j31]) (rest := []) ⟨hx, hb, hml, hown, hts⟩ (c_M_cornerY l dC dI cI cB cJ cZ a_this a_cornerAt a_froms a_sizes a_ys a_colours a_layersOf a_areas a_xs a_used a_counts a_costs a_firsts a_manys a_fs a_px a_py a_groups a_joinF H.size n_cornerAt n_froms n_sizes n_ys u31_0 c_width c_height c_isTraced c_outlines c_points c_hasPolygon c_of c_corners c_costSum c_hasCurves c_curveCount c_sharp c_allowed f_cornerAt f_froms f_sizes f_ys x1_j31 Q72 hq72) (cwV 1 hts (goodV q_878 q_880 q_p46 q_7 q_881) rfl rfl rfl (by decide +kernel) ⟨Nat.le_of_ble_eq_true rfl, Nat.le_of_ble_eq_true rfl⟩) ⟨fun a U g mk q => by obtain ⟨q0, q1, qP, qK, qD⟩ := q; exact ⟨q0, q1, qP, va_K.moved (u := U) (U := U.calling g mk a) (Vm.Alike.refl U.vm) qK, qD⟩, va_recv hK hPc (ci := 5) (q0 := 0) rfl rfl, fun U hU hW => ⟨rfl, by rw [hU], by rw [hU]; exact hPc, va_K.moved hW.alike hK, hDc.weaken (fun _ _ _ _ => trivial)⟩⟩ rfl rfl hl.1 rfl (lv_room (Nat.le_of_ble_eq_true rfl)) d_M_corner_72 ⟨Nat.le_of_ble_eq_true rfl, Nat.le_of_ble_eq_true rfl⟩) hS (fun q _ h => hFc q h) hFc (fun r72 u72 t H1 locs ht hvm hw hB hz1 hk1 hS => ?_)
            cases u72
            obtain ⟨hP1, -, hD1⟩ := hB
            rw [ht] at hP1
            have h := h r72 hw
            obtain ⟨hP, hD⟩ := va_join (wr := [(a_xs, .inl (cI, n_xs, .inl f_xs))]) (w1 := (cw_M_cornerY cI a_this a_cornerAt a_froms a_sizes a_ys a_colours a_layersOf a_areas a_xs a_used a_counts a_costs a_firsts a_manys a_fs a_px a_py a_groups a_joinF n_cornerAt n_froms n_sizes n_ys u31_0 c_width c_height c_isTraced c_outlines c_points c_hasPolygon c_of c_corners c_costSum c_hasCurves c_curveCount c_sharp c_allowed f_cornerAt f_froms f_sizes f_ys)) hP hD [0, 1, 2, 3, 5] [4] rfl rfl (by decide) (by decide) hk1 hFc hP1 hD1
            clear hP1 hD1 hk1 hPc hDc hFc
            generalize H1 = H at hP hS ⊢
            have hP : va_P (dC, dI) vwCl (cw_M_corner cI a_this a_cornerAt a_froms a_sizes a_xs a_ys a_colours a_layersOf a_areas a_used a_counts a_costs a_firsts a_manys a_fs a_px a_py a_groups a_joinF n_cornerAt n_froms n_sizes n_xs n_ys u31_0 c_width c_height c_isTraced c_outlines c_points c_hasPolygon c_of c_corners c_costSum c_hasCurves c_curveCount c_sharp c_allowed f_cornerAt f_froms f_sizes f_xs f_ys) H := hP.sub [1, 2, 3, 4, 0, 5] rfl
            have hD : va_D A (cw_M_corner cI a_this a_cornerAt a_froms a_sizes a_xs a_ys a_colours a_layersOf a_areas a_used a_counts a_costs a_firsts a_manys a_fs a_px a_py a_groups a_joinF n_cornerAt n_froms n_sizes n_xs n_ys u31_0 c_width c_height c_isTraced c_outlines c_points c_hasPolygon c_of c_corners c_costSum c_hasCurves c_curveCount c_sharp c_allowed f_cornerAt f_froms f_sizes f_xs f_ys) := hD.sub [1, 2, 3, 4, 0, 5] (by decide) rfl
            refine lv_goto (tgt := 105) hx hb d_M_corner_75 (by decide) ?_
            subst hQf
            exact W.iret (v := r72) hx hb hr (fun t ht hW => ⟨⟨r72, u31_0, rfl, h, by rw [ht]; exact hP, va_K.moved hW.alike hK, hD⟩, hS.F ht⟩) hS.2.2 d_M_corner_105
        · have h := h.2 cc_
          refine lv_aload_n hx hb d_M_corner_57 rfl (lv_at hl 0 rfl) ?_
          refine lv_iload_n hx hb d_M_corner_58 rfl (lv_at hl 1 rfl) ?_
          obtain ⟨Q59, hq59, h⟩ := h
          have hPc := hP.sub (ws' := (cw_M_cornerX cI a_this a_cornerAt a_froms a_sizes a_xs a_colours a_layersOf a_areas a_ys a_used a_counts a_costs a_firsts a_manys a_fs a_px a_py a_groups a_joinF n_cornerAt n_froms n_sizes n_xs u31_0 c_width c_height c_isTraced c_outlines c_points c_hasPolygon c_of c_corners c_costSum c_hasCurves c_curveCount c_sharp c_allowed f_cornerAt f_froms f_sizes f_xs)) [0, 1, 2, 3, 4] rfl
          have hDc := hD.sub (ws' := (cw_M_cornerX cI a_this a_cornerAt a_froms a_sizes a_xs a_colours a_layersOf a_areas a_ys a_used a_counts a_costs a_firsts a_manys a_fs a_px a_py a_groups a_joinF n_cornerAt n_froms n_sizes n_xs u31_0 c_width c_height c_isTraced c_outlines c_points c_hasPolygon c_of c_corners c_costSum c_hasCurves c_curveCount c_sharp c_allowed f_cornerAt f_froms f_sizes f_xs)) [0, 1, 2, 3, 4] (by decide) rfl
          have hFc := va_free (wc := (cw_M_cornerX cI a_this a_cornerAt a_froms a_sizes a_xs a_colours a_layersOf a_areas a_ys a_used a_counts a_costs a_firsts a_manys a_fs a_px a_py a_groups a_joinF n_cornerAt n_froms n_sizes n_xs u31_0 c_width c_height c_isTraced c_outlines c_points c_hasPolygon c_of c_corners c_costSum c_hasCurves c_curveCount c_sharp c_allowed f_cornerAt f_froms f_sizes f_xs)) hD hS hA [0, 1, 2, 3, 4] rfl
          refine va_calli (va_runV (As := [.int x1_j31]) (rest := []) ⟨hx, hb, hml, hown, hts⟩ (c_M_cornerX l dC dI cI cB cJ cZ a_this a_cornerAt a_froms a_sizes a_xs a_colours a_layersOf a_areas a_ys a_used a_counts a_costs a_firsts a_manys a_fs a_px a_py a_groups a_joinF H.size n_cornerAt n_froms n_sizes n_xs u31_0 c_width c_height c_isTraced c_outlines c_points c_hasPolygon c_of c_corners c_costSum c_hasCurves c_curveCount c_sharp c_allowed f_cornerAt f_froms f_sizes f_xs x1_j31 Q59 hq59) (cwV 1 hts (goodV q_874 q_876 q_p45 q_7 q_877) rfl rfl rfl (by decide +kernel) ⟨Nat.le_of_ble_eq_true rfl, Nat.le_of_ble_eq_true rfl⟩) ⟨fun a U g mk q => by obtain ⟨q0, q1, qP, qK, qD⟩ := q; exact ⟨q0, q1, qP, va_K.moved (u := U) (U := U.calling g mk a) (Vm.Alike.refl U.vm) qK, qD⟩, va_recv hK hPc (ci := 5) (q0 := 0) rfl rfl, fun U hU hW => ⟨rfl, by rw [hU], by rw [hU]; exact hPc, va_K.moved hW.alike hK, hDc.weaken (fun _ _ _ _ => trivial)⟩⟩ rfl rfl hl.1 rfl (lv_room (Nat.le_of_ble_eq_true rfl)) d_M_corner_59 ⟨Nat.le_of_ble_eq_true rfl, Nat.le_of_ble_eq_true rfl⟩) hS (fun q _ h => hFc q h) hFc (fun r59 u59 t H1 locs ht hvm hw hB hz1 hk1 hS => ?_)
          cases u59
          obtain ⟨hP1, -, hD1⟩ := hB
          rw [ht] at hP1
          have h := h r59 hw
          obtain ⟨hP, hD⟩ := va_join (wr := [(a_ys, .inl (cI, n_ys, .inl f_ys))]) (w1 := (cw_M_cornerX cI a_this a_cornerAt a_froms a_sizes a_xs a_colours a_layersOf a_areas a_ys a_used a_counts a_costs a_firsts a_manys a_fs a_px a_py a_groups a_joinF n_cornerAt n_froms n_sizes n_xs u31_0 c_width c_height c_isTraced c_outlines c_points c_hasPolygon c_of c_corners c_costSum c_hasCurves c_curveCount c_sharp c_allowed f_cornerAt f_froms f_sizes f_xs)) hP hD [0, 1, 2, 3, 4] [5] rfl rfl (by decide) (by decide) hk1 hFc hP1 hD1
          clear hP1 hD1 hk1 hPc hDc hFc
          generalize H1 = H at hP hS ⊢
          have hP : va_P (dC, dI) vwCl (cw_M_corner cI a_this a_cornerAt a_froms a_sizes a_xs a_ys a_colours a_layersOf a_areas a_used a_counts a_costs a_firsts a_manys a_fs a_px a_py a_groups a_joinF n_cornerAt n_froms n_sizes n_xs n_ys u31_0 c_width c_height c_isTraced c_outlines c_points c_hasPolygon c_of c_corners c_costSum c_hasCurves c_curveCount c_sharp c_allowed f_cornerAt f_froms f_sizes f_xs f_ys) H := hP.sub [1, 2, 3, 4, 5, 0] rfl
          have hD : va_D A (cw_M_corner cI a_this a_cornerAt a_froms a_sizes a_xs a_ys a_colours a_layersOf a_areas a_used a_counts a_costs a_firsts a_manys a_fs a_px a_py a_groups a_joinF n_cornerAt n_froms n_sizes n_xs n_ys u31_0 c_width c_height c_isTraced c_outlines c_points c_hasPolygon c_of c_corners c_costSum c_hasCurves c_curveCount c_sharp c_allowed f_cornerAt f_froms f_sizes f_xs f_ys) := hD.sub [1, 2, 3, 4, 5, 0] (by decide) rfl
          refine lv_goto (tgt := 105) hx hb d_M_corner_62 (by decide) ?_
          subst hQf
          exact W.iret (v := r59) hx hb hr (fun t ht hW => ⟨⟨r59, u31_0, rfl, h, by rw [ht]; exact hP, va_K.moved hW.alike hK, hD⟩, hS.F ht⟩) hS.2.2 d_M_corner_105
      · have h := h.2 cc_
        refine lv_aload_n hx hb d_M_corner_43 rfl (lv_at hl 0 rfl) ?_
        refine va_get (D := (dC, dI)) (ci := 5) (v := .ref a_cornerAt) (C := R_M) (T := F_M) (N := 32) hx hb hts i_M_in hown hK hP 0 rfl rfl 18 (by decide) (hts _ q_679) (fun _ h9 => h9) rfl d_M_corner_44 ?_
        refine lv_iload_n hx hb d_M_corner_47 rfl (lv_at hl 1 rfl) ?_
        obtain ⟨hin, h⟩ := h
        refine va_iald hx hb hK hP 1 0 rfl rfl hin d_M_corner_48 ?_
        refine lv_goto (tgt := 105) hx hb d_M_corner_49 (by decide) ?_
        subst hQf
        exact W.iret (v := (f_cornerAt x1_j31.toNatClampNeg)) hx hb hr (fun t ht hW => ⟨⟨(f_cornerAt x1_j31.toNatClampNeg), u31_0, rfl, h, by rw [ht]; exact hP, va_K.moved hW.alike hK, hD⟩, hS.F ht⟩) hS.2.2 d_M_corner_105
    · have h := h.2 cc_
      refine lv_iconst (v := 0) hx hb d_M_corner_37 (by decide) ?_
      subst hQf
      exact W.iret (v := (0 : Int32)) hx hb hr (fun t ht hW => ⟨⟨(0 : Int32), u31_0, rfl, h, by rw [ht]; exact hP, va_K.moved hW.alike hK, hD⟩, hS.F ht⟩) hS.2.2 d_M_corner_38
  refine lv_aload_n hx hb d_M_corner_0 rfl (lv_at hl 0 rfl) ?_
  refine lv_aload_n hx hb d_M_corner_1 rfl (lv_at hl 0 rfl) ?_
  refine va_get (D := (dC, dI)) (ci := 5) (v := .int c_hasPolygon) (C := R_M) (T := F_M) (N := 32) hx hb hts i_M_in hown hK hP 0 rfl rfl 14 (by decide) (hts _ q_675) (fun _ h9 => h9) rfl d_M_corner_2 ?_
  refine lv_if_ne (tgt := 12) hx hb d_M_corner_5 (by decide) (fun cc_ => ?_) (fun cc_ => ?_)
  · have h := h.1 cc_
    refine lv_iload_n hx hb d_M_corner_12 rfl (lv_at hl 1 rfl) ?_
    refine lv_iconst (v := 0) hx hb d_M_corner_13 (by decide) ?_
    refine lv_aload_n hx hb d_M_corner_14 rfl (lv_at hl 0 rfl) ?_
    refine va_get (D := (dC, dI)) (ci := 5) (v := .int c_corners) (C := R_M) (T := F_M) (N := 32) hx hb hts i_M_in hown hK hP 0 rfl rfl 16 (by decide) (hts _ q_677) (fun _ h9 => h9) rfl d_M_corner_15 ?_
    refine lv_iconst (v := 1) hx hb d_M_corner_18 (by decide) ?_
    refine lv_isub hx hb d_M_corner_19 ?_
    obtain ⟨Q20, hq20, h⟩ := h
    have hPc := hP.sub (ws' := (cw_M_in)) [] rfl
    have hDc := hD.sub (ws' := (cw_M_in)) [] (by decide) rfl
    have hFc := va_free (wc := (cw_M_in)) hD hS hA [] rfl
    refine va_calli (va_runS (As := [.int x1, .int (0 : Int32), .int (c_corners - (1 : Int32))]) (rest := [.ref a_this]) ⟨hx, hb, hml, hown, hts⟩ (c_M_in l dC dI cI cB cJ cZ s.heap.size x1 (0 : Int32) (c_corners - (1 : Int32)) Q20 hq20) (va_cwS 3 hts (goodS q_771 q_772 q_7 q_773) rfl rfl rfl (by decide +kernel) ⟨Nat.le_of_ble_eq_true rfl, Nat.le_of_ble_eq_true rfl⟩) ⟨fun a U g mk q => by obtain ⟨q0, q1, qP, qK, qD⟩ := q; exact ⟨q0, q1, qP, va_K.moved (u := U) (U := U.calling g mk a) (Vm.Alike.refl U.vm) qK, qD⟩, fun U hU hW => ⟨rfl, by rw [hU], by rw [hU]; exact hPc, va_K.moved hW.alike hK, hDc.weaken (fun _ _ _ _ => trivial)⟩⟩ rfl rfl hl.1 rfl (lv_room (Nat.le_of_ble_eq_true rfl)) d_M_corner_20 ⟨Nat.le_of_ble_eq_true rfl, Nat.le_of_ble_eq_true rfl⟩) hS (fun q _ h => hFc q h) hFc (fun r20 u20 t H1 locs ht hvm hw hB hz1 hk1 hS => ?_)
    cases u20
    obtain ⟨hP1, -, hD1⟩ := hB
    rw [ht] at hP1
    have h := h r20 hw
    obtain ⟨hP, hD⟩ := va_join (wr := [(a_this, .inr (5, [.int c_code, .int c_width, .int c_height, .ref a_colours, .int c_isTraced, .int c_outlines, .ref a_froms, .ref a_sizes, .ref a_layersOf, .ref a_areas, .int c_points, .ref a_xs, .ref a_ys, .ref a_used, .int c_hasPolygon, .int c_of, .int c_corners, .int c_costSum, .ref a_cornerAt, .ref a_counts, .ref a_costs, .int c_hasCurves, .int c_curveCount, .ref a_firsts, .ref a_manys, .ref a_fs, .int c_sharp, .int c_allowed, .ref a_px, .ref a_py, .ref a_groups, .ref a_joinF])), (a_cornerAt, .inl (cI, n_cornerAt, .inl f_cornerAt)), (a_froms, .inl (cI, n_froms, .inl f_froms)), (a_sizes, .inl (cI, n_sizes, .inl f_sizes)), (a_xs, .inl (cI, n_xs, .inl f_xs)), (a_ys, .inl (cI, n_ys, .inl f_ys))]) (w1 := (cw_M_in)) hP hD [] [0, 1, 2, 3, 4, 5] rfl rfl (by decide) (by decide) hk1 hFc hP1 hD1
    clear hP1 hD1 hk1 hPc hDc hFc
    generalize H1 = H at hP hS ⊢
    have hP : va_P (dC, dI) vwCl (cw_M_corner cI a_this a_cornerAt a_froms a_sizes a_xs a_ys a_colours a_layersOf a_areas a_used a_counts a_costs a_firsts a_manys a_fs a_px a_py a_groups a_joinF n_cornerAt n_froms n_sizes n_xs n_ys c_code c_width c_height c_isTraced c_outlines c_points c_hasPolygon c_of c_corners c_costSum c_hasCurves c_curveCount c_sharp c_allowed f_cornerAt f_froms f_sizes f_xs f_ys) H := hP.sub [0, 1, 2, 3, 4, 5] rfl
    have hD : va_D A (cw_M_corner cI a_this a_cornerAt a_froms a_sizes a_xs a_ys a_colours a_layersOf a_areas a_used a_counts a_costs a_firsts a_manys a_fs a_px a_py a_groups a_joinF n_cornerAt n_froms n_sizes n_xs n_ys c_code c_width c_height c_isTraced c_outlines c_points c_hasPolygon c_of c_corners c_costSum c_hasCurves c_curveCount c_sharp c_allowed f_cornerAt f_froms f_sizes f_xs f_ys) := hD.sub [0, 1, 2, 3, 4, 5] (by decide) rfl
    refine lv_if_ne (tgt := 30) hx hb d_M_corner_23 (by decide) (fun cc_ => ?_) (fun cc_ => ?_)
    · have h := h.1 cc_
      refine lv_iconst (v := 0) hx hb d_M_corner_30 (by decide) ?_
      exact J31 x1 x2 (0 : Int32) c_code _ _ _ h hP hD hS (lv_sub hl [0, 1, 2] rfl)
    · have h := h.2 cc_
      refine lv_iconst (v := 2) hx hb d_M_corner_26 (by decide) ?_
      refine lv_goto (tgt := 31) hx hb d_M_corner_27 (by decide) ?_
      exact J31 x1 x2 (2 : Int32) c_code _ _ _ h hP hD hS (lv_sub hl [0, 1, 2] rfl)
  · have h := h.2 cc_
    refine lv_iconst (v := 1) hx hb d_M_corner_8 (by decide) ?_
    refine lv_goto (tgt := 31) hx hb d_M_corner_9 (by decide) ?_
    exact J31 x1 x2 (1 : Int32) c_code _ _ _ h hP hD hS (lv_sub hl [0, 1, 2] rfl)
def wp_M_set_J278 (n_cornerAt n_froms n_sizes n_xs n_px n_ys n_py : Nat) (c_of : Int32) (c_corners : Int32) (f_cornerAt : Nat → Int32) (f_froms : Nat → Int32) (f_sizes : Nat → Int32) (f_xs : Nat → Int32) (f_ys : Nat → Int32) (f_px : Nat → Int32) (f_py : Nat → Int32) (y0 : Int32) (y1 : Int32) (post : ((Nat → Int32) × (Nat → Int32)) → Prop) : Prop :=
  vp_in y1 n_py ∧ ∀ f278 : Nat → Int32, f278 = upd f_py y1.toNatClampNeg y0 → post (f_px, f278)
def wp_M_set_J235 (n_cornerAt n_froms n_sizes n_xs n_px n_ys n_py : Nat) (c_of : Int32) (c_corners : Int32) (f_cornerAt : Nat → Int32) (f_froms : Nat → Int32) (f_sizes : Nat → Int32) (f_xs : Nat → Int32) (f_ys : Nat → Int32) (f_px : Nat → Int32) (f_py : Nat → Int32) (x1 : Int32) (x3 : Int32) (x5 : Int32) (x6 : Int32) (y0 : Int32) (y1 : Int32) (post : ((Nat → Int32) × (Nat → Int32)) → Prop) : Prop :=
  vp_in y1 n_px ∧ ∀ f235 : Nat → Int32, f235 = upd f_px y1.toNatClampNeg y0 → (¬ x3 = 0 → vp_in (3 : Int32) n_py ∧ ∃ Q266 : Int32 → Unit → Prop, wp_M_cornerY n_cornerAt n_froms n_sizes n_ys c_of c_corners f_cornerAt f_froms f_sizes f_ys x6 Q266 ∧ ∀ (r266 : Int32), Q266 r266 () → ∃ Q272 : Int32 → Unit → Prop, wp_M_cornerY n_cornerAt n_froms n_sizes n_ys c_of c_corners f_cornerAt f_froms f_sizes f_ys x5 Q272 ∧ ∀ (r272 : Int32), Q272 r272 () → wp_M_set_J278 n_cornerAt n_froms n_sizes n_xs n_px n_ys n_py c_of c_corners f_cornerAt f_froms f_sizes f_xs f_ys f235 f_py ((f_py (3 : Int32).toNatClampNeg) - (x3 * (r266 - r272))) (2 : Int32) post) ∧ (x3 = 0 → ∃ Q249 : Int32 → Unit → Prop, wp_M_cornerY n_cornerAt n_froms n_sizes n_ys c_of c_corners f_cornerAt f_froms f_sizes f_ys x1 Q249 ∧ ∀ (r249 : Int32), Q249 r249 () → wp_M_set_J278 n_cornerAt n_froms n_sizes n_xs n_px n_ys n_py c_of c_corners f_cornerAt f_froms f_sizes f_xs f_ys f235 f_py ((32 : Int32) * r249) (2 : Int32) post)
def wp_M_set_J192 (n_cornerAt n_froms n_sizes n_xs n_px n_ys n_py : Nat) (c_of : Int32) (c_corners : Int32) (f_cornerAt : Nat → Int32) (f_froms : Nat → Int32) (f_sizes : Nat → Int32) (f_xs : Nat → Int32) (f_ys : Nat → Int32) (f_px : Nat → Int32) (f_py : Nat → Int32) (x1 : Int32) (x3 : Int32) (x5 : Int32) (x6 : Int32) (y0 : Int32) (y1 : Int32) (post : ((Nat → Int32) × (Nat → Int32)) → Prop) : Prop :=
  vp_in y1 n_py ∧ ∀ f192 : Nat → Int32, f192 = upd f_py y1.toNatClampNeg y0 → (¬ x3 = 0 → vp_in (3 : Int32) n_px ∧ ∃ Q223 : Int32 → Unit → Prop, wp_M_cornerX n_cornerAt n_froms n_sizes n_xs c_of c_corners f_cornerAt f_froms f_sizes f_xs x6 Q223 ∧ ∀ (r223 : Int32), Q223 r223 () → ∃ Q229 : Int32 → Unit → Prop, wp_M_cornerX n_cornerAt n_froms n_sizes n_xs c_of c_corners f_cornerAt f_froms f_sizes f_xs x5 Q229 ∧ ∀ (r229 : Int32), Q229 r229 () → wp_M_set_J235 n_cornerAt n_froms n_sizes n_xs n_px n_ys n_py c_of c_corners f_cornerAt f_froms f_sizes f_xs f_ys f_px f192 x1 x3 x5 x6 ((f_px (3 : Int32).toNatClampNeg) - (x3 * (r223 - r229))) (2 : Int32) post) ∧ (x3 = 0 → ∃ Q206 : Int32 → Unit → Prop, wp_M_cornerX n_cornerAt n_froms n_sizes n_xs c_of c_corners f_cornerAt f_froms f_sizes f_xs x1 Q206 ∧ ∀ (r206 : Int32), Q206 r206 () → wp_M_set_J235 n_cornerAt n_froms n_sizes n_xs n_px n_ys n_py c_of c_corners f_cornerAt f_froms f_sizes f_xs f_ys f_px f192 x1 x3 x5 x6 ((32 : Int32) * r206) (2 : Int32) post)
def wp_M_set_J150 (n_cornerAt n_froms n_sizes n_xs n_px n_ys n_py : Nat) (c_of : Int32) (c_corners : Int32) (f_cornerAt : Nat → Int32) (f_froms : Nat → Int32) (f_sizes : Nat → Int32) (f_xs : Nat → Int32) (f_ys : Nat → Int32) (f_px : Nat → Int32) (f_py : Nat → Int32) (x1 : Int32) (x3 : Int32) (x4 : Int32) (x5 : Int32) (x6 : Int32) (y0 : Int32) (y1 : Int32) (post : ((Nat → Int32) × (Nat → Int32)) → Prop) : Prop :=
  vp_in y1 n_px ∧ ∀ f150 : Nat → Int32, f150 = upd f_px y1.toNatClampNeg y0 → (¬ x3 = 0 → vp_in (0 : Int32) n_py ∧ ∃ Q180 : Int32 → Unit → Prop, wp_M_cornerY n_cornerAt n_froms n_sizes n_ys c_of c_corners f_cornerAt f_froms f_sizes f_ys x1 Q180 ∧ ∀ (r180 : Int32), Q180 r180 () → ∃ Q186 : Int32 → Unit → Prop, wp_M_cornerY n_cornerAt n_froms n_sizes n_ys c_of c_corners f_cornerAt f_froms f_sizes f_ys x4 Q186 ∧ ∀ (r186 : Int32), Q186 r186 () → wp_M_set_J192 n_cornerAt n_froms n_sizes n_xs n_px n_ys n_py c_of c_corners f_cornerAt f_froms f_sizes f_xs f_ys f150 f_py x1 x3 x5 x6 ((f_py (0 : Int32).toNatClampNeg) + (x3 * (r180 - r186))) (1 : Int32) post) ∧ (x3 = 0 → ∃ Q164 : Int32 → Unit → Prop, wp_M_cornerY n_cornerAt n_froms n_sizes n_ys c_of c_corners f_cornerAt f_froms f_sizes f_ys x1 Q164 ∧ ∀ (r164 : Int32), Q164 r164 () → wp_M_set_J192 n_cornerAt n_froms n_sizes n_xs n_px n_ys n_py c_of c_corners f_cornerAt f_froms f_sizes f_xs f_ys f150 f_py x1 x3 x5 x6 ((32 : Int32) * r164) (1 : Int32) post)
def wp_M_set (n_cornerAt n_froms n_sizes n_xs n_px n_ys n_py : Nat) (c_of : Int32) (c_corners : Int32) (f_cornerAt : Nat → Int32) (f_froms : Nat → Int32) (f_sizes : Nat → Int32) (f_xs : Nat → Int32) (f_px : Nat → Int32) (f_ys : Nat → Int32) (f_py : Nat → Int32) (x1 : Int32) (x2 : Int32) (x3 : Int32) (post : ((Nat → Int32) × (Nat → Int32)) → Prop) : Prop :=
  ∀ x4_8 : Int32, x4_8 = ((x1 + c_corners) - (1 : Int32)) → ∀ x5_15 : Int32, x5_15 = ((x1 + x2) - (1 : Int32)) → ∀ x6_21 : Int32, x6_21 = (x5_15 + (1 : Int32)) → ∃ Q33 : Int32 → Unit → Prop, wp_M_cornerX n_cornerAt n_froms n_sizes n_xs c_of c_corners f_cornerAt f_froms f_sizes f_xs x4_8 Q33 ∧ ∀ (r33 : Int32), Q33 r33 () → ∃ Q38 : Int32 → Unit → Prop, wp_M_cornerX n_cornerAt n_froms n_sizes n_xs c_of c_corners f_cornerAt f_froms f_sizes f_xs x1 Q38 ∧ ∀ (r38 : Int32), Q38 r38 () → vp_in (0 : Int32) n_px ∧ ∀ f43 : Nat → Int32, f43 = upd f_px (0 : Int32).toNatClampNeg ((16 : Int32) * (r33 + r38)) → ∃ Q54 : Int32 → Unit → Prop, wp_M_cornerY n_cornerAt n_froms n_sizes n_ys c_of c_corners f_cornerAt f_froms f_sizes f_ys x4_8 Q54 ∧ ∀ (r54 : Int32), Q54 r54 () → ∃ Q59 : Int32 → Unit → Prop, wp_M_cornerY n_cornerAt n_froms n_sizes n_ys c_of c_corners f_cornerAt f_froms f_sizes f_ys x1 Q59 ∧ ∀ (r59 : Int32), Q59 r59 () → vp_in (0 : Int32) n_py ∧ ∀ f64 : Nat → Int32, f64 = upd f_py (0 : Int32).toNatClampNeg ((16 : Int32) * (r54 + r59)) → ∃ Q75 : Int32 → Unit → Prop, wp_M_cornerX n_cornerAt n_froms n_sizes n_xs c_of c_corners f_cornerAt f_froms f_sizes f_xs x5_15 Q75 ∧ ∀ (r75 : Int32), Q75 r75 () → ∃ Q81 : Int32 → Unit → Prop, wp_M_cornerX n_cornerAt n_froms n_sizes n_xs c_of c_corners f_cornerAt f_froms f_sizes f_xs x6_21 Q81 ∧ ∀ (r81 : Int32), Q81 r81 () → vp_in (3 : Int32) n_px ∧ ∀ f86 : Nat → Int32, f86 = upd f43 (3 : Int32).toNatClampNeg ((16 : Int32) * (r75 + r81)) → ∃ Q97 : Int32 → Unit → Prop, wp_M_cornerY n_cornerAt n_froms n_sizes n_ys c_of c_corners f_cornerAt f_froms f_sizes f_ys x5_15 Q97 ∧ ∀ (r97 : Int32), Q97 r97 () → ∃ Q103 : Int32 → Unit → Prop, wp_M_cornerY n_cornerAt n_froms n_sizes n_ys c_of c_corners f_cornerAt f_froms f_sizes f_ys x6_21 Q103 ∧ ∀ (r103 : Int32), Q103 r103 () → vp_in (3 : Int32) n_py ∧ ∀ f108 : Nat → Int32, f108 = upd f64 (3 : Int32).toNatClampNeg ((16 : Int32) * (r97 + r103)) → (¬ x3 = 0 → vp_in (0 : Int32) n_px ∧ ∃ Q138 : Int32 → Unit → Prop, wp_M_cornerX n_cornerAt n_froms n_sizes n_xs c_of c_corners f_cornerAt f_froms f_sizes f_xs x1 Q138 ∧ ∀ (r138 : Int32), Q138 r138 () → ∃ Q144 : Int32 → Unit → Prop, wp_M_cornerX n_cornerAt n_froms n_sizes n_xs c_of c_corners f_cornerAt f_froms f_sizes f_xs x4_8 Q144 ∧ ∀ (r144 : Int32), Q144 r144 () → wp_M_set_J150 n_cornerAt n_froms n_sizes n_xs n_px n_ys n_py c_of c_corners f_cornerAt f_froms f_sizes f_xs f_ys f86 f108 x1 x3 x4_8 x5_15 x6_21 ((f86 (0 : Int32).toNatClampNeg) + (x3 * (r138 - r144))) (1 : Int32) post) ∧ (x3 = 0 → ∃ Q122 : Int32 → Unit → Prop, wp_M_cornerX n_cornerAt n_froms n_sizes n_xs c_of c_corners f_cornerAt f_froms f_sizes f_xs x1 Q122 ∧ ∀ (r122 : Int32), Q122 r122 () → wp_M_set_J150 n_cornerAt n_froms n_sizes n_xs n_px n_ys n_py c_of c_corners f_cornerAt f_froms f_sizes f_xs f_ys f86 f108 x1 x3 x4_8 x5_15 x6_21 ((32 : Int32) * r122) (1 : Int32) post)
abbrev cw_M_set (cI : ClassId) (a_this a_cornerAt a_froms a_sizes a_xs a_px a_ys a_py a_colours a_layersOf a_areas a_used a_counts a_costs a_firsts a_manys a_fs a_groups a_joinF : Nat) (n_cornerAt n_froms n_sizes n_xs n_px n_ys n_py : Nat) (c_code : Int32) (c_width : Int32) (c_height : Int32) (c_isTraced : Int32) (c_outlines : Int32) (c_points : Int32) (c_hasPolygon : Int32) (c_of : Int32) (c_corners : Int32) (c_costSum : Int32) (c_hasCurves : Int32) (c_curveCount : Int32) (c_sharp : Int32) (c_allowed : Int32) (f_cornerAt : Nat → Int32) (f_froms : Nat → Int32) (f_sizes : Nat → Int32) (f_xs : Nat → Int32) (f_px : Nat → Int32) (f_ys : Nat → Int32) (f_py : Nat → Int32) : va_W := [(a_this, .inr (5, [.int c_code, .int c_width, .int c_height, .ref a_colours, .int c_isTraced, .int c_outlines, .ref a_froms, .ref a_sizes, .ref a_layersOf, .ref a_areas, .int c_points, .ref a_xs, .ref a_ys, .ref a_used, .int c_hasPolygon, .int c_of, .int c_corners, .int c_costSum, .ref a_cornerAt, .ref a_counts, .ref a_costs, .int c_hasCurves, .int c_curveCount, .ref a_firsts, .ref a_manys, .ref a_fs, .int c_sharp, .int c_allowed, .ref a_px, .ref a_py, .ref a_groups, .ref a_joinF])), (a_cornerAt, .inl (cI, n_cornerAt, .inl f_cornerAt)), (a_froms, .inl (cI, n_froms, .inl f_froms)), (a_sizes, .inl (cI, n_sizes, .inl f_sizes)), (a_xs, .inl (cI, n_xs, .inl f_xs)), (a_px, .inl (cI, n_px, .inl f_px)), (a_ys, .inl (cI, n_ys, .inl f_ys)), (a_py, .inl (cI, n_py, .inl f_py))]
abbrev qq_M_set (dC : Nat → ClassId) (dI : Nat → Nat → Nat) (cI cB cJ cZ : ClassId) (a_this a_cornerAt a_froms a_sizes a_xs a_px a_ys a_py a_colours a_layersOf a_areas a_used a_counts a_costs a_firsts a_manys a_fs a_groups a_joinF : Nat) (n_cornerAt n_froms n_sizes n_xs n_px n_ys n_py : Nat) (c_code : Int32) (c_width : Int32) (c_height : Int32) (c_isTraced : Int32) (c_outlines : Int32) (c_points : Int32) (c_hasPolygon : Int32) (c_of : Int32) (c_corners : Int32) (c_costSum : Int32) (c_hasCurves : Int32) (c_curveCount : Int32) (c_sharp : Int32) (c_allowed : Int32) (f_cornerAt : Nat → Int32) (f_froms : Nat → Int32) (f_sizes : Nat → Int32) (f_xs : Nat → Int32) (f_ys : Nat → Int32) (A : Nat → Prop) (post : ((Nat → Int32) × (Nat → Int32)) → Prop) : Array Value → State → Outcome → State → Prop := va_Qv post (fun u t => va_P (dC, dI) vwCl (cw_M_set cI a_this a_cornerAt a_froms a_sizes a_xs a_px a_ys a_py a_colours a_layersOf a_areas a_used a_counts a_costs a_firsts a_manys a_fs a_groups a_joinF n_cornerAt n_froms n_sizes n_xs n_px n_ys n_py c_code c_width c_height c_isTraced c_outlines c_points c_hasPolygon c_of c_corners c_costSum c_hasCurves c_curveCount c_sharp c_allowed f_cornerAt f_froms f_sizes f_xs u.1 f_ys u.2) t.heap ∧ va_K (dC, dI) vwCl [(cI, .int), (cB, .byte), (cJ, .long), (cZ, .boolean)] t ∧ va_D A (cw_M_set cI a_this a_cornerAt a_froms a_sizes a_xs a_px a_ys a_py a_colours a_layersOf a_areas a_used a_counts a_costs a_firsts a_manys a_fs a_groups a_joinF n_cornerAt n_froms n_sizes n_xs n_px n_ys n_py c_code c_width c_height c_isTraced c_outlines c_points c_hasPolygon c_of c_corners c_costSum c_hasCurves c_curveCount c_sharp c_allowed f_cornerAt f_froms f_sizes f_xs u.1 f_ys u.2)) A
set_option maxHeartbeats 4000000 in
set_option maxRecDepth 100000 in
theorem c_M_set (l : Launch) (dC : Nat → ClassId) (dI : Nat → Nat → Nat) (cI cB cJ cZ : ClassId) (a_this a_cornerAt a_froms a_sizes a_xs a_px a_ys a_py a_colours a_layersOf a_areas a_used a_counts a_costs a_firsts a_manys a_fs a_groups a_joinF : Nat) (sz : Nat) (n_cornerAt n_froms n_sizes n_xs n_px n_ys n_py : Nat) (c_code : Int32) (c_width : Int32) (c_height : Int32) (c_isTraced : Int32) (c_outlines : Int32) (c_points : Int32) (c_hasPolygon : Int32) (c_of : Int32) (c_corners : Int32) (c_costSum : Int32) (c_hasCurves : Int32) (c_curveCount : Int32) (c_sharp : Int32) (c_allowed : Int32) (f_cornerAt : Nat → Int32) (f_froms : Nat → Int32) (f_sizes : Nat → Int32) (f_xs : Nat → Int32) (f_px : Nat → Int32) (f_ys : Nat → Int32) (f_py : Nat → Int32) (x1 : Int32) (x2 : Int32) (x3 : Int32) (post : ((Nat → Int32) × (Nat → Int32)) → Prop) (h : wp_M_set n_cornerAt n_froms n_sizes n_xs n_px n_ys n_py c_of c_corners f_cornerAt f_froms f_sizes f_xs f_px f_ys f_py x1 x2 x3 post) : Met l y_M_set w_M_set ({ frames := 2, cells := 0, slots := 0, locals := 43 }) (va_Pc [.ref a_this, .int x1, .int x2, .int x3] (fun U => U.heap.size = sz ∧ va_P (dC, dI) vwCl (cw_M_set cI a_this a_cornerAt a_froms a_sizes a_xs a_px a_ys a_py a_colours a_layersOf a_areas a_used a_counts a_costs a_firsts a_manys a_fs a_groups a_joinF n_cornerAt n_froms n_sizes n_xs n_px n_ys n_py c_code c_width c_height c_isTraced c_outlines c_points c_hasPolygon c_of c_corners c_costSum c_hasCurves c_curveCount c_sharp c_allowed f_cornerAt f_froms f_sizes f_xs f_px f_ys f_py) U.heap ∧ va_K (dC, dI) vwCl [(cI, .int), (cB, .byte), (cJ, .long), (cZ, .boolean)] U ∧ va_D (fun _ => True) (cw_M_set cI a_this a_cornerAt a_froms a_sizes a_xs a_px a_ys a_py a_colours a_layersOf a_areas a_used a_counts a_costs a_firsts a_manys a_fs a_groups a_joinF n_cornerAt n_froms n_sizes n_xs n_px n_ys n_py c_code c_width c_height c_isTraced c_outlines c_points c_hasPolygon c_of c_corners c_costSum c_hasCurves c_curveCount c_sharp c_allowed f_cornerAt f_froms f_sizes f_xs f_px f_ys f_py))) (qq_M_set dC dI cI cB cJ cZ a_this a_cornerAt a_froms a_sizes a_xs a_px a_ys a_py a_colours a_layersOf a_areas a_used a_counts a_costs a_firsts a_manys a_fs a_groups a_joinF n_cornerAt n_froms n_sizes n_xs n_px n_ys n_py c_code c_width c_height c_isTraced c_outlines c_points c_hasPolygon c_of c_corners c_costSum c_hasCurves c_curveCount c_sharp c_allowed f_cornerAt f_froms f_sizes f_xs f_ys (va_A (cw_M_set cI a_this a_cornerAt a_froms a_sizes a_xs a_px a_ys a_py a_colours a_layersOf a_areas a_used a_counts a_costs a_firsts a_manys a_fs a_groups a_joinF n_cornerAt n_froms n_sizes n_xs n_px n_ys n_py c_code c_width c_height c_isTraced c_outlines c_points c_hasPolygon c_of c_corners c_costSum c_hasCurves c_curveCount c_sharp c_allowed f_cornerAt f_froms f_sizes f_xs f_px f_ys f_py) sz) post) 0 0 (va_A (cw_M_set cI a_this a_cornerAt a_froms a_sizes a_xs a_px a_ys a_py a_colours a_layersOf a_areas a_used a_counts a_costs a_firsts a_manys a_fs a_groups a_joinF n_cornerAt n_froms n_sizes n_xs n_px n_ys n_py c_code c_width c_height c_isTraced c_outlines c_points c_hasPolygon c_of c_corners c_costSum c_hasCurves c_curveCount c_sharp c_allowed f_cornerAt f_froms f_sizes f_xs f_px f_ys f_py) sz) := by
  refine Met.ofW (cc := b_M_set) (maxL := 7) (ret := none) (by decide +kernel) rfl ?_
  intro p e s m args below meth c s₁ B hml hv
  obtain ⟨rfl, hsz, hP, hK, hD0⟩ := hv
  have hx := B.exec
  have hb := B.bytes
  have hr := B.returns
  have hts : ∀ w ∈ allW, w.before _ s = true := fun w hw => atoms_spec (ws := w_M_set) B.pre w (List.mem_cons_of_mem _ hw)
  have hown : s.vm.findClass R_M = some m.cls := findClass_of_methodNamed B.named
  have hlocks := B.notSynchronized
  subst hsz
  have hD := hD0.self (sz := s.heap.size)
  generalize hAe : va_A (cw_M_set cI a_this a_cornerAt a_froms a_sizes a_xs a_px a_ys a_py a_colours a_layersOf a_areas a_used a_counts a_costs a_firsts a_manys a_fs a_groups a_joinF n_cornerAt n_froms n_sizes n_xs n_px n_ys n_py c_code c_width c_height c_isTraced c_outlines c_points c_hasPolygon c_of c_corners c_costSum c_hasCurves c_curveCount c_sharp c_allowed f_cornerAt f_froms f_sizes f_xs f_px f_ys f_py) s.heap.size = A at hD ⊢
  have hA : ∀ q : Nat, s.heap.size ≤ q → A q := fun q h => by rw [← hAe]; exact Or.inr h
  have hS : va_S A s.heap s.heap [] := va_S.rf
  clear hD0
  generalize hQf : MQ below (qq_M_set dC dI cI cB cJ cZ a_this a_cornerAt a_froms a_sizes a_xs a_px a_ys a_py a_colours a_layersOf a_areas a_used a_counts a_costs a_firsts a_manys a_fs a_groups a_joinF n_cornerAt n_froms n_sizes n_xs n_px n_ys n_py c_code c_width c_height c_isTraced c_outlines c_points c_hasPolygon c_of c_corners c_costSum c_hasCurves c_curveCount c_sharp c_allowed f_cornerAt f_froms f_sizes f_xs f_ys A post) ([.ref a_this, .int x1, .int x2, .int x3] : List Value).toArray s 0 0 A = Qf
  have hl := lv_entry ([.ref a_this, .int x1, .int x2, .int x3]) (n := 7) (Nat.le_of_ble_eq_true rfl)
  rw [lg_entry_eq]
  generalize (lg_sl ([.ref a_this, .int x1, .int x2, .int x3]) ++ List.replicate (7 - (lg_sl ([.ref a_this, .int x1, .int x2, .int x3])).length) Slot.unset).toArray = ls at hl ⊢
  have hl : lv_has ls 7 [(0, .ref a_this), (1, .int x1), (2, .int x2), (3, .int x3)] := hl
  unfold wp_M_set at h
  have J278 : ∀ (y0_j278 : Int32) (y1_j278 : Int32) (f_px_j278 : Nat → Int32) (f_py_j278 : Nat → Int32) (H : Heap) (locs : List Loc) (ls : Array Slot), wp_M_set_J278 n_cornerAt n_froms n_sizes n_xs n_px n_ys n_py c_of c_corners f_cornerAt f_froms f_sizes f_xs f_ys f_px_j278 f_py_j278 y0_j278 y1_j278 post → va_P (dC, dI) vwCl (cw_M_set cI a_this a_cornerAt a_froms a_sizes a_xs a_px a_ys a_py a_colours a_layersOf a_areas a_used a_counts a_costs a_firsts a_manys a_fs a_groups a_joinF n_cornerAt n_froms n_sizes n_xs n_px n_ys n_py c_code c_width c_height c_isTraced c_outlines c_points c_hasPolygon c_of c_corners c_costSum c_hasCurves c_curveCount c_sharp c_allowed f_cornerAt f_froms f_sizes f_xs f_px_j278 f_ys f_py_j278) H → va_D A (cw_M_set cI a_this a_cornerAt a_froms a_sizes a_xs a_px a_ys a_py a_colours a_layersOf a_areas a_used a_counts a_costs a_firsts a_manys a_fs a_groups a_joinF n_cornerAt n_froms n_sizes n_xs n_px n_ys n_py c_code c_width c_height c_isTraced c_outlines c_points c_hasPolygon c_of c_corners c_costSum c_hasCurves c_curveCount c_sharp c_allowed f_cornerAt f_froms f_sizes f_xs f_px_j278 f_ys f_py_j278) → va_S A s.heap H locs → lv_has ls 7 [] → W p l e (headSpec w_M_set ({ frames := 2, cells := 0, slots := 0, locals := 43 })).room s m ([.ref a_this, .int x1, .int x2, .int x3] : List Value).toArray below meth c H locs 0 0 Qf (F0 m 278 ls [.int y0_j278, .int y1_j278, .ref a_py]) := by
    intro y0_j278 y1_j278 f_px_j278 f_py_j278 H locs ls h hP hD hS hl
    unfold wp_M_set_J278 at h
    obtain ⟨hin, h⟩ := h
    refine va_iast hx hb hK hP hD hS 7 0 rfl rfl hin d_M_set_278 (fun H locs hP hD hS => ?_)
    obtain ⟨f278, e_f278⟩ : ∃ y : Nat → Int32, y = upd f_py_j278 y1_j278.toNatClampNeg y0_j278 := ⟨_, rfl⟩
    have h := h f278 e_f278
    have hP : va_P (dC, dI) vwCl (cw_M_set cI a_this a_cornerAt a_froms a_sizes a_xs a_px a_ys a_py a_colours a_layersOf a_areas a_used a_counts a_costs a_firsts a_manys a_fs a_groups a_joinF n_cornerAt n_froms n_sizes n_xs n_px n_ys n_py c_code c_width c_height c_isTraced c_outlines c_points c_hasPolygon c_of c_corners c_costSum c_hasCurves c_curveCount c_sharp c_allowed f_cornerAt f_froms f_sizes f_xs f_px_j278 f_ys f278) H := by rw [e_f278]; exact hP
    have hD : va_D A (cw_M_set cI a_this a_cornerAt a_froms a_sizes a_xs a_px a_ys a_py a_colours a_layersOf a_areas a_used a_counts a_costs a_firsts a_manys a_fs a_groups a_joinF n_cornerAt n_froms n_sizes n_xs n_px n_ys n_py c_code c_width c_height c_isTraced c_outlines c_points c_hasPolygon c_of c_corners c_costSum c_hasCurves c_curveCount c_sharp c_allowed f_cornerAt f_froms f_sizes f_xs f_px_j278 f_ys f278) := by rw [e_f278]; exact hD
    subst hQf
    exact W.vret hx hb hr (fun t ht hW => ⟨⟨(f_px_j278, f278), rfl, h, by rw [ht]; exact hP, va_K.moved hW.alike hK, hD⟩, hS.F ht⟩) hS.2.2 d_M_set_279
  have J235 : ∀ (x1_j235 : Int32) (x3_j235 : Int32) (x5_j235 : Int32) (x6_j235 : Int32) (y0_j235 : Int32) (y1_j235 : Int32) (f_px_j235 : Nat → Int32) (f_py_j235 : Nat → Int32) (H : Heap) (locs : List Loc) (ls : Array Slot), wp_M_set_J235 n_cornerAt n_froms n_sizes n_xs n_px n_ys n_py c_of c_corners f_cornerAt f_froms f_sizes f_xs f_ys f_px_j235 f_py_j235 x1_j235 x3_j235 x5_j235 x6_j235 y0_j235 y1_j235 post → va_P (dC, dI) vwCl (cw_M_set cI a_this a_cornerAt a_froms a_sizes a_xs a_px a_ys a_py a_colours a_layersOf a_areas a_used a_counts a_costs a_firsts a_manys a_fs a_groups a_joinF n_cornerAt n_froms n_sizes n_xs n_px n_ys n_py c_code c_width c_height c_isTraced c_outlines c_points c_hasPolygon c_of c_corners c_costSum c_hasCurves c_curveCount c_sharp c_allowed f_cornerAt f_froms f_sizes f_xs f_px_j235 f_ys f_py_j235) H → va_D A (cw_M_set cI a_this a_cornerAt a_froms a_sizes a_xs a_px a_ys a_py a_colours a_layersOf a_areas a_used a_counts a_costs a_firsts a_manys a_fs a_groups a_joinF n_cornerAt n_froms n_sizes n_xs n_px n_ys n_py c_code c_width c_height c_isTraced c_outlines c_points c_hasPolygon c_of c_corners c_costSum c_hasCurves c_curveCount c_sharp c_allowed f_cornerAt f_froms f_sizes f_xs f_px_j235 f_ys f_py_j235) → va_S A s.heap H locs → lv_has ls 7 [(0, .ref a_this), (1, .int x1_j235), (3, .int x3_j235), (5, .int x5_j235), (6, .int x6_j235)] → W p l e (headSpec w_M_set ({ frames := 2, cells := 0, slots := 0, locals := 43 })).room s m ([.ref a_this, .int x1, .int x2, .int x3] : List Value).toArray below meth c H locs 0 0 Qf (F0 m 235 ls [.int y0_j235, .int y1_j235, .ref a_px]) := by
    intro x1_j235 x3_j235 x5_j235 x6_j235 y0_j235 y1_j235 f_px_j235 f_py_j235 H locs ls h hP hD hS hl
    unfold wp_M_set_J235 at h
    obtain ⟨hin, h⟩ := h
    refine va_iast hx hb hK hP hD hS 5 0 rfl rfl hin d_M_set_235 (fun H locs hP hD hS => ?_)
    obtain ⟨f235, e_f235⟩ : ∃ y : Nat → Int32, y = upd f_px_j235 y1_j235.toNatClampNeg y0_j235 := ⟨_, rfl⟩
    have h := h f235 e_f235
    have hP : va_P (dC, dI) vwCl (cw_M_set cI a_this a_cornerAt a_froms a_sizes a_xs a_px a_ys a_py a_colours a_layersOf a_areas a_used a_counts a_costs a_firsts a_manys a_fs a_groups a_joinF n_cornerAt n_froms n_sizes n_xs n_px n_ys n_py c_code c_width c_height c_isTraced c_outlines c_points c_hasPolygon c_of c_corners c_costSum c_hasCurves c_curveCount c_sharp c_allowed f_cornerAt f_froms f_sizes f_xs f235 f_ys f_py_j235) H := by rw [e_f235]; exact hP
    have hD : va_D A (cw_M_set cI a_this a_cornerAt a_froms a_sizes a_xs a_px a_ys a_py a_colours a_layersOf a_areas a_used a_counts a_costs a_firsts a_manys a_fs a_groups a_joinF n_cornerAt n_froms n_sizes n_xs n_px n_ys n_py c_code c_width c_height c_isTraced c_outlines c_points c_hasPolygon c_of c_corners c_costSum c_hasCurves c_curveCount c_sharp c_allowed f_cornerAt f_froms f_sizes f_xs f235 f_ys f_py_j235) := by rw [e_f235]; exact hD
    refine lv_aload_n hx hb d_M_set_236 rfl (lv_at hl 0 rfl) ?_
    refine va_get (D := (dC, dI)) (ci := 5) (v := .ref a_py) (C := R_M) (T := F_M) (N := 32) hx hb hts i_M_in hown hK hP 0 rfl rfl 29 (by decide) (hts _ q_690) (fun _ h9 => h9) rfl d_M_set_237 ?_
    refine lv_iconst (v := 2) hx hb d_M_set_240 (by decide) ?_
    refine lv_iload_n hx hb d_M_set_241 rfl (lv_at hl 2 rfl) ?_
    refine lv_if_ne (tgt := 256) hx hb d_M_set_242 (by decide) (fun cc_ => ?_) (fun cc_ => ?_)
    · have h := h.1 cc_
      refine lv_aload_n hx hb d_M_set_256 rfl (lv_at hl 0 rfl) ?_
      refine va_get (D := (dC, dI)) (ci := 5) (v := .ref a_py) (C := R_M) (T := F_M) (N := 32) hx hb hts i_M_in hown hK hP 0 rfl rfl 29 (by decide) (hts _ q_690) (fun _ h9 => h9) rfl d_M_set_257 ?_
      refine lv_iconst (v := 3) hx hb d_M_set_260 (by decide) ?_
      obtain ⟨hin, h⟩ := h
      refine va_iald hx hb hK hP 7 0 rfl rfl hin d_M_set_261 ?_
      refine lv_iload_n hx hb d_M_set_262 rfl (lv_at hl 2 rfl) ?_
      refine lv_aload_n hx hb d_M_set_263 rfl (lv_at hl 0 rfl) ?_
      refine lv_iload hx hb d_M_set_264 (lv_at hl 4 rfl) ?_
      obtain ⟨Q266, hq266, h⟩ := h
      have hPc := hP.sub (ws' := (cw_M_cornerY cI a_this a_cornerAt a_froms a_sizes a_ys a_colours a_layersOf a_areas a_xs a_used a_counts a_costs a_firsts a_manys a_fs a_px a_py a_groups a_joinF n_cornerAt n_froms n_sizes n_ys c_code c_width c_height c_isTraced c_outlines c_points c_hasPolygon c_of c_corners c_costSum c_hasCurves c_curveCount c_sharp c_allowed f_cornerAt f_froms f_sizes f_ys)) [0, 1, 2, 3, 6] rfl
      have hDc := hD.sub (ws' := (cw_M_cornerY cI a_this a_cornerAt a_froms a_sizes a_ys a_colours a_layersOf a_areas a_xs a_used a_counts a_costs a_firsts a_manys a_fs a_px a_py a_groups a_joinF n_cornerAt n_froms n_sizes n_ys c_code c_width c_height c_isTraced c_outlines c_points c_hasPolygon c_of c_corners c_costSum c_hasCurves c_curveCount c_sharp c_allowed f_cornerAt f_froms f_sizes f_ys)) [0, 1, 2, 3, 6] (by decide) rfl
      have hFc := va_free (wc := (cw_M_cornerY cI a_this a_cornerAt a_froms a_sizes a_ys a_colours a_layersOf a_areas a_xs a_used a_counts a_costs a_firsts a_manys a_fs a_px a_py a_groups a_joinF n_cornerAt n_froms n_sizes n_ys c_code c_width c_height c_isTraced c_outlines c_points c_hasPolygon c_of c_corners c_costSum c_hasCurves c_curveCount c_sharp c_allowed f_cornerAt f_froms f_sizes f_ys)) hD hS hA [0, 1, 2, 3, 6] rfl
      refine va_calli (va_runV (As := [.int x6_j235]) (rest := [.int x3_j235, .int (f_py_j235 (3 : Int32).toNatClampNeg), .int (2 : Int32), .ref a_py]) ⟨hx, hb, hml, hown, hts⟩ (c_M_cornerY l dC dI cI cB cJ cZ a_this a_cornerAt a_froms a_sizes a_ys a_colours a_layersOf a_areas a_xs a_used a_counts a_costs a_firsts a_manys a_fs a_px a_py a_groups a_joinF H.size n_cornerAt n_froms n_sizes n_ys c_code c_width c_height c_isTraced c_outlines c_points c_hasPolygon c_of c_corners c_costSum c_hasCurves c_curveCount c_sharp c_allowed f_cornerAt f_froms f_sizes f_ys x6_j235 Q266 hq266) (cwV 1 hts (goodV q_878 q_880 q_p46 q_7 q_881) rfl rfl rfl (by decide +kernel) ⟨Nat.le_of_ble_eq_true rfl, Nat.le_of_ble_eq_true rfl⟩) ⟨fun a U g mk q => by obtain ⟨q0, q1, qP, qK, qD⟩ := q; exact ⟨q0, q1, qP, va_K.moved (u := U) (U := U.calling g mk a) (Vm.Alike.refl U.vm) qK, qD⟩, va_recv hK hPc (ci := 5) (q0 := 0) rfl rfl, fun U hU hW => ⟨rfl, by rw [hU], by rw [hU]; exact hPc, va_K.moved hW.alike hK, hDc.weaken (fun _ _ _ _ => trivial)⟩⟩ rfl rfl hl.1 rfl (lv_room (Nat.le_of_ble_eq_true rfl)) d_M_set_266 ⟨Nat.le_of_ble_eq_true rfl, Nat.le_of_ble_eq_true rfl⟩) hS (fun q _ h => hFc q h) hFc (fun r266 u266 t H1 locs ht hvm hw hB hz1 hk1 hS => ?_)
      cases u266
      obtain ⟨hP1, -, hD1⟩ := hB
      rw [ht] at hP1
      have h := h r266 hw
      obtain ⟨hP, hD⟩ := va_join (wr := [(a_xs, .inl (cI, n_xs, .inl f_xs)), (a_px, .inl (cI, n_px, .inl f235)), (a_py, .inl (cI, n_py, .inl f_py_j235))]) (w1 := (cw_M_cornerY cI a_this a_cornerAt a_froms a_sizes a_ys a_colours a_layersOf a_areas a_xs a_used a_counts a_costs a_firsts a_manys a_fs a_px a_py a_groups a_joinF n_cornerAt n_froms n_sizes n_ys c_code c_width c_height c_isTraced c_outlines c_points c_hasPolygon c_of c_corners c_costSum c_hasCurves c_curveCount c_sharp c_allowed f_cornerAt f_froms f_sizes f_ys)) hP hD [0, 1, 2, 3, 6] [4, 5, 7] rfl rfl (by decide) (by decide) hk1 hFc hP1 hD1
      clear hP1 hD1 hk1 hPc hDc hFc
      generalize H1 = H at hP hS ⊢
      have hP : va_P (dC, dI) vwCl (cw_M_set cI a_this a_cornerAt a_froms a_sizes a_xs a_px a_ys a_py a_colours a_layersOf a_areas a_used a_counts a_costs a_firsts a_manys a_fs a_groups a_joinF n_cornerAt n_froms n_sizes n_xs n_px n_ys n_py c_code c_width c_height c_isTraced c_outlines c_points c_hasPolygon c_of c_corners c_costSum c_hasCurves c_curveCount c_sharp c_allowed f_cornerAt f_froms f_sizes f_xs f235 f_ys f_py_j235) H := hP.sub [3, 4, 5, 6, 0, 1, 7, 2] rfl
      have hD : va_D A (cw_M_set cI a_this a_cornerAt a_froms a_sizes a_xs a_px a_ys a_py a_colours a_layersOf a_areas a_used a_counts a_costs a_firsts a_manys a_fs a_groups a_joinF n_cornerAt n_froms n_sizes n_xs n_px n_ys n_py c_code c_width c_height c_isTraced c_outlines c_points c_hasPolygon c_of c_corners c_costSum c_hasCurves c_curveCount c_sharp c_allowed f_cornerAt f_froms f_sizes f_xs f235 f_ys f_py_j235) := hD.sub [3, 4, 5, 6, 0, 1, 7, 2] (by decide) rfl
      refine lv_aload_n hx hb d_M_set_269 rfl (lv_at hl 0 rfl) ?_
      refine lv_iload hx hb d_M_set_270 (lv_at hl 3 rfl) ?_
      obtain ⟨Q272, hq272, h⟩ := h
      have hPc := hP.sub (ws' := (cw_M_cornerY cI a_this a_cornerAt a_froms a_sizes a_ys a_colours a_layersOf a_areas a_xs a_used a_counts a_costs a_firsts a_manys a_fs a_px a_py a_groups a_joinF n_cornerAt n_froms n_sizes n_ys c_code c_width c_height c_isTraced c_outlines c_points c_hasPolygon c_of c_corners c_costSum c_hasCurves c_curveCount c_sharp c_allowed f_cornerAt f_froms f_sizes f_ys)) [0, 1, 2, 3, 6] rfl
      have hDc := hD.sub (ws' := (cw_M_cornerY cI a_this a_cornerAt a_froms a_sizes a_ys a_colours a_layersOf a_areas a_xs a_used a_counts a_costs a_firsts a_manys a_fs a_px a_py a_groups a_joinF n_cornerAt n_froms n_sizes n_ys c_code c_width c_height c_isTraced c_outlines c_points c_hasPolygon c_of c_corners c_costSum c_hasCurves c_curveCount c_sharp c_allowed f_cornerAt f_froms f_sizes f_ys)) [0, 1, 2, 3, 6] (by decide) rfl
      have hFc := va_free (wc := (cw_M_cornerY cI a_this a_cornerAt a_froms a_sizes a_ys a_colours a_layersOf a_areas a_xs a_used a_counts a_costs a_firsts a_manys a_fs a_px a_py a_groups a_joinF n_cornerAt n_froms n_sizes n_ys c_code c_width c_height c_isTraced c_outlines c_points c_hasPolygon c_of c_corners c_costSum c_hasCurves c_curveCount c_sharp c_allowed f_cornerAt f_froms f_sizes f_ys)) hD hS hA [0, 1, 2, 3, 6] rfl
      refine va_calli (va_runV (As := [.int x5_j235]) (rest := [.int r266, .int x3_j235, .int (f_py_j235 (3 : Int32).toNatClampNeg), .int (2 : Int32), .ref a_py]) ⟨hx, hb, hml, hown, hts⟩ (c_M_cornerY l dC dI cI cB cJ cZ a_this a_cornerAt a_froms a_sizes a_ys a_colours a_layersOf a_areas a_xs a_used a_counts a_costs a_firsts a_manys a_fs a_px a_py a_groups a_joinF H.size n_cornerAt n_froms n_sizes n_ys c_code c_width c_height c_isTraced c_outlines c_points c_hasPolygon c_of c_corners c_costSum c_hasCurves c_curveCount c_sharp c_allowed f_cornerAt f_froms f_sizes f_ys x5_j235 Q272 hq272) (cwV 1 hts (goodV q_878 q_880 q_p46 q_7 q_881) rfl rfl rfl (by decide +kernel) ⟨Nat.le_of_ble_eq_true rfl, Nat.le_of_ble_eq_true rfl⟩) ⟨fun a U g mk q => by obtain ⟨q0, q1, qP, qK, qD⟩ := q; exact ⟨q0, q1, qP, va_K.moved (u := U) (U := U.calling g mk a) (Vm.Alike.refl U.vm) qK, qD⟩, va_recv hK hPc (ci := 5) (q0 := 0) rfl rfl, fun U hU hW => ⟨rfl, by rw [hU], by rw [hU]; exact hPc, va_K.moved hW.alike hK, hDc.weaken (fun _ _ _ _ => trivial)⟩⟩ rfl rfl hl.1 rfl (lv_room (Nat.le_of_ble_eq_true rfl)) d_M_set_272 ⟨Nat.le_of_ble_eq_true rfl, Nat.le_of_ble_eq_true rfl⟩) hS (fun q _ h => hFc q h) hFc (fun r272 u272 t H1 locs ht hvm hw hB hz1 hk1 hS => ?_)
      cases u272
      obtain ⟨hP1, -, hD1⟩ := hB
      rw [ht] at hP1
      have h := h r272 hw
      obtain ⟨hP, hD⟩ := va_join (wr := [(a_xs, .inl (cI, n_xs, .inl f_xs)), (a_px, .inl (cI, n_px, .inl f235)), (a_py, .inl (cI, n_py, .inl f_py_j235))]) (w1 := (cw_M_cornerY cI a_this a_cornerAt a_froms a_sizes a_ys a_colours a_layersOf a_areas a_xs a_used a_counts a_costs a_firsts a_manys a_fs a_px a_py a_groups a_joinF n_cornerAt n_froms n_sizes n_ys c_code c_width c_height c_isTraced c_outlines c_points c_hasPolygon c_of c_corners c_costSum c_hasCurves c_curveCount c_sharp c_allowed f_cornerAt f_froms f_sizes f_ys)) hP hD [0, 1, 2, 3, 6] [4, 5, 7] rfl rfl (by decide) (by decide) hk1 hFc hP1 hD1
      clear hP1 hD1 hk1 hPc hDc hFc
      generalize H1 = H at hP hS ⊢
      have hP : va_P (dC, dI) vwCl (cw_M_set cI a_this a_cornerAt a_froms a_sizes a_xs a_px a_ys a_py a_colours a_layersOf a_areas a_used a_counts a_costs a_firsts a_manys a_fs a_groups a_joinF n_cornerAt n_froms n_sizes n_xs n_px n_ys n_py c_code c_width c_height c_isTraced c_outlines c_points c_hasPolygon c_of c_corners c_costSum c_hasCurves c_curveCount c_sharp c_allowed f_cornerAt f_froms f_sizes f_xs f235 f_ys f_py_j235) H := hP.sub [3, 4, 5, 6, 0, 1, 7, 2] rfl
      have hD : va_D A (cw_M_set cI a_this a_cornerAt a_froms a_sizes a_xs a_px a_ys a_py a_colours a_layersOf a_areas a_used a_counts a_costs a_firsts a_manys a_fs a_groups a_joinF n_cornerAt n_froms n_sizes n_xs n_px n_ys n_py c_code c_width c_height c_isTraced c_outlines c_points c_hasPolygon c_of c_corners c_costSum c_hasCurves c_curveCount c_sharp c_allowed f_cornerAt f_froms f_sizes f_xs f235 f_ys f_py_j235) := hD.sub [3, 4, 5, 6, 0, 1, 7, 2] (by decide) rfl
      refine lv_isub hx hb d_M_set_275 ?_
      refine lv_imul hx hb d_M_set_276 ?_
      refine lv_isub hx hb d_M_set_277 ?_
      exact J278 ((f_py_j235 (3 : Int32).toNatClampNeg) - (x3_j235 * (r266 - r272))) (2 : Int32) f235 f_py_j235 _ _ _ h hP hD hS (lv_sub hl [] rfl)
    · have h := h.2 cc_
      refine lv_bipush (v := 32) hx hb d_M_set_245 (by decide) ?_
      refine lv_aload_n hx hb d_M_set_247 rfl (lv_at hl 0 rfl) ?_
      refine lv_iload_n hx hb d_M_set_248 rfl (lv_at hl 1 rfl) ?_
      obtain ⟨Q249, hq249, h⟩ := h
      have hPc := hP.sub (ws' := (cw_M_cornerY cI a_this a_cornerAt a_froms a_sizes a_ys a_colours a_layersOf a_areas a_xs a_used a_counts a_costs a_firsts a_manys a_fs a_px a_py a_groups a_joinF n_cornerAt n_froms n_sizes n_ys c_code c_width c_height c_isTraced c_outlines c_points c_hasPolygon c_of c_corners c_costSum c_hasCurves c_curveCount c_sharp c_allowed f_cornerAt f_froms f_sizes f_ys)) [0, 1, 2, 3, 6] rfl
      have hDc := hD.sub (ws' := (cw_M_cornerY cI a_this a_cornerAt a_froms a_sizes a_ys a_colours a_layersOf a_areas a_xs a_used a_counts a_costs a_firsts a_manys a_fs a_px a_py a_groups a_joinF n_cornerAt n_froms n_sizes n_ys c_code c_width c_height c_isTraced c_outlines c_points c_hasPolygon c_of c_corners c_costSum c_hasCurves c_curveCount c_sharp c_allowed f_cornerAt f_froms f_sizes f_ys)) [0, 1, 2, 3, 6] (by decide) rfl
      have hFc := va_free (wc := (cw_M_cornerY cI a_this a_cornerAt a_froms a_sizes a_ys a_colours a_layersOf a_areas a_xs a_used a_counts a_costs a_firsts a_manys a_fs a_px a_py a_groups a_joinF n_cornerAt n_froms n_sizes n_ys c_code c_width c_height c_isTraced c_outlines c_points c_hasPolygon c_of c_corners c_costSum c_hasCurves c_curveCount c_sharp c_allowed f_cornerAt f_froms f_sizes f_ys)) hD hS hA [0, 1, 2, 3, 6] rfl
      refine va_calli (va_runV (As := [.int x1_j235]) (rest := [.int (32 : Int32), .int (2 : Int32), .ref a_py]) ⟨hx, hb, hml, hown, hts⟩ (c_M_cornerY l dC dI cI cB cJ cZ a_this a_cornerAt a_froms a_sizes a_ys a_colours a_layersOf a_areas a_xs a_used a_counts a_costs a_firsts a_manys a_fs a_px a_py a_groups a_joinF H.size n_cornerAt n_froms n_sizes n_ys c_code c_width c_height c_isTraced c_outlines c_points c_hasPolygon c_of c_corners c_costSum c_hasCurves c_curveCount c_sharp c_allowed f_cornerAt f_froms f_sizes f_ys x1_j235 Q249 hq249) (cwV 1 hts (goodV q_878 q_880 q_p46 q_7 q_881) rfl rfl rfl (by decide +kernel) ⟨Nat.le_of_ble_eq_true rfl, Nat.le_of_ble_eq_true rfl⟩) ⟨fun a U g mk q => by obtain ⟨q0, q1, qP, qK, qD⟩ := q; exact ⟨q0, q1, qP, va_K.moved (u := U) (U := U.calling g mk a) (Vm.Alike.refl U.vm) qK, qD⟩, va_recv hK hPc (ci := 5) (q0 := 0) rfl rfl, fun U hU hW => ⟨rfl, by rw [hU], by rw [hU]; exact hPc, va_K.moved hW.alike hK, hDc.weaken (fun _ _ _ _ => trivial)⟩⟩ rfl rfl hl.1 rfl (lv_room (Nat.le_of_ble_eq_true rfl)) d_M_set_249 ⟨Nat.le_of_ble_eq_true rfl, Nat.le_of_ble_eq_true rfl⟩) hS (fun q _ h => hFc q h) hFc (fun r249 u249 t H1 locs ht hvm hw hB hz1 hk1 hS => ?_)
      cases u249
      obtain ⟨hP1, -, hD1⟩ := hB
      rw [ht] at hP1
      have h := h r249 hw
      obtain ⟨hP, hD⟩ := va_join (wr := [(a_xs, .inl (cI, n_xs, .inl f_xs)), (a_px, .inl (cI, n_px, .inl f235)), (a_py, .inl (cI, n_py, .inl f_py_j235))]) (w1 := (cw_M_cornerY cI a_this a_cornerAt a_froms a_sizes a_ys a_colours a_layersOf a_areas a_xs a_used a_counts a_costs a_firsts a_manys a_fs a_px a_py a_groups a_joinF n_cornerAt n_froms n_sizes n_ys c_code c_width c_height c_isTraced c_outlines c_points c_hasPolygon c_of c_corners c_costSum c_hasCurves c_curveCount c_sharp c_allowed f_cornerAt f_froms f_sizes f_ys)) hP hD [0, 1, 2, 3, 6] [4, 5, 7] rfl rfl (by decide) (by decide) hk1 hFc hP1 hD1
      clear hP1 hD1 hk1 hPc hDc hFc
      generalize H1 = H at hP hS ⊢
      have hP : va_P (dC, dI) vwCl (cw_M_set cI a_this a_cornerAt a_froms a_sizes a_xs a_px a_ys a_py a_colours a_layersOf a_areas a_used a_counts a_costs a_firsts a_manys a_fs a_groups a_joinF n_cornerAt n_froms n_sizes n_xs n_px n_ys n_py c_code c_width c_height c_isTraced c_outlines c_points c_hasPolygon c_of c_corners c_costSum c_hasCurves c_curveCount c_sharp c_allowed f_cornerAt f_froms f_sizes f_xs f235 f_ys f_py_j235) H := hP.sub [3, 4, 5, 6, 0, 1, 7, 2] rfl
      have hD : va_D A (cw_M_set cI a_this a_cornerAt a_froms a_sizes a_xs a_px a_ys a_py a_colours a_layersOf a_areas a_used a_counts a_costs a_firsts a_manys a_fs a_groups a_joinF n_cornerAt n_froms n_sizes n_xs n_px n_ys n_py c_code c_width c_height c_isTraced c_outlines c_points c_hasPolygon c_of c_corners c_costSum c_hasCurves c_curveCount c_sharp c_allowed f_cornerAt f_froms f_sizes f_xs f235 f_ys f_py_j235) := hD.sub [3, 4, 5, 6, 0, 1, 7, 2] (by decide) rfl
      refine lv_imul hx hb d_M_set_252 ?_
      refine lv_goto (tgt := 278) hx hb d_M_set_253 (by decide) ?_
      exact J278 ((32 : Int32) * r249) (2 : Int32) f235 f_py_j235 _ _ _ h hP hD hS (lv_sub hl [] rfl)
  have J192 : ∀ (x1_j192 : Int32) (x3_j192 : Int32) (x5_j192 : Int32) (x6_j192 : Int32) (y0_j192 : Int32) (y1_j192 : Int32) (f_px_j192 : Nat → Int32) (f_py_j192 : Nat → Int32) (H : Heap) (locs : List Loc) (ls : Array Slot), wp_M_set_J192 n_cornerAt n_froms n_sizes n_xs n_px n_ys n_py c_of c_corners f_cornerAt f_froms f_sizes f_xs f_ys f_px_j192 f_py_j192 x1_j192 x3_j192 x5_j192 x6_j192 y0_j192 y1_j192 post → va_P (dC, dI) vwCl (cw_M_set cI a_this a_cornerAt a_froms a_sizes a_xs a_px a_ys a_py a_colours a_layersOf a_areas a_used a_counts a_costs a_firsts a_manys a_fs a_groups a_joinF n_cornerAt n_froms n_sizes n_xs n_px n_ys n_py c_code c_width c_height c_isTraced c_outlines c_points c_hasPolygon c_of c_corners c_costSum c_hasCurves c_curveCount c_sharp c_allowed f_cornerAt f_froms f_sizes f_xs f_px_j192 f_ys f_py_j192) H → va_D A (cw_M_set cI a_this a_cornerAt a_froms a_sizes a_xs a_px a_ys a_py a_colours a_layersOf a_areas a_used a_counts a_costs a_firsts a_manys a_fs a_groups a_joinF n_cornerAt n_froms n_sizes n_xs n_px n_ys n_py c_code c_width c_height c_isTraced c_outlines c_points c_hasPolygon c_of c_corners c_costSum c_hasCurves c_curveCount c_sharp c_allowed f_cornerAt f_froms f_sizes f_xs f_px_j192 f_ys f_py_j192) → va_S A s.heap H locs → lv_has ls 7 [(0, .ref a_this), (1, .int x1_j192), (3, .int x3_j192), (5, .int x5_j192), (6, .int x6_j192)] → W p l e (headSpec w_M_set ({ frames := 2, cells := 0, slots := 0, locals := 43 })).room s m ([.ref a_this, .int x1, .int x2, .int x3] : List Value).toArray below meth c H locs 0 0 Qf (F0 m 192 ls [.int y0_j192, .int y1_j192, .ref a_py]) := by
    intro x1_j192 x3_j192 x5_j192 x6_j192 y0_j192 y1_j192 f_px_j192 f_py_j192 H locs ls h hP hD hS hl
    unfold wp_M_set_J192 at h
    obtain ⟨hin, h⟩ := h
    refine va_iast hx hb hK hP hD hS 7 0 rfl rfl hin d_M_set_192 (fun H locs hP hD hS => ?_)
    obtain ⟨f192, e_f192⟩ : ∃ y : Nat → Int32, y = upd f_py_j192 y1_j192.toNatClampNeg y0_j192 := ⟨_, rfl⟩
    have h := h f192 e_f192
    have hP : va_P (dC, dI) vwCl (cw_M_set cI a_this a_cornerAt a_froms a_sizes a_xs a_px a_ys a_py a_colours a_layersOf a_areas a_used a_counts a_costs a_firsts a_manys a_fs a_groups a_joinF n_cornerAt n_froms n_sizes n_xs n_px n_ys n_py c_code c_width c_height c_isTraced c_outlines c_points c_hasPolygon c_of c_corners c_costSum c_hasCurves c_curveCount c_sharp c_allowed f_cornerAt f_froms f_sizes f_xs f_px_j192 f_ys f192) H := by rw [e_f192]; exact hP
    have hD : va_D A (cw_M_set cI a_this a_cornerAt a_froms a_sizes a_xs a_px a_ys a_py a_colours a_layersOf a_areas a_used a_counts a_costs a_firsts a_manys a_fs a_groups a_joinF n_cornerAt n_froms n_sizes n_xs n_px n_ys n_py c_code c_width c_height c_isTraced c_outlines c_points c_hasPolygon c_of c_corners c_costSum c_hasCurves c_curveCount c_sharp c_allowed f_cornerAt f_froms f_sizes f_xs f_px_j192 f_ys f192) := by rw [e_f192]; exact hD
    refine lv_aload_n hx hb d_M_set_193 rfl (lv_at hl 0 rfl) ?_
    refine va_get (D := (dC, dI)) (ci := 5) (v := .ref a_px) (C := R_M) (T := F_M) (N := 32) hx hb hts i_M_in hown hK hP 0 rfl rfl 28 (by decide) (hts _ q_689) (fun _ h9 => h9) rfl d_M_set_194 ?_
    refine lv_iconst (v := 2) hx hb d_M_set_197 (by decide) ?_
    refine lv_iload_n hx hb d_M_set_198 rfl (lv_at hl 2 rfl) ?_
    refine lv_if_ne (tgt := 213) hx hb d_M_set_199 (by decide) (fun cc_ => ?_) (fun cc_ => ?_)
    · have h := h.1 cc_
      refine lv_aload_n hx hb d_M_set_213 rfl (lv_at hl 0 rfl) ?_
      refine va_get (D := (dC, dI)) (ci := 5) (v := .ref a_px) (C := R_M) (T := F_M) (N := 32) hx hb hts i_M_in hown hK hP 0 rfl rfl 28 (by decide) (hts _ q_689) (fun _ h9 => h9) rfl d_M_set_214 ?_
      refine lv_iconst (v := 3) hx hb d_M_set_217 (by decide) ?_
      obtain ⟨hin, h⟩ := h
      refine va_iald hx hb hK hP 5 0 rfl rfl hin d_M_set_218 ?_
      refine lv_iload_n hx hb d_M_set_219 rfl (lv_at hl 2 rfl) ?_
      refine lv_aload_n hx hb d_M_set_220 rfl (lv_at hl 0 rfl) ?_
      refine lv_iload hx hb d_M_set_221 (lv_at hl 4 rfl) ?_
      obtain ⟨Q223, hq223, h⟩ := h
      have hPc := hP.sub (ws' := (cw_M_cornerX cI a_this a_cornerAt a_froms a_sizes a_xs a_colours a_layersOf a_areas a_ys a_used a_counts a_costs a_firsts a_manys a_fs a_px a_py a_groups a_joinF n_cornerAt n_froms n_sizes n_xs c_code c_width c_height c_isTraced c_outlines c_points c_hasPolygon c_of c_corners c_costSum c_hasCurves c_curveCount c_sharp c_allowed f_cornerAt f_froms f_sizes f_xs)) [0, 1, 2, 3, 4] rfl
      have hDc := hD.sub (ws' := (cw_M_cornerX cI a_this a_cornerAt a_froms a_sizes a_xs a_colours a_layersOf a_areas a_ys a_used a_counts a_costs a_firsts a_manys a_fs a_px a_py a_groups a_joinF n_cornerAt n_froms n_sizes n_xs c_code c_width c_height c_isTraced c_outlines c_points c_hasPolygon c_of c_corners c_costSum c_hasCurves c_curveCount c_sharp c_allowed f_cornerAt f_froms f_sizes f_xs)) [0, 1, 2, 3, 4] (by decide) rfl
      have hFc := va_free (wc := (cw_M_cornerX cI a_this a_cornerAt a_froms a_sizes a_xs a_colours a_layersOf a_areas a_ys a_used a_counts a_costs a_firsts a_manys a_fs a_px a_py a_groups a_joinF n_cornerAt n_froms n_sizes n_xs c_code c_width c_height c_isTraced c_outlines c_points c_hasPolygon c_of c_corners c_costSum c_hasCurves c_curveCount c_sharp c_allowed f_cornerAt f_froms f_sizes f_xs)) hD hS hA [0, 1, 2, 3, 4] rfl
      refine va_calli (va_runV (As := [.int x6_j192]) (rest := [.int x3_j192, .int (f_px_j192 (3 : Int32).toNatClampNeg), .int (2 : Int32), .ref a_px]) ⟨hx, hb, hml, hown, hts⟩ (c_M_cornerX l dC dI cI cB cJ cZ a_this a_cornerAt a_froms a_sizes a_xs a_colours a_layersOf a_areas a_ys a_used a_counts a_costs a_firsts a_manys a_fs a_px a_py a_groups a_joinF H.size n_cornerAt n_froms n_sizes n_xs c_code c_width c_height c_isTraced c_outlines c_points c_hasPolygon c_of c_corners c_costSum c_hasCurves c_curveCount c_sharp c_allowed f_cornerAt f_froms f_sizes f_xs x6_j192 Q223 hq223) (cwV 1 hts (goodV q_874 q_876 q_p45 q_7 q_877) rfl rfl rfl (by decide +kernel) ⟨Nat.le_of_ble_eq_true rfl, Nat.le_of_ble_eq_true rfl⟩) ⟨fun a U g mk q => by obtain ⟨q0, q1, qP, qK, qD⟩ := q; exact ⟨q0, q1, qP, va_K.moved (u := U) (U := U.calling g mk a) (Vm.Alike.refl U.vm) qK, qD⟩, va_recv hK hPc (ci := 5) (q0 := 0) rfl rfl, fun U hU hW => ⟨rfl, by rw [hU], by rw [hU]; exact hPc, va_K.moved hW.alike hK, hDc.weaken (fun _ _ _ _ => trivial)⟩⟩ rfl rfl hl.1 rfl (lv_room (Nat.le_of_ble_eq_true rfl)) d_M_set_223 ⟨Nat.le_of_ble_eq_true rfl, Nat.le_of_ble_eq_true rfl⟩) hS (fun q _ h => hFc q h) hFc (fun r223 u223 t H1 locs ht hvm hw hB hz1 hk1 hS => ?_)
      cases u223
      obtain ⟨hP1, -, hD1⟩ := hB
      rw [ht] at hP1
      have h := h r223 hw
      obtain ⟨hP, hD⟩ := va_join (wr := [(a_px, .inl (cI, n_px, .inl f_px_j192)), (a_ys, .inl (cI, n_ys, .inl f_ys)), (a_py, .inl (cI, n_py, .inl f192))]) (w1 := (cw_M_cornerX cI a_this a_cornerAt a_froms a_sizes a_xs a_colours a_layersOf a_areas a_ys a_used a_counts a_costs a_firsts a_manys a_fs a_px a_py a_groups a_joinF n_cornerAt n_froms n_sizes n_xs c_code c_width c_height c_isTraced c_outlines c_points c_hasPolygon c_of c_corners c_costSum c_hasCurves c_curveCount c_sharp c_allowed f_cornerAt f_froms f_sizes f_xs)) hP hD [0, 1, 2, 3, 4] [5, 6, 7] rfl rfl (by decide) (by decide) hk1 hFc hP1 hD1
      clear hP1 hD1 hk1 hPc hDc hFc
      generalize H1 = H at hP hS ⊢
      have hP : va_P (dC, dI) vwCl (cw_M_set cI a_this a_cornerAt a_froms a_sizes a_xs a_px a_ys a_py a_colours a_layersOf a_areas a_used a_counts a_costs a_firsts a_manys a_fs a_groups a_joinF n_cornerAt n_froms n_sizes n_xs n_px n_ys n_py c_code c_width c_height c_isTraced c_outlines c_points c_hasPolygon c_of c_corners c_costSum c_hasCurves c_curveCount c_sharp c_allowed f_cornerAt f_froms f_sizes f_xs f_px_j192 f_ys f192) H := hP.sub [3, 4, 5, 6, 7, 0, 1, 2] rfl
      have hD : va_D A (cw_M_set cI a_this a_cornerAt a_froms a_sizes a_xs a_px a_ys a_py a_colours a_layersOf a_areas a_used a_counts a_costs a_firsts a_manys a_fs a_groups a_joinF n_cornerAt n_froms n_sizes n_xs n_px n_ys n_py c_code c_width c_height c_isTraced c_outlines c_points c_hasPolygon c_of c_corners c_costSum c_hasCurves c_curveCount c_sharp c_allowed f_cornerAt f_froms f_sizes f_xs f_px_j192 f_ys f192) := hD.sub [3, 4, 5, 6, 7, 0, 1, 2] (by decide) rfl
      refine lv_aload_n hx hb d_M_set_226 rfl (lv_at hl 0 rfl) ?_
      refine lv_iload hx hb d_M_set_227 (lv_at hl 3 rfl) ?_
      obtain ⟨Q229, hq229, h⟩ := h
      have hPc := hP.sub (ws' := (cw_M_cornerX cI a_this a_cornerAt a_froms a_sizes a_xs a_colours a_layersOf a_areas a_ys a_used a_counts a_costs a_firsts a_manys a_fs a_px a_py a_groups a_joinF n_cornerAt n_froms n_sizes n_xs c_code c_width c_height c_isTraced c_outlines c_points c_hasPolygon c_of c_corners c_costSum c_hasCurves c_curveCount c_sharp c_allowed f_cornerAt f_froms f_sizes f_xs)) [0, 1, 2, 3, 4] rfl
      have hDc := hD.sub (ws' := (cw_M_cornerX cI a_this a_cornerAt a_froms a_sizes a_xs a_colours a_layersOf a_areas a_ys a_used a_counts a_costs a_firsts a_manys a_fs a_px a_py a_groups a_joinF n_cornerAt n_froms n_sizes n_xs c_code c_width c_height c_isTraced c_outlines c_points c_hasPolygon c_of c_corners c_costSum c_hasCurves c_curveCount c_sharp c_allowed f_cornerAt f_froms f_sizes f_xs)) [0, 1, 2, 3, 4] (by decide) rfl
      have hFc := va_free (wc := (cw_M_cornerX cI a_this a_cornerAt a_froms a_sizes a_xs a_colours a_layersOf a_areas a_ys a_used a_counts a_costs a_firsts a_manys a_fs a_px a_py a_groups a_joinF n_cornerAt n_froms n_sizes n_xs c_code c_width c_height c_isTraced c_outlines c_points c_hasPolygon c_of c_corners c_costSum c_hasCurves c_curveCount c_sharp c_allowed f_cornerAt f_froms f_sizes f_xs)) hD hS hA [0, 1, 2, 3, 4] rfl
      refine va_calli (va_runV (As := [.int x5_j192]) (rest := [.int r223, .int x3_j192, .int (f_px_j192 (3 : Int32).toNatClampNeg), .int (2 : Int32), .ref a_px]) ⟨hx, hb, hml, hown, hts⟩ (c_M_cornerX l dC dI cI cB cJ cZ a_this a_cornerAt a_froms a_sizes a_xs a_colours a_layersOf a_areas a_ys a_used a_counts a_costs a_firsts a_manys a_fs a_px a_py a_groups a_joinF H.size n_cornerAt n_froms n_sizes n_xs c_code c_width c_height c_isTraced c_outlines c_points c_hasPolygon c_of c_corners c_costSum c_hasCurves c_curveCount c_sharp c_allowed f_cornerAt f_froms f_sizes f_xs x5_j192 Q229 hq229) (cwV 1 hts (goodV q_874 q_876 q_p45 q_7 q_877) rfl rfl rfl (by decide +kernel) ⟨Nat.le_of_ble_eq_true rfl, Nat.le_of_ble_eq_true rfl⟩) ⟨fun a U g mk q => by obtain ⟨q0, q1, qP, qK, qD⟩ := q; exact ⟨q0, q1, qP, va_K.moved (u := U) (U := U.calling g mk a) (Vm.Alike.refl U.vm) qK, qD⟩, va_recv hK hPc (ci := 5) (q0 := 0) rfl rfl, fun U hU hW => ⟨rfl, by rw [hU], by rw [hU]; exact hPc, va_K.moved hW.alike hK, hDc.weaken (fun _ _ _ _ => trivial)⟩⟩ rfl rfl hl.1 rfl (lv_room (Nat.le_of_ble_eq_true rfl)) d_M_set_229 ⟨Nat.le_of_ble_eq_true rfl, Nat.le_of_ble_eq_true rfl⟩) hS (fun q _ h => hFc q h) hFc (fun r229 u229 t H1 locs ht hvm hw hB hz1 hk1 hS => ?_)
      cases u229
      obtain ⟨hP1, -, hD1⟩ := hB
      rw [ht] at hP1
      have h := h r229 hw
      obtain ⟨hP, hD⟩ := va_join (wr := [(a_px, .inl (cI, n_px, .inl f_px_j192)), (a_ys, .inl (cI, n_ys, .inl f_ys)), (a_py, .inl (cI, n_py, .inl f192))]) (w1 := (cw_M_cornerX cI a_this a_cornerAt a_froms a_sizes a_xs a_colours a_layersOf a_areas a_ys a_used a_counts a_costs a_firsts a_manys a_fs a_px a_py a_groups a_joinF n_cornerAt n_froms n_sizes n_xs c_code c_width c_height c_isTraced c_outlines c_points c_hasPolygon c_of c_corners c_costSum c_hasCurves c_curveCount c_sharp c_allowed f_cornerAt f_froms f_sizes f_xs)) hP hD [0, 1, 2, 3, 4] [5, 6, 7] rfl rfl (by decide) (by decide) hk1 hFc hP1 hD1
      clear hP1 hD1 hk1 hPc hDc hFc
      generalize H1 = H at hP hS ⊢
      have hP : va_P (dC, dI) vwCl (cw_M_set cI a_this a_cornerAt a_froms a_sizes a_xs a_px a_ys a_py a_colours a_layersOf a_areas a_used a_counts a_costs a_firsts a_manys a_fs a_groups a_joinF n_cornerAt n_froms n_sizes n_xs n_px n_ys n_py c_code c_width c_height c_isTraced c_outlines c_points c_hasPolygon c_of c_corners c_costSum c_hasCurves c_curveCount c_sharp c_allowed f_cornerAt f_froms f_sizes f_xs f_px_j192 f_ys f192) H := hP.sub [3, 4, 5, 6, 7, 0, 1, 2] rfl
      have hD : va_D A (cw_M_set cI a_this a_cornerAt a_froms a_sizes a_xs a_px a_ys a_py a_colours a_layersOf a_areas a_used a_counts a_costs a_firsts a_manys a_fs a_groups a_joinF n_cornerAt n_froms n_sizes n_xs n_px n_ys n_py c_code c_width c_height c_isTraced c_outlines c_points c_hasPolygon c_of c_corners c_costSum c_hasCurves c_curveCount c_sharp c_allowed f_cornerAt f_froms f_sizes f_xs f_px_j192 f_ys f192) := hD.sub [3, 4, 5, 6, 7, 0, 1, 2] (by decide) rfl
      refine lv_isub hx hb d_M_set_232 ?_
      refine lv_imul hx hb d_M_set_233 ?_
      refine lv_isub hx hb d_M_set_234 ?_
      exact J235 x1_j192 x3_j192 x5_j192 x6_j192 ((f_px_j192 (3 : Int32).toNatClampNeg) - (x3_j192 * (r223 - r229))) (2 : Int32) f_px_j192 f192 _ _ _ h hP hD hS (lv_sub hl [0, 1, 2, 3, 4] rfl)
    · have h := h.2 cc_
      refine lv_bipush (v := 32) hx hb d_M_set_202 (by decide) ?_
      refine lv_aload_n hx hb d_M_set_204 rfl (lv_at hl 0 rfl) ?_
      refine lv_iload_n hx hb d_M_set_205 rfl (lv_at hl 1 rfl) ?_
      obtain ⟨Q206, hq206, h⟩ := h
      have hPc := hP.sub (ws' := (cw_M_cornerX cI a_this a_cornerAt a_froms a_sizes a_xs a_colours a_layersOf a_areas a_ys a_used a_counts a_costs a_firsts a_manys a_fs a_px a_py a_groups a_joinF n_cornerAt n_froms n_sizes n_xs c_code c_width c_height c_isTraced c_outlines c_points c_hasPolygon c_of c_corners c_costSum c_hasCurves c_curveCount c_sharp c_allowed f_cornerAt f_froms f_sizes f_xs)) [0, 1, 2, 3, 4] rfl
      have hDc := hD.sub (ws' := (cw_M_cornerX cI a_this a_cornerAt a_froms a_sizes a_xs a_colours a_layersOf a_areas a_ys a_used a_counts a_costs a_firsts a_manys a_fs a_px a_py a_groups a_joinF n_cornerAt n_froms n_sizes n_xs c_code c_width c_height c_isTraced c_outlines c_points c_hasPolygon c_of c_corners c_costSum c_hasCurves c_curveCount c_sharp c_allowed f_cornerAt f_froms f_sizes f_xs)) [0, 1, 2, 3, 4] (by decide) rfl
      have hFc := va_free (wc := (cw_M_cornerX cI a_this a_cornerAt a_froms a_sizes a_xs a_colours a_layersOf a_areas a_ys a_used a_counts a_costs a_firsts a_manys a_fs a_px a_py a_groups a_joinF n_cornerAt n_froms n_sizes n_xs c_code c_width c_height c_isTraced c_outlines c_points c_hasPolygon c_of c_corners c_costSum c_hasCurves c_curveCount c_sharp c_allowed f_cornerAt f_froms f_sizes f_xs)) hD hS hA [0, 1, 2, 3, 4] rfl
      refine va_calli (va_runV (As := [.int x1_j192]) (rest := [.int (32 : Int32), .int (2 : Int32), .ref a_px]) ⟨hx, hb, hml, hown, hts⟩ (c_M_cornerX l dC dI cI cB cJ cZ a_this a_cornerAt a_froms a_sizes a_xs a_colours a_layersOf a_areas a_ys a_used a_counts a_costs a_firsts a_manys a_fs a_px a_py a_groups a_joinF H.size n_cornerAt n_froms n_sizes n_xs c_code c_width c_height c_isTraced c_outlines c_points c_hasPolygon c_of c_corners c_costSum c_hasCurves c_curveCount c_sharp c_allowed f_cornerAt f_froms f_sizes f_xs x1_j192 Q206 hq206) (cwV 1 hts (goodV q_874 q_876 q_p45 q_7 q_877) rfl rfl rfl (by decide +kernel) ⟨Nat.le_of_ble_eq_true rfl, Nat.le_of_ble_eq_true rfl⟩) ⟨fun a U g mk q => by obtain ⟨q0, q1, qP, qK, qD⟩ := q; exact ⟨q0, q1, qP, va_K.moved (u := U) (U := U.calling g mk a) (Vm.Alike.refl U.vm) qK, qD⟩, va_recv hK hPc (ci := 5) (q0 := 0) rfl rfl, fun U hU hW => ⟨rfl, by rw [hU], by rw [hU]; exact hPc, va_K.moved hW.alike hK, hDc.weaken (fun _ _ _ _ => trivial)⟩⟩ rfl rfl hl.1 rfl (lv_room (Nat.le_of_ble_eq_true rfl)) d_M_set_206 ⟨Nat.le_of_ble_eq_true rfl, Nat.le_of_ble_eq_true rfl⟩) hS (fun q _ h => hFc q h) hFc (fun r206 u206 t H1 locs ht hvm hw hB hz1 hk1 hS => ?_)
      cases u206
      obtain ⟨hP1, -, hD1⟩ := hB
      rw [ht] at hP1
      have h := h r206 hw
      obtain ⟨hP, hD⟩ := va_join (wr := [(a_px, .inl (cI, n_px, .inl f_px_j192)), (a_ys, .inl (cI, n_ys, .inl f_ys)), (a_py, .inl (cI, n_py, .inl f192))]) (w1 := (cw_M_cornerX cI a_this a_cornerAt a_froms a_sizes a_xs a_colours a_layersOf a_areas a_ys a_used a_counts a_costs a_firsts a_manys a_fs a_px a_py a_groups a_joinF n_cornerAt n_froms n_sizes n_xs c_code c_width c_height c_isTraced c_outlines c_points c_hasPolygon c_of c_corners c_costSum c_hasCurves c_curveCount c_sharp c_allowed f_cornerAt f_froms f_sizes f_xs)) hP hD [0, 1, 2, 3, 4] [5, 6, 7] rfl rfl (by decide) (by decide) hk1 hFc hP1 hD1
      clear hP1 hD1 hk1 hPc hDc hFc
      generalize H1 = H at hP hS ⊢
      have hP : va_P (dC, dI) vwCl (cw_M_set cI a_this a_cornerAt a_froms a_sizes a_xs a_px a_ys a_py a_colours a_layersOf a_areas a_used a_counts a_costs a_firsts a_manys a_fs a_groups a_joinF n_cornerAt n_froms n_sizes n_xs n_px n_ys n_py c_code c_width c_height c_isTraced c_outlines c_points c_hasPolygon c_of c_corners c_costSum c_hasCurves c_curveCount c_sharp c_allowed f_cornerAt f_froms f_sizes f_xs f_px_j192 f_ys f192) H := hP.sub [3, 4, 5, 6, 7, 0, 1, 2] rfl
      have hD : va_D A (cw_M_set cI a_this a_cornerAt a_froms a_sizes a_xs a_px a_ys a_py a_colours a_layersOf a_areas a_used a_counts a_costs a_firsts a_manys a_fs a_groups a_joinF n_cornerAt n_froms n_sizes n_xs n_px n_ys n_py c_code c_width c_height c_isTraced c_outlines c_points c_hasPolygon c_of c_corners c_costSum c_hasCurves c_curveCount c_sharp c_allowed f_cornerAt f_froms f_sizes f_xs f_px_j192 f_ys f192) := hD.sub [3, 4, 5, 6, 7, 0, 1, 2] (by decide) rfl
      refine lv_imul hx hb d_M_set_209 ?_
      refine lv_goto (tgt := 235) hx hb d_M_set_210 (by decide) ?_
      exact J235 x1_j192 x3_j192 x5_j192 x6_j192 ((32 : Int32) * r206) (2 : Int32) f_px_j192 f192 _ _ _ h hP hD hS (lv_sub hl [0, 1, 2, 3, 4] rfl)
  have J150 : ∀ (x1_j150 : Int32) (x3_j150 : Int32) (x4_j150 : Int32) (x5_j150 : Int32) (x6_j150 : Int32) (y0_j150 : Int32) (y1_j150 : Int32) (f_px_j150 : Nat → Int32) (f_py_j150 : Nat → Int32) (H : Heap) (locs : List Loc) (ls : Array Slot), wp_M_set_J150 n_cornerAt n_froms n_sizes n_xs n_px n_ys n_py c_of c_corners f_cornerAt f_froms f_sizes f_xs f_ys f_px_j150 f_py_j150 x1_j150 x3_j150 x4_j150 x5_j150 x6_j150 y0_j150 y1_j150 post → va_P (dC, dI) vwCl (cw_M_set cI a_this a_cornerAt a_froms a_sizes a_xs a_px a_ys a_py a_colours a_layersOf a_areas a_used a_counts a_costs a_firsts a_manys a_fs a_groups a_joinF n_cornerAt n_froms n_sizes n_xs n_px n_ys n_py c_code c_width c_height c_isTraced c_outlines c_points c_hasPolygon c_of c_corners c_costSum c_hasCurves c_curveCount c_sharp c_allowed f_cornerAt f_froms f_sizes f_xs f_px_j150 f_ys f_py_j150) H → va_D A (cw_M_set cI a_this a_cornerAt a_froms a_sizes a_xs a_px a_ys a_py a_colours a_layersOf a_areas a_used a_counts a_costs a_firsts a_manys a_fs a_groups a_joinF n_cornerAt n_froms n_sizes n_xs n_px n_ys n_py c_code c_width c_height c_isTraced c_outlines c_points c_hasPolygon c_of c_corners c_costSum c_hasCurves c_curveCount c_sharp c_allowed f_cornerAt f_froms f_sizes f_xs f_px_j150 f_ys f_py_j150) → va_S A s.heap H locs → lv_has ls 7 [(0, .ref a_this), (1, .int x1_j150), (3, .int x3_j150), (4, .int x4_j150), (5, .int x5_j150), (6, .int x6_j150)] → W p l e (headSpec w_M_set ({ frames := 2, cells := 0, slots := 0, locals := 43 })).room s m ([.ref a_this, .int x1, .int x2, .int x3] : List Value).toArray below meth c H locs 0 0 Qf (F0 m 150 ls [.int y0_j150, .int y1_j150, .ref a_px]) := by
    intro x1_j150 x3_j150 x4_j150 x5_j150 x6_j150 y0_j150 y1_j150 f_px_j150 f_py_j150 H locs ls h hP hD hS hl
    unfold wp_M_set_J150 at h
    obtain ⟨hin, h⟩ := h
    refine va_iast hx hb hK hP hD hS 5 0 rfl rfl hin d_M_set_150 (fun H locs hP hD hS => ?_)
    obtain ⟨f150, e_f150⟩ : ∃ y : Nat → Int32, y = upd f_px_j150 y1_j150.toNatClampNeg y0_j150 := ⟨_, rfl⟩
    have h := h f150 e_f150
    have hP : va_P (dC, dI) vwCl (cw_M_set cI a_this a_cornerAt a_froms a_sizes a_xs a_px a_ys a_py a_colours a_layersOf a_areas a_used a_counts a_costs a_firsts a_manys a_fs a_groups a_joinF n_cornerAt n_froms n_sizes n_xs n_px n_ys n_py c_code c_width c_height c_isTraced c_outlines c_points c_hasPolygon c_of c_corners c_costSum c_hasCurves c_curveCount c_sharp c_allowed f_cornerAt f_froms f_sizes f_xs f150 f_ys f_py_j150) H := by rw [e_f150]; exact hP
    have hD : va_D A (cw_M_set cI a_this a_cornerAt a_froms a_sizes a_xs a_px a_ys a_py a_colours a_layersOf a_areas a_used a_counts a_costs a_firsts a_manys a_fs a_groups a_joinF n_cornerAt n_froms n_sizes n_xs n_px n_ys n_py c_code c_width c_height c_isTraced c_outlines c_points c_hasPolygon c_of c_corners c_costSum c_hasCurves c_curveCount c_sharp c_allowed f_cornerAt f_froms f_sizes f_xs f150 f_ys f_py_j150) := by rw [e_f150]; exact hD
    refine lv_aload_n hx hb d_M_set_151 rfl (lv_at hl 0 rfl) ?_
    refine va_get (D := (dC, dI)) (ci := 5) (v := .ref a_py) (C := R_M) (T := F_M) (N := 32) hx hb hts i_M_in hown hK hP 0 rfl rfl 29 (by decide) (hts _ q_690) (fun _ h9 => h9) rfl d_M_set_152 ?_
    refine lv_iconst (v := 1) hx hb d_M_set_155 (by decide) ?_
    refine lv_iload_n hx hb d_M_set_156 rfl (lv_at hl 2 rfl) ?_
    refine lv_if_ne (tgt := 171) hx hb d_M_set_157 (by decide) (fun cc_ => ?_) (fun cc_ => ?_)
    · have h := h.1 cc_
      refine lv_aload_n hx hb d_M_set_171 rfl (lv_at hl 0 rfl) ?_
      refine va_get (D := (dC, dI)) (ci := 5) (v := .ref a_py) (C := R_M) (T := F_M) (N := 32) hx hb hts i_M_in hown hK hP 0 rfl rfl 29 (by decide) (hts _ q_690) (fun _ h9 => h9) rfl d_M_set_172 ?_
      refine lv_iconst (v := 0) hx hb d_M_set_175 (by decide) ?_
      obtain ⟨hin, h⟩ := h
      refine va_iald hx hb hK hP 7 0 rfl rfl hin d_M_set_176 ?_
      refine lv_iload_n hx hb d_M_set_177 rfl (lv_at hl 2 rfl) ?_
      refine lv_aload_n hx hb d_M_set_178 rfl (lv_at hl 0 rfl) ?_
      refine lv_iload_n hx hb d_M_set_179 rfl (lv_at hl 1 rfl) ?_
      obtain ⟨Q180, hq180, h⟩ := h
      have hPc := hP.sub (ws' := (cw_M_cornerY cI a_this a_cornerAt a_froms a_sizes a_ys a_colours a_layersOf a_areas a_xs a_used a_counts a_costs a_firsts a_manys a_fs a_px a_py a_groups a_joinF n_cornerAt n_froms n_sizes n_ys c_code c_width c_height c_isTraced c_outlines c_points c_hasPolygon c_of c_corners c_costSum c_hasCurves c_curveCount c_sharp c_allowed f_cornerAt f_froms f_sizes f_ys)) [0, 1, 2, 3, 6] rfl
      have hDc := hD.sub (ws' := (cw_M_cornerY cI a_this a_cornerAt a_froms a_sizes a_ys a_colours a_layersOf a_areas a_xs a_used a_counts a_costs a_firsts a_manys a_fs a_px a_py a_groups a_joinF n_cornerAt n_froms n_sizes n_ys c_code c_width c_height c_isTraced c_outlines c_points c_hasPolygon c_of c_corners c_costSum c_hasCurves c_curveCount c_sharp c_allowed f_cornerAt f_froms f_sizes f_ys)) [0, 1, 2, 3, 6] (by decide) rfl
      have hFc := va_free (wc := (cw_M_cornerY cI a_this a_cornerAt a_froms a_sizes a_ys a_colours a_layersOf a_areas a_xs a_used a_counts a_costs a_firsts a_manys a_fs a_px a_py a_groups a_joinF n_cornerAt n_froms n_sizes n_ys c_code c_width c_height c_isTraced c_outlines c_points c_hasPolygon c_of c_corners c_costSum c_hasCurves c_curveCount c_sharp c_allowed f_cornerAt f_froms f_sizes f_ys)) hD hS hA [0, 1, 2, 3, 6] rfl
      refine va_calli (va_runV (As := [.int x1_j150]) (rest := [.int x3_j150, .int (f_py_j150 (0 : Int32).toNatClampNeg), .int (1 : Int32), .ref a_py]) ⟨hx, hb, hml, hown, hts⟩ (c_M_cornerY l dC dI cI cB cJ cZ a_this a_cornerAt a_froms a_sizes a_ys a_colours a_layersOf a_areas a_xs a_used a_counts a_costs a_firsts a_manys a_fs a_px a_py a_groups a_joinF H.size n_cornerAt n_froms n_sizes n_ys c_code c_width c_height c_isTraced c_outlines c_points c_hasPolygon c_of c_corners c_costSum c_hasCurves c_curveCount c_sharp c_allowed f_cornerAt f_froms f_sizes f_ys x1_j150 Q180 hq180) (cwV 1 hts (goodV q_878 q_880 q_p46 q_7 q_881) rfl rfl rfl (by decide +kernel) ⟨Nat.le_of_ble_eq_true rfl, Nat.le_of_ble_eq_true rfl⟩) ⟨fun a U g mk q => by obtain ⟨q0, q1, qP, qK, qD⟩ := q; exact ⟨q0, q1, qP, va_K.moved (u := U) (U := U.calling g mk a) (Vm.Alike.refl U.vm) qK, qD⟩, va_recv hK hPc (ci := 5) (q0 := 0) rfl rfl, fun U hU hW => ⟨rfl, by rw [hU], by rw [hU]; exact hPc, va_K.moved hW.alike hK, hDc.weaken (fun _ _ _ _ => trivial)⟩⟩ rfl rfl hl.1 rfl (lv_room (Nat.le_of_ble_eq_true rfl)) d_M_set_180 ⟨Nat.le_of_ble_eq_true rfl, Nat.le_of_ble_eq_true rfl⟩) hS (fun q _ h => hFc q h) hFc (fun r180 u180 t H1 locs ht hvm hw hB hz1 hk1 hS => ?_)
      cases u180
      obtain ⟨hP1, -, hD1⟩ := hB
      rw [ht] at hP1
      have h := h r180 hw
      obtain ⟨hP, hD⟩ := va_join (wr := [(a_xs, .inl (cI, n_xs, .inl f_xs)), (a_px, .inl (cI, n_px, .inl f150)), (a_py, .inl (cI, n_py, .inl f_py_j150))]) (w1 := (cw_M_cornerY cI a_this a_cornerAt a_froms a_sizes a_ys a_colours a_layersOf a_areas a_xs a_used a_counts a_costs a_firsts a_manys a_fs a_px a_py a_groups a_joinF n_cornerAt n_froms n_sizes n_ys c_code c_width c_height c_isTraced c_outlines c_points c_hasPolygon c_of c_corners c_costSum c_hasCurves c_curveCount c_sharp c_allowed f_cornerAt f_froms f_sizes f_ys)) hP hD [0, 1, 2, 3, 6] [4, 5, 7] rfl rfl (by decide) (by decide) hk1 hFc hP1 hD1
      clear hP1 hD1 hk1 hPc hDc hFc
      generalize H1 = H at hP hS ⊢
      have hP : va_P (dC, dI) vwCl (cw_M_set cI a_this a_cornerAt a_froms a_sizes a_xs a_px a_ys a_py a_colours a_layersOf a_areas a_used a_counts a_costs a_firsts a_manys a_fs a_groups a_joinF n_cornerAt n_froms n_sizes n_xs n_px n_ys n_py c_code c_width c_height c_isTraced c_outlines c_points c_hasPolygon c_of c_corners c_costSum c_hasCurves c_curveCount c_sharp c_allowed f_cornerAt f_froms f_sizes f_xs f150 f_ys f_py_j150) H := hP.sub [3, 4, 5, 6, 0, 1, 7, 2] rfl
      have hD : va_D A (cw_M_set cI a_this a_cornerAt a_froms a_sizes a_xs a_px a_ys a_py a_colours a_layersOf a_areas a_used a_counts a_costs a_firsts a_manys a_fs a_groups a_joinF n_cornerAt n_froms n_sizes n_xs n_px n_ys n_py c_code c_width c_height c_isTraced c_outlines c_points c_hasPolygon c_of c_corners c_costSum c_hasCurves c_curveCount c_sharp c_allowed f_cornerAt f_froms f_sizes f_xs f150 f_ys f_py_j150) := hD.sub [3, 4, 5, 6, 0, 1, 7, 2] (by decide) rfl
      refine lv_aload_n hx hb d_M_set_183 rfl (lv_at hl 0 rfl) ?_
      refine lv_iload hx hb d_M_set_184 (lv_at hl 3 rfl) ?_
      obtain ⟨Q186, hq186, h⟩ := h
      have hPc := hP.sub (ws' := (cw_M_cornerY cI a_this a_cornerAt a_froms a_sizes a_ys a_colours a_layersOf a_areas a_xs a_used a_counts a_costs a_firsts a_manys a_fs a_px a_py a_groups a_joinF n_cornerAt n_froms n_sizes n_ys c_code c_width c_height c_isTraced c_outlines c_points c_hasPolygon c_of c_corners c_costSum c_hasCurves c_curveCount c_sharp c_allowed f_cornerAt f_froms f_sizes f_ys)) [0, 1, 2, 3, 6] rfl
      have hDc := hD.sub (ws' := (cw_M_cornerY cI a_this a_cornerAt a_froms a_sizes a_ys a_colours a_layersOf a_areas a_xs a_used a_counts a_costs a_firsts a_manys a_fs a_px a_py a_groups a_joinF n_cornerAt n_froms n_sizes n_ys c_code c_width c_height c_isTraced c_outlines c_points c_hasPolygon c_of c_corners c_costSum c_hasCurves c_curveCount c_sharp c_allowed f_cornerAt f_froms f_sizes f_ys)) [0, 1, 2, 3, 6] (by decide) rfl
      have hFc := va_free (wc := (cw_M_cornerY cI a_this a_cornerAt a_froms a_sizes a_ys a_colours a_layersOf a_areas a_xs a_used a_counts a_costs a_firsts a_manys a_fs a_px a_py a_groups a_joinF n_cornerAt n_froms n_sizes n_ys c_code c_width c_height c_isTraced c_outlines c_points c_hasPolygon c_of c_corners c_costSum c_hasCurves c_curveCount c_sharp c_allowed f_cornerAt f_froms f_sizes f_ys)) hD hS hA [0, 1, 2, 3, 6] rfl
      refine va_calli (va_runV (As := [.int x4_j150]) (rest := [.int r180, .int x3_j150, .int (f_py_j150 (0 : Int32).toNatClampNeg), .int (1 : Int32), .ref a_py]) ⟨hx, hb, hml, hown, hts⟩ (c_M_cornerY l dC dI cI cB cJ cZ a_this a_cornerAt a_froms a_sizes a_ys a_colours a_layersOf a_areas a_xs a_used a_counts a_costs a_firsts a_manys a_fs a_px a_py a_groups a_joinF H.size n_cornerAt n_froms n_sizes n_ys c_code c_width c_height c_isTraced c_outlines c_points c_hasPolygon c_of c_corners c_costSum c_hasCurves c_curveCount c_sharp c_allowed f_cornerAt f_froms f_sizes f_ys x4_j150 Q186 hq186) (cwV 1 hts (goodV q_878 q_880 q_p46 q_7 q_881) rfl rfl rfl (by decide +kernel) ⟨Nat.le_of_ble_eq_true rfl, Nat.le_of_ble_eq_true rfl⟩) ⟨fun a U g mk q => by obtain ⟨q0, q1, qP, qK, qD⟩ := q; exact ⟨q0, q1, qP, va_K.moved (u := U) (U := U.calling g mk a) (Vm.Alike.refl U.vm) qK, qD⟩, va_recv hK hPc (ci := 5) (q0 := 0) rfl rfl, fun U hU hW => ⟨rfl, by rw [hU], by rw [hU]; exact hPc, va_K.moved hW.alike hK, hDc.weaken (fun _ _ _ _ => trivial)⟩⟩ rfl rfl hl.1 rfl (lv_room (Nat.le_of_ble_eq_true rfl)) d_M_set_186 ⟨Nat.le_of_ble_eq_true rfl, Nat.le_of_ble_eq_true rfl⟩) hS (fun q _ h => hFc q h) hFc (fun r186 u186 t H1 locs ht hvm hw hB hz1 hk1 hS => ?_)
      cases u186
      obtain ⟨hP1, -, hD1⟩ := hB
      rw [ht] at hP1
      have h := h r186 hw
      obtain ⟨hP, hD⟩ := va_join (wr := [(a_xs, .inl (cI, n_xs, .inl f_xs)), (a_px, .inl (cI, n_px, .inl f150)), (a_py, .inl (cI, n_py, .inl f_py_j150))]) (w1 := (cw_M_cornerY cI a_this a_cornerAt a_froms a_sizes a_ys a_colours a_layersOf a_areas a_xs a_used a_counts a_costs a_firsts a_manys a_fs a_px a_py a_groups a_joinF n_cornerAt n_froms n_sizes n_ys c_code c_width c_height c_isTraced c_outlines c_points c_hasPolygon c_of c_corners c_costSum c_hasCurves c_curveCount c_sharp c_allowed f_cornerAt f_froms f_sizes f_ys)) hP hD [0, 1, 2, 3, 6] [4, 5, 7] rfl rfl (by decide) (by decide) hk1 hFc hP1 hD1
      clear hP1 hD1 hk1 hPc hDc hFc
      generalize H1 = H at hP hS ⊢
      have hP : va_P (dC, dI) vwCl (cw_M_set cI a_this a_cornerAt a_froms a_sizes a_xs a_px a_ys a_py a_colours a_layersOf a_areas a_used a_counts a_costs a_firsts a_manys a_fs a_groups a_joinF n_cornerAt n_froms n_sizes n_xs n_px n_ys n_py c_code c_width c_height c_isTraced c_outlines c_points c_hasPolygon c_of c_corners c_costSum c_hasCurves c_curveCount c_sharp c_allowed f_cornerAt f_froms f_sizes f_xs f150 f_ys f_py_j150) H := hP.sub [3, 4, 5, 6, 0, 1, 7, 2] rfl
      have hD : va_D A (cw_M_set cI a_this a_cornerAt a_froms a_sizes a_xs a_px a_ys a_py a_colours a_layersOf a_areas a_used a_counts a_costs a_firsts a_manys a_fs a_groups a_joinF n_cornerAt n_froms n_sizes n_xs n_px n_ys n_py c_code c_width c_height c_isTraced c_outlines c_points c_hasPolygon c_of c_corners c_costSum c_hasCurves c_curveCount c_sharp c_allowed f_cornerAt f_froms f_sizes f_xs f150 f_ys f_py_j150) := hD.sub [3, 4, 5, 6, 0, 1, 7, 2] (by decide) rfl
      refine lv_isub hx hb d_M_set_189 ?_
      refine lv_imul hx hb d_M_set_190 ?_
      refine lv_iadd hx hb d_M_set_191 ?_
      exact J192 x1_j150 x3_j150 x5_j150 x6_j150 ((f_py_j150 (0 : Int32).toNatClampNeg) + (x3_j150 * (r180 - r186))) (1 : Int32) f150 f_py_j150 _ _ _ h hP hD hS (lv_sub hl [0, 1, 2, 4, 5] rfl)
    · have h := h.2 cc_
      refine lv_bipush (v := 32) hx hb d_M_set_160 (by decide) ?_
      refine lv_aload_n hx hb d_M_set_162 rfl (lv_at hl 0 rfl) ?_
      refine lv_iload_n hx hb d_M_set_163 rfl (lv_at hl 1 rfl) ?_
      obtain ⟨Q164, hq164, h⟩ := h
      have hPc := hP.sub (ws' := (cw_M_cornerY cI a_this a_cornerAt a_froms a_sizes a_ys a_colours a_layersOf a_areas a_xs a_used a_counts a_costs a_firsts a_manys a_fs a_px a_py a_groups a_joinF n_cornerAt n_froms n_sizes n_ys c_code c_width c_height c_isTraced c_outlines c_points c_hasPolygon c_of c_corners c_costSum c_hasCurves c_curveCount c_sharp c_allowed f_cornerAt f_froms f_sizes f_ys)) [0, 1, 2, 3, 6] rfl
      have hDc := hD.sub (ws' := (cw_M_cornerY cI a_this a_cornerAt a_froms a_sizes a_ys a_colours a_layersOf a_areas a_xs a_used a_counts a_costs a_firsts a_manys a_fs a_px a_py a_groups a_joinF n_cornerAt n_froms n_sizes n_ys c_code c_width c_height c_isTraced c_outlines c_points c_hasPolygon c_of c_corners c_costSum c_hasCurves c_curveCount c_sharp c_allowed f_cornerAt f_froms f_sizes f_ys)) [0, 1, 2, 3, 6] (by decide) rfl
      have hFc := va_free (wc := (cw_M_cornerY cI a_this a_cornerAt a_froms a_sizes a_ys a_colours a_layersOf a_areas a_xs a_used a_counts a_costs a_firsts a_manys a_fs a_px a_py a_groups a_joinF n_cornerAt n_froms n_sizes n_ys c_code c_width c_height c_isTraced c_outlines c_points c_hasPolygon c_of c_corners c_costSum c_hasCurves c_curveCount c_sharp c_allowed f_cornerAt f_froms f_sizes f_ys)) hD hS hA [0, 1, 2, 3, 6] rfl
      refine va_calli (va_runV (As := [.int x1_j150]) (rest := [.int (32 : Int32), .int (1 : Int32), .ref a_py]) ⟨hx, hb, hml, hown, hts⟩ (c_M_cornerY l dC dI cI cB cJ cZ a_this a_cornerAt a_froms a_sizes a_ys a_colours a_layersOf a_areas a_xs a_used a_counts a_costs a_firsts a_manys a_fs a_px a_py a_groups a_joinF H.size n_cornerAt n_froms n_sizes n_ys c_code c_width c_height c_isTraced c_outlines c_points c_hasPolygon c_of c_corners c_costSum c_hasCurves c_curveCount c_sharp c_allowed f_cornerAt f_froms f_sizes f_ys x1_j150 Q164 hq164) (cwV 1 hts (goodV q_878 q_880 q_p46 q_7 q_881) rfl rfl rfl (by decide +kernel) ⟨Nat.le_of_ble_eq_true rfl, Nat.le_of_ble_eq_true rfl⟩) ⟨fun a U g mk q => by obtain ⟨q0, q1, qP, qK, qD⟩ := q; exact ⟨q0, q1, qP, va_K.moved (u := U) (U := U.calling g mk a) (Vm.Alike.refl U.vm) qK, qD⟩, va_recv hK hPc (ci := 5) (q0 := 0) rfl rfl, fun U hU hW => ⟨rfl, by rw [hU], by rw [hU]; exact hPc, va_K.moved hW.alike hK, hDc.weaken (fun _ _ _ _ => trivial)⟩⟩ rfl rfl hl.1 rfl (lv_room (Nat.le_of_ble_eq_true rfl)) d_M_set_164 ⟨Nat.le_of_ble_eq_true rfl, Nat.le_of_ble_eq_true rfl⟩) hS (fun q _ h => hFc q h) hFc (fun r164 u164 t H1 locs ht hvm hw hB hz1 hk1 hS => ?_)
      cases u164
      obtain ⟨hP1, -, hD1⟩ := hB
      rw [ht] at hP1
      have h := h r164 hw
      obtain ⟨hP, hD⟩ := va_join (wr := [(a_xs, .inl (cI, n_xs, .inl f_xs)), (a_px, .inl (cI, n_px, .inl f150)), (a_py, .inl (cI, n_py, .inl f_py_j150))]) (w1 := (cw_M_cornerY cI a_this a_cornerAt a_froms a_sizes a_ys a_colours a_layersOf a_areas a_xs a_used a_counts a_costs a_firsts a_manys a_fs a_px a_py a_groups a_joinF n_cornerAt n_froms n_sizes n_ys c_code c_width c_height c_isTraced c_outlines c_points c_hasPolygon c_of c_corners c_costSum c_hasCurves c_curveCount c_sharp c_allowed f_cornerAt f_froms f_sizes f_ys)) hP hD [0, 1, 2, 3, 6] [4, 5, 7] rfl rfl (by decide) (by decide) hk1 hFc hP1 hD1
      clear hP1 hD1 hk1 hPc hDc hFc
      generalize H1 = H at hP hS ⊢
      have hP : va_P (dC, dI) vwCl (cw_M_set cI a_this a_cornerAt a_froms a_sizes a_xs a_px a_ys a_py a_colours a_layersOf a_areas a_used a_counts a_costs a_firsts a_manys a_fs a_groups a_joinF n_cornerAt n_froms n_sizes n_xs n_px n_ys n_py c_code c_width c_height c_isTraced c_outlines c_points c_hasPolygon c_of c_corners c_costSum c_hasCurves c_curveCount c_sharp c_allowed f_cornerAt f_froms f_sizes f_xs f150 f_ys f_py_j150) H := hP.sub [3, 4, 5, 6, 0, 1, 7, 2] rfl
      have hD : va_D A (cw_M_set cI a_this a_cornerAt a_froms a_sizes a_xs a_px a_ys a_py a_colours a_layersOf a_areas a_used a_counts a_costs a_firsts a_manys a_fs a_groups a_joinF n_cornerAt n_froms n_sizes n_xs n_px n_ys n_py c_code c_width c_height c_isTraced c_outlines c_points c_hasPolygon c_of c_corners c_costSum c_hasCurves c_curveCount c_sharp c_allowed f_cornerAt f_froms f_sizes f_xs f150 f_ys f_py_j150) := hD.sub [3, 4, 5, 6, 0, 1, 7, 2] (by decide) rfl
      refine lv_imul hx hb d_M_set_167 ?_
      refine lv_goto (tgt := 192) hx hb d_M_set_168 (by decide) ?_
      exact J192 x1_j150 x3_j150 x5_j150 x6_j150 ((32 : Int32) * r164) (1 : Int32) f150 f_py_j150 _ _ _ h hP hD hS (lv_sub hl [0, 1, 2, 4, 5] rfl)
  refine lv_iload_n hx hb d_M_set_0 rfl (lv_at hl 1 rfl) ?_
  refine lv_aload_n hx hb d_M_set_1 rfl (lv_at hl 0 rfl) ?_
  refine va_get (D := (dC, dI)) (ci := 5) (v := .int c_corners) (C := R_M) (T := F_M) (N := 32) hx hb hts i_M_in hown hK hP 0 rfl rfl 16 (by decide) (hts _ q_677) (fun _ h9 => h9) rfl d_M_set_2 ?_
  refine lv_iadd hx hb d_M_set_5 ?_
  refine lv_iconst (v := 1) hx hb d_M_set_6 (by decide) ?_
  refine lv_isub hx hb d_M_set_7 ?_
  refine lv_topi (fun x4_8 e_x4_8 => ?_)
  have h := h x4_8 e_x4_8
  refine lv_istore (lv' := [(4, .int x4_8), (0, .ref a_this), (1, .int x1), (2, .int x2), (3, .int x3)]) hx hb d_M_set_8 hl (by decide) rfl (fun ls hl => ?_)
  refine lv_iload_n hx hb d_M_set_10 rfl (lv_at hl 2 rfl) ?_
  refine lv_iload_n hx hb d_M_set_11 rfl (lv_at hl 3 rfl) ?_
  refine lv_iadd hx hb d_M_set_12 ?_
  refine lv_iconst (v := 1) hx hb d_M_set_13 (by decide) ?_
  refine lv_isub hx hb d_M_set_14 ?_
  refine lv_topi (fun x5_15 e_x5_15 => ?_)
  have h := h x5_15 e_x5_15
  refine lv_istore (lv' := [(5, .int x5_15), (4, .int x4_8), (0, .ref a_this), (1, .int x1), (2, .int x2), (3, .int x3)]) hx hb d_M_set_15 hl (by decide) rfl (fun ls hl => ?_)
  refine lv_iload hx hb d_M_set_17 (lv_at hl 0 rfl) ?_
  refine lv_iconst (v := 1) hx hb d_M_set_19 (by decide) ?_
  refine lv_iadd hx hb d_M_set_20 ?_
  refine lv_topi (fun x6_21 e_x6_21 => ?_)
  have h := h x6_21 e_x6_21
  refine lv_istore (lv' := [(6, .int x6_21), (5, .int x5_15), (4, .int x4_8), (0, .ref a_this), (1, .int x1), (2, .int x2), (3, .int x3)]) hx hb d_M_set_21 hl (by decide) rfl (fun ls hl => ?_)
  refine lv_aload_n hx hb d_M_set_23 rfl (lv_at hl 3 rfl) ?_
  refine va_get (D := (dC, dI)) (ci := 5) (v := .ref a_px) (C := R_M) (T := F_M) (N := 32) hx hb hts i_M_in hown hK hP 0 rfl rfl 28 (by decide) (hts _ q_689) (fun _ h9 => h9) rfl d_M_set_24 ?_
  refine lv_iconst (v := 0) hx hb d_M_set_27 (by decide) ?_
  refine lv_bipush (v := 16) hx hb d_M_set_28 (by decide) ?_
  refine lv_aload_n hx hb d_M_set_30 rfl (lv_at hl 3 rfl) ?_
  refine lv_iload hx hb d_M_set_31 (lv_at hl 2 rfl) ?_
  obtain ⟨Q33, hq33, h⟩ := h
  have hPc := hP.sub (ws' := (cw_M_cornerX cI a_this a_cornerAt a_froms a_sizes a_xs a_colours a_layersOf a_areas a_ys a_used a_counts a_costs a_firsts a_manys a_fs a_px a_py a_groups a_joinF n_cornerAt n_froms n_sizes n_xs c_code c_width c_height c_isTraced c_outlines c_points c_hasPolygon c_of c_corners c_costSum c_hasCurves c_curveCount c_sharp c_allowed f_cornerAt f_froms f_sizes f_xs)) [0, 1, 2, 3, 4] rfl
  have hDc := hD.sub (ws' := (cw_M_cornerX cI a_this a_cornerAt a_froms a_sizes a_xs a_colours a_layersOf a_areas a_ys a_used a_counts a_costs a_firsts a_manys a_fs a_px a_py a_groups a_joinF n_cornerAt n_froms n_sizes n_xs c_code c_width c_height c_isTraced c_outlines c_points c_hasPolygon c_of c_corners c_costSum c_hasCurves c_curveCount c_sharp c_allowed f_cornerAt f_froms f_sizes f_xs)) [0, 1, 2, 3, 4] (by decide) rfl
  have hFc := va_free (wc := (cw_M_cornerX cI a_this a_cornerAt a_froms a_sizes a_xs a_colours a_layersOf a_areas a_ys a_used a_counts a_costs a_firsts a_manys a_fs a_px a_py a_groups a_joinF n_cornerAt n_froms n_sizes n_xs c_code c_width c_height c_isTraced c_outlines c_points c_hasPolygon c_of c_corners c_costSum c_hasCurves c_curveCount c_sharp c_allowed f_cornerAt f_froms f_sizes f_xs)) hD hS hA [0, 1, 2, 3, 4] rfl
  refine va_calli (va_runV (As := [.int x4_8]) (rest := [.int (16 : Int32), .int (0 : Int32), .ref a_px]) ⟨hx, hb, hml, hown, hts⟩ (c_M_cornerX l dC dI cI cB cJ cZ a_this a_cornerAt a_froms a_sizes a_xs a_colours a_layersOf a_areas a_ys a_used a_counts a_costs a_firsts a_manys a_fs a_px a_py a_groups a_joinF s.heap.size n_cornerAt n_froms n_sizes n_xs c_code c_width c_height c_isTraced c_outlines c_points c_hasPolygon c_of c_corners c_costSum c_hasCurves c_curveCount c_sharp c_allowed f_cornerAt f_froms f_sizes f_xs x4_8 Q33 hq33) (cwV 1 hts (goodV q_874 q_876 q_p45 q_7 q_877) rfl rfl rfl (by decide +kernel) ⟨Nat.le_of_ble_eq_true rfl, Nat.le_of_ble_eq_true rfl⟩) ⟨fun a U g mk q => by obtain ⟨q0, q1, qP, qK, qD⟩ := q; exact ⟨q0, q1, qP, va_K.moved (u := U) (U := U.calling g mk a) (Vm.Alike.refl U.vm) qK, qD⟩, va_recv hK hPc (ci := 5) (q0 := 0) rfl rfl, fun U hU hW => ⟨rfl, by rw [hU], by rw [hU]; exact hPc, va_K.moved hW.alike hK, hDc.weaken (fun _ _ _ _ => trivial)⟩⟩ rfl rfl hl.1 rfl (lv_room (Nat.le_of_ble_eq_true rfl)) d_M_set_33 ⟨Nat.le_of_ble_eq_true rfl, Nat.le_of_ble_eq_true rfl⟩) hS (fun q _ h => hFc q h) hFc (fun r33 u33 t H1 locs ht hvm hw hB hz1 hk1 hS => ?_)
  cases u33
  obtain ⟨hP1, -, hD1⟩ := hB
  rw [ht] at hP1
  have h := h r33 hw
  obtain ⟨hP, hD⟩ := va_join (wr := [(a_px, .inl (cI, n_px, .inl f_px)), (a_ys, .inl (cI, n_ys, .inl f_ys)), (a_py, .inl (cI, n_py, .inl f_py))]) (w1 := (cw_M_cornerX cI a_this a_cornerAt a_froms a_sizes a_xs a_colours a_layersOf a_areas a_ys a_used a_counts a_costs a_firsts a_manys a_fs a_px a_py a_groups a_joinF n_cornerAt n_froms n_sizes n_xs c_code c_width c_height c_isTraced c_outlines c_points c_hasPolygon c_of c_corners c_costSum c_hasCurves c_curveCount c_sharp c_allowed f_cornerAt f_froms f_sizes f_xs)) hP hD [0, 1, 2, 3, 4] [5, 6, 7] rfl rfl (by decide) (by decide) hk1 hFc hP1 hD1
  clear hP1 hD1 hk1 hPc hDc hFc
  generalize H1 = H at hP hS ⊢
  have hP : va_P (dC, dI) vwCl (cw_M_set cI a_this a_cornerAt a_froms a_sizes a_xs a_px a_ys a_py a_colours a_layersOf a_areas a_used a_counts a_costs a_firsts a_manys a_fs a_groups a_joinF n_cornerAt n_froms n_sizes n_xs n_px n_ys n_py c_code c_width c_height c_isTraced c_outlines c_points c_hasPolygon c_of c_corners c_costSum c_hasCurves c_curveCount c_sharp c_allowed f_cornerAt f_froms f_sizes f_xs f_px f_ys f_py) H := hP.sub [3, 4, 5, 6, 7, 0, 1, 2] rfl
  have hD : va_D A (cw_M_set cI a_this a_cornerAt a_froms a_sizes a_xs a_px a_ys a_py a_colours a_layersOf a_areas a_used a_counts a_costs a_firsts a_manys a_fs a_groups a_joinF n_cornerAt n_froms n_sizes n_xs n_px n_ys n_py c_code c_width c_height c_isTraced c_outlines c_points c_hasPolygon c_of c_corners c_costSum c_hasCurves c_curveCount c_sharp c_allowed f_cornerAt f_froms f_sizes f_xs f_px f_ys f_py) := hD.sub [3, 4, 5, 6, 7, 0, 1, 2] (by decide) rfl
  refine lv_aload_n hx hb d_M_set_36 rfl (lv_at hl 3 rfl) ?_
  refine lv_iload_n hx hb d_M_set_37 rfl (lv_at hl 4 rfl) ?_
  obtain ⟨Q38, hq38, h⟩ := h
  have hPc := hP.sub (ws' := (cw_M_cornerX cI a_this a_cornerAt a_froms a_sizes a_xs a_colours a_layersOf a_areas a_ys a_used a_counts a_costs a_firsts a_manys a_fs a_px a_py a_groups a_joinF n_cornerAt n_froms n_sizes n_xs c_code c_width c_height c_isTraced c_outlines c_points c_hasPolygon c_of c_corners c_costSum c_hasCurves c_curveCount c_sharp c_allowed f_cornerAt f_froms f_sizes f_xs)) [0, 1, 2, 3, 4] rfl
  have hDc := hD.sub (ws' := (cw_M_cornerX cI a_this a_cornerAt a_froms a_sizes a_xs a_colours a_layersOf a_areas a_ys a_used a_counts a_costs a_firsts a_manys a_fs a_px a_py a_groups a_joinF n_cornerAt n_froms n_sizes n_xs c_code c_width c_height c_isTraced c_outlines c_points c_hasPolygon c_of c_corners c_costSum c_hasCurves c_curveCount c_sharp c_allowed f_cornerAt f_froms f_sizes f_xs)) [0, 1, 2, 3, 4] (by decide) rfl
  have hFc := va_free (wc := (cw_M_cornerX cI a_this a_cornerAt a_froms a_sizes a_xs a_colours a_layersOf a_areas a_ys a_used a_counts a_costs a_firsts a_manys a_fs a_px a_py a_groups a_joinF n_cornerAt n_froms n_sizes n_xs c_code c_width c_height c_isTraced c_outlines c_points c_hasPolygon c_of c_corners c_costSum c_hasCurves c_curveCount c_sharp c_allowed f_cornerAt f_froms f_sizes f_xs)) hD hS hA [0, 1, 2, 3, 4] rfl
  refine va_calli (va_runV (As := [.int x1]) (rest := [.int r33, .int (16 : Int32), .int (0 : Int32), .ref a_px]) ⟨hx, hb, hml, hown, hts⟩ (c_M_cornerX l dC dI cI cB cJ cZ a_this a_cornerAt a_froms a_sizes a_xs a_colours a_layersOf a_areas a_ys a_used a_counts a_costs a_firsts a_manys a_fs a_px a_py a_groups a_joinF H.size n_cornerAt n_froms n_sizes n_xs c_code c_width c_height c_isTraced c_outlines c_points c_hasPolygon c_of c_corners c_costSum c_hasCurves c_curveCount c_sharp c_allowed f_cornerAt f_froms f_sizes f_xs x1 Q38 hq38) (cwV 1 hts (goodV q_874 q_876 q_p45 q_7 q_877) rfl rfl rfl (by decide +kernel) ⟨Nat.le_of_ble_eq_true rfl, Nat.le_of_ble_eq_true rfl⟩) ⟨fun a U g mk q => by obtain ⟨q0, q1, qP, qK, qD⟩ := q; exact ⟨q0, q1, qP, va_K.moved (u := U) (U := U.calling g mk a) (Vm.Alike.refl U.vm) qK, qD⟩, va_recv hK hPc (ci := 5) (q0 := 0) rfl rfl, fun U hU hW => ⟨rfl, by rw [hU], by rw [hU]; exact hPc, va_K.moved hW.alike hK, hDc.weaken (fun _ _ _ _ => trivial)⟩⟩ rfl rfl hl.1 rfl (lv_room (Nat.le_of_ble_eq_true rfl)) d_M_set_38 ⟨Nat.le_of_ble_eq_true rfl, Nat.le_of_ble_eq_true rfl⟩) hS (fun q _ h => hFc q h) hFc (fun r38 u38 t H1 locs ht hvm hw hB hz1 hk1 hS => ?_)
  cases u38
  obtain ⟨hP1, -, hD1⟩ := hB
  rw [ht] at hP1
  have h := h r38 hw
  obtain ⟨hP, hD⟩ := va_join (wr := [(a_px, .inl (cI, n_px, .inl f_px)), (a_ys, .inl (cI, n_ys, .inl f_ys)), (a_py, .inl (cI, n_py, .inl f_py))]) (w1 := (cw_M_cornerX cI a_this a_cornerAt a_froms a_sizes a_xs a_colours a_layersOf a_areas a_ys a_used a_counts a_costs a_firsts a_manys a_fs a_px a_py a_groups a_joinF n_cornerAt n_froms n_sizes n_xs c_code c_width c_height c_isTraced c_outlines c_points c_hasPolygon c_of c_corners c_costSum c_hasCurves c_curveCount c_sharp c_allowed f_cornerAt f_froms f_sizes f_xs)) hP hD [0, 1, 2, 3, 4] [5, 6, 7] rfl rfl (by decide) (by decide) hk1 hFc hP1 hD1
  clear hP1 hD1 hk1 hPc hDc hFc
  generalize H1 = H at hP hS ⊢
  have hP : va_P (dC, dI) vwCl (cw_M_set cI a_this a_cornerAt a_froms a_sizes a_xs a_px a_ys a_py a_colours a_layersOf a_areas a_used a_counts a_costs a_firsts a_manys a_fs a_groups a_joinF n_cornerAt n_froms n_sizes n_xs n_px n_ys n_py c_code c_width c_height c_isTraced c_outlines c_points c_hasPolygon c_of c_corners c_costSum c_hasCurves c_curveCount c_sharp c_allowed f_cornerAt f_froms f_sizes f_xs f_px f_ys f_py) H := hP.sub [3, 4, 5, 6, 7, 0, 1, 2] rfl
  have hD : va_D A (cw_M_set cI a_this a_cornerAt a_froms a_sizes a_xs a_px a_ys a_py a_colours a_layersOf a_areas a_used a_counts a_costs a_firsts a_manys a_fs a_groups a_joinF n_cornerAt n_froms n_sizes n_xs n_px n_ys n_py c_code c_width c_height c_isTraced c_outlines c_points c_hasPolygon c_of c_corners c_costSum c_hasCurves c_curveCount c_sharp c_allowed f_cornerAt f_froms f_sizes f_xs f_px f_ys f_py) := hD.sub [3, 4, 5, 6, 7, 0, 1, 2] (by decide) rfl
  refine lv_iadd hx hb d_M_set_41 ?_
  refine lv_imul hx hb d_M_set_42 ?_
  obtain ⟨hin, h⟩ := h
  refine va_iast hx hb hK hP hD hS 5 0 rfl rfl hin d_M_set_43 (fun H locs hP hD hS => ?_)
  obtain ⟨f43, e_f43⟩ : ∃ y : Nat → Int32, y = upd f_px (0 : Int32).toNatClampNeg ((16 : Int32) * (r33 + r38)) := ⟨_, rfl⟩
  have h := h f43 e_f43
  have hP : va_P (dC, dI) vwCl (cw_M_set cI a_this a_cornerAt a_froms a_sizes a_xs a_px a_ys a_py a_colours a_layersOf a_areas a_used a_counts a_costs a_firsts a_manys a_fs a_groups a_joinF n_cornerAt n_froms n_sizes n_xs n_px n_ys n_py c_code c_width c_height c_isTraced c_outlines c_points c_hasPolygon c_of c_corners c_costSum c_hasCurves c_curveCount c_sharp c_allowed f_cornerAt f_froms f_sizes f_xs f43 f_ys f_py) H := by rw [e_f43]; exact hP
  have hD : va_D A (cw_M_set cI a_this a_cornerAt a_froms a_sizes a_xs a_px a_ys a_py a_colours a_layersOf a_areas a_used a_counts a_costs a_firsts a_manys a_fs a_groups a_joinF n_cornerAt n_froms n_sizes n_xs n_px n_ys n_py c_code c_width c_height c_isTraced c_outlines c_points c_hasPolygon c_of c_corners c_costSum c_hasCurves c_curveCount c_sharp c_allowed f_cornerAt f_froms f_sizes f_xs f43 f_ys f_py) := by rw [e_f43]; exact hD
  refine lv_aload_n hx hb d_M_set_44 rfl (lv_at hl 3 rfl) ?_
  refine va_get (D := (dC, dI)) (ci := 5) (v := .ref a_py) (C := R_M) (T := F_M) (N := 32) hx hb hts i_M_in hown hK hP 0 rfl rfl 29 (by decide) (hts _ q_690) (fun _ h9 => h9) rfl d_M_set_45 ?_
  refine lv_iconst (v := 0) hx hb d_M_set_48 (by decide) ?_
  refine lv_bipush (v := 16) hx hb d_M_set_49 (by decide) ?_
  refine lv_aload_n hx hb d_M_set_51 rfl (lv_at hl 3 rfl) ?_
  refine lv_iload hx hb d_M_set_52 (lv_at hl 2 rfl) ?_
  obtain ⟨Q54, hq54, h⟩ := h
  have hPc := hP.sub (ws' := (cw_M_cornerY cI a_this a_cornerAt a_froms a_sizes a_ys a_colours a_layersOf a_areas a_xs a_used a_counts a_costs a_firsts a_manys a_fs a_px a_py a_groups a_joinF n_cornerAt n_froms n_sizes n_ys c_code c_width c_height c_isTraced c_outlines c_points c_hasPolygon c_of c_corners c_costSum c_hasCurves c_curveCount c_sharp c_allowed f_cornerAt f_froms f_sizes f_ys)) [0, 1, 2, 3, 6] rfl
  have hDc := hD.sub (ws' := (cw_M_cornerY cI a_this a_cornerAt a_froms a_sizes a_ys a_colours a_layersOf a_areas a_xs a_used a_counts a_costs a_firsts a_manys a_fs a_px a_py a_groups a_joinF n_cornerAt n_froms n_sizes n_ys c_code c_width c_height c_isTraced c_outlines c_points c_hasPolygon c_of c_corners c_costSum c_hasCurves c_curveCount c_sharp c_allowed f_cornerAt f_froms f_sizes f_ys)) [0, 1, 2, 3, 6] (by decide) rfl
  have hFc := va_free (wc := (cw_M_cornerY cI a_this a_cornerAt a_froms a_sizes a_ys a_colours a_layersOf a_areas a_xs a_used a_counts a_costs a_firsts a_manys a_fs a_px a_py a_groups a_joinF n_cornerAt n_froms n_sizes n_ys c_code c_width c_height c_isTraced c_outlines c_points c_hasPolygon c_of c_corners c_costSum c_hasCurves c_curveCount c_sharp c_allowed f_cornerAt f_froms f_sizes f_ys)) hD hS hA [0, 1, 2, 3, 6] rfl
  refine va_calli (va_runV (As := [.int x4_8]) (rest := [.int (16 : Int32), .int (0 : Int32), .ref a_py]) ⟨hx, hb, hml, hown, hts⟩ (c_M_cornerY l dC dI cI cB cJ cZ a_this a_cornerAt a_froms a_sizes a_ys a_colours a_layersOf a_areas a_xs a_used a_counts a_costs a_firsts a_manys a_fs a_px a_py a_groups a_joinF H.size n_cornerAt n_froms n_sizes n_ys c_code c_width c_height c_isTraced c_outlines c_points c_hasPolygon c_of c_corners c_costSum c_hasCurves c_curveCount c_sharp c_allowed f_cornerAt f_froms f_sizes f_ys x4_8 Q54 hq54) (cwV 1 hts (goodV q_878 q_880 q_p46 q_7 q_881) rfl rfl rfl (by decide +kernel) ⟨Nat.le_of_ble_eq_true rfl, Nat.le_of_ble_eq_true rfl⟩) ⟨fun a U g mk q => by obtain ⟨q0, q1, qP, qK, qD⟩ := q; exact ⟨q0, q1, qP, va_K.moved (u := U) (U := U.calling g mk a) (Vm.Alike.refl U.vm) qK, qD⟩, va_recv hK hPc (ci := 5) (q0 := 0) rfl rfl, fun U hU hW => ⟨rfl, by rw [hU], by rw [hU]; exact hPc, va_K.moved hW.alike hK, hDc.weaken (fun _ _ _ _ => trivial)⟩⟩ rfl rfl hl.1 rfl (lv_room (Nat.le_of_ble_eq_true rfl)) d_M_set_54 ⟨Nat.le_of_ble_eq_true rfl, Nat.le_of_ble_eq_true rfl⟩) hS (fun q _ h => hFc q h) hFc (fun r54 u54 t H1 locs ht hvm hw hB hz1 hk1 hS => ?_)
  cases u54
  obtain ⟨hP1, -, hD1⟩ := hB
  rw [ht] at hP1
  have h := h r54 hw
  obtain ⟨hP, hD⟩ := va_join (wr := [(a_xs, .inl (cI, n_xs, .inl f_xs)), (a_px, .inl (cI, n_px, .inl f43)), (a_py, .inl (cI, n_py, .inl f_py))]) (w1 := (cw_M_cornerY cI a_this a_cornerAt a_froms a_sizes a_ys a_colours a_layersOf a_areas a_xs a_used a_counts a_costs a_firsts a_manys a_fs a_px a_py a_groups a_joinF n_cornerAt n_froms n_sizes n_ys c_code c_width c_height c_isTraced c_outlines c_points c_hasPolygon c_of c_corners c_costSum c_hasCurves c_curveCount c_sharp c_allowed f_cornerAt f_froms f_sizes f_ys)) hP hD [0, 1, 2, 3, 6] [4, 5, 7] rfl rfl (by decide) (by decide) hk1 hFc hP1 hD1
  clear hP1 hD1 hk1 hPc hDc hFc
  generalize H1 = H at hP hS ⊢
  have hP : va_P (dC, dI) vwCl (cw_M_set cI a_this a_cornerAt a_froms a_sizes a_xs a_px a_ys a_py a_colours a_layersOf a_areas a_used a_counts a_costs a_firsts a_manys a_fs a_groups a_joinF n_cornerAt n_froms n_sizes n_xs n_px n_ys n_py c_code c_width c_height c_isTraced c_outlines c_points c_hasPolygon c_of c_corners c_costSum c_hasCurves c_curveCount c_sharp c_allowed f_cornerAt f_froms f_sizes f_xs f43 f_ys f_py) H := hP.sub [3, 4, 5, 6, 0, 1, 7, 2] rfl
  have hD : va_D A (cw_M_set cI a_this a_cornerAt a_froms a_sizes a_xs a_px a_ys a_py a_colours a_layersOf a_areas a_used a_counts a_costs a_firsts a_manys a_fs a_groups a_joinF n_cornerAt n_froms n_sizes n_xs n_px n_ys n_py c_code c_width c_height c_isTraced c_outlines c_points c_hasPolygon c_of c_corners c_costSum c_hasCurves c_curveCount c_sharp c_allowed f_cornerAt f_froms f_sizes f_xs f43 f_ys f_py) := hD.sub [3, 4, 5, 6, 0, 1, 7, 2] (by decide) rfl
  refine lv_aload_n hx hb d_M_set_57 rfl (lv_at hl 3 rfl) ?_
  refine lv_iload_n hx hb d_M_set_58 rfl (lv_at hl 4 rfl) ?_
  obtain ⟨Q59, hq59, h⟩ := h
  have hPc := hP.sub (ws' := (cw_M_cornerY cI a_this a_cornerAt a_froms a_sizes a_ys a_colours a_layersOf a_areas a_xs a_used a_counts a_costs a_firsts a_manys a_fs a_px a_py a_groups a_joinF n_cornerAt n_froms n_sizes n_ys c_code c_width c_height c_isTraced c_outlines c_points c_hasPolygon c_of c_corners c_costSum c_hasCurves c_curveCount c_sharp c_allowed f_cornerAt f_froms f_sizes f_ys)) [0, 1, 2, 3, 6] rfl
  have hDc := hD.sub (ws' := (cw_M_cornerY cI a_this a_cornerAt a_froms a_sizes a_ys a_colours a_layersOf a_areas a_xs a_used a_counts a_costs a_firsts a_manys a_fs a_px a_py a_groups a_joinF n_cornerAt n_froms n_sizes n_ys c_code c_width c_height c_isTraced c_outlines c_points c_hasPolygon c_of c_corners c_costSum c_hasCurves c_curveCount c_sharp c_allowed f_cornerAt f_froms f_sizes f_ys)) [0, 1, 2, 3, 6] (by decide) rfl
  have hFc := va_free (wc := (cw_M_cornerY cI a_this a_cornerAt a_froms a_sizes a_ys a_colours a_layersOf a_areas a_xs a_used a_counts a_costs a_firsts a_manys a_fs a_px a_py a_groups a_joinF n_cornerAt n_froms n_sizes n_ys c_code c_width c_height c_isTraced c_outlines c_points c_hasPolygon c_of c_corners c_costSum c_hasCurves c_curveCount c_sharp c_allowed f_cornerAt f_froms f_sizes f_ys)) hD hS hA [0, 1, 2, 3, 6] rfl
  refine va_calli (va_runV (As := [.int x1]) (rest := [.int r54, .int (16 : Int32), .int (0 : Int32), .ref a_py]) ⟨hx, hb, hml, hown, hts⟩ (c_M_cornerY l dC dI cI cB cJ cZ a_this a_cornerAt a_froms a_sizes a_ys a_colours a_layersOf a_areas a_xs a_used a_counts a_costs a_firsts a_manys a_fs a_px a_py a_groups a_joinF H.size n_cornerAt n_froms n_sizes n_ys c_code c_width c_height c_isTraced c_outlines c_points c_hasPolygon c_of c_corners c_costSum c_hasCurves c_curveCount c_sharp c_allowed f_cornerAt f_froms f_sizes f_ys x1 Q59 hq59) (cwV 1 hts (goodV q_878 q_880 q_p46 q_7 q_881) rfl rfl rfl (by decide +kernel) ⟨Nat.le_of_ble_eq_true rfl, Nat.le_of_ble_eq_true rfl⟩) ⟨fun a U g mk q => by obtain ⟨q0, q1, qP, qK, qD⟩ := q; exact ⟨q0, q1, qP, va_K.moved (u := U) (U := U.calling g mk a) (Vm.Alike.refl U.vm) qK, qD⟩, va_recv hK hPc (ci := 5) (q0 := 0) rfl rfl, fun U hU hW => ⟨rfl, by rw [hU], by rw [hU]; exact hPc, va_K.moved hW.alike hK, hDc.weaken (fun _ _ _ _ => trivial)⟩⟩ rfl rfl hl.1 rfl (lv_room (Nat.le_of_ble_eq_true rfl)) d_M_set_59 ⟨Nat.le_of_ble_eq_true rfl, Nat.le_of_ble_eq_true rfl⟩) hS (fun q _ h => hFc q h) hFc (fun r59 u59 t H1 locs ht hvm hw hB hz1 hk1 hS => ?_)
  cases u59
  obtain ⟨hP1, -, hD1⟩ := hB
  rw [ht] at hP1
  have h := h r59 hw
  obtain ⟨hP, hD⟩ := va_join (wr := [(a_xs, .inl (cI, n_xs, .inl f_xs)), (a_px, .inl (cI, n_px, .inl f43)), (a_py, .inl (cI, n_py, .inl f_py))]) (w1 := (cw_M_cornerY cI a_this a_cornerAt a_froms a_sizes a_ys a_colours a_layersOf a_areas a_xs a_used a_counts a_costs a_firsts a_manys a_fs a_px a_py a_groups a_joinF n_cornerAt n_froms n_sizes n_ys c_code c_width c_height c_isTraced c_outlines c_points c_hasPolygon c_of c_corners c_costSum c_hasCurves c_curveCount c_sharp c_allowed f_cornerAt f_froms f_sizes f_ys)) hP hD [0, 1, 2, 3, 6] [4, 5, 7] rfl rfl (by decide) (by decide) hk1 hFc hP1 hD1
  clear hP1 hD1 hk1 hPc hDc hFc
  generalize H1 = H at hP hS ⊢
  have hP : va_P (dC, dI) vwCl (cw_M_set cI a_this a_cornerAt a_froms a_sizes a_xs a_px a_ys a_py a_colours a_layersOf a_areas a_used a_counts a_costs a_firsts a_manys a_fs a_groups a_joinF n_cornerAt n_froms n_sizes n_xs n_px n_ys n_py c_code c_width c_height c_isTraced c_outlines c_points c_hasPolygon c_of c_corners c_costSum c_hasCurves c_curveCount c_sharp c_allowed f_cornerAt f_froms f_sizes f_xs f43 f_ys f_py) H := hP.sub [3, 4, 5, 6, 0, 1, 7, 2] rfl
  have hD : va_D A (cw_M_set cI a_this a_cornerAt a_froms a_sizes a_xs a_px a_ys a_py a_colours a_layersOf a_areas a_used a_counts a_costs a_firsts a_manys a_fs a_groups a_joinF n_cornerAt n_froms n_sizes n_xs n_px n_ys n_py c_code c_width c_height c_isTraced c_outlines c_points c_hasPolygon c_of c_corners c_costSum c_hasCurves c_curveCount c_sharp c_allowed f_cornerAt f_froms f_sizes f_xs f43 f_ys f_py) := hD.sub [3, 4, 5, 6, 0, 1, 7, 2] (by decide) rfl
  refine lv_iadd hx hb d_M_set_62 ?_
  refine lv_imul hx hb d_M_set_63 ?_
  obtain ⟨hin, h⟩ := h
  refine va_iast hx hb hK hP hD hS 7 0 rfl rfl hin d_M_set_64 (fun H locs hP hD hS => ?_)
  obtain ⟨f64, e_f64⟩ : ∃ y : Nat → Int32, y = upd f_py (0 : Int32).toNatClampNeg ((16 : Int32) * (r54 + r59)) := ⟨_, rfl⟩
  have h := h f64 e_f64
  have hP : va_P (dC, dI) vwCl (cw_M_set cI a_this a_cornerAt a_froms a_sizes a_xs a_px a_ys a_py a_colours a_layersOf a_areas a_used a_counts a_costs a_firsts a_manys a_fs a_groups a_joinF n_cornerAt n_froms n_sizes n_xs n_px n_ys n_py c_code c_width c_height c_isTraced c_outlines c_points c_hasPolygon c_of c_corners c_costSum c_hasCurves c_curveCount c_sharp c_allowed f_cornerAt f_froms f_sizes f_xs f43 f_ys f64) H := by rw [e_f64]; exact hP
  have hD : va_D A (cw_M_set cI a_this a_cornerAt a_froms a_sizes a_xs a_px a_ys a_py a_colours a_layersOf a_areas a_used a_counts a_costs a_firsts a_manys a_fs a_groups a_joinF n_cornerAt n_froms n_sizes n_xs n_px n_ys n_py c_code c_width c_height c_isTraced c_outlines c_points c_hasPolygon c_of c_corners c_costSum c_hasCurves c_curveCount c_sharp c_allowed f_cornerAt f_froms f_sizes f_xs f43 f_ys f64) := by rw [e_f64]; exact hD
  refine lv_aload_n hx hb d_M_set_65 rfl (lv_at hl 3 rfl) ?_
  refine va_get (D := (dC, dI)) (ci := 5) (v := .ref a_px) (C := R_M) (T := F_M) (N := 32) hx hb hts i_M_in hown hK hP 0 rfl rfl 28 (by decide) (hts _ q_689) (fun _ h9 => h9) rfl d_M_set_66 ?_
  refine lv_iconst (v := 3) hx hb d_M_set_69 (by decide) ?_
  refine lv_bipush (v := 16) hx hb d_M_set_70 (by decide) ?_
  refine lv_aload_n hx hb d_M_set_72 rfl (lv_at hl 3 rfl) ?_
  refine lv_iload hx hb d_M_set_73 (lv_at hl 1 rfl) ?_
  obtain ⟨Q75, hq75, h⟩ := h
  have hPc := hP.sub (ws' := (cw_M_cornerX cI a_this a_cornerAt a_froms a_sizes a_xs a_colours a_layersOf a_areas a_ys a_used a_counts a_costs a_firsts a_manys a_fs a_px a_py a_groups a_joinF n_cornerAt n_froms n_sizes n_xs c_code c_width c_height c_isTraced c_outlines c_points c_hasPolygon c_of c_corners c_costSum c_hasCurves c_curveCount c_sharp c_allowed f_cornerAt f_froms f_sizes f_xs)) [0, 1, 2, 3, 4] rfl
  have hDc := hD.sub (ws' := (cw_M_cornerX cI a_this a_cornerAt a_froms a_sizes a_xs a_colours a_layersOf a_areas a_ys a_used a_counts a_costs a_firsts a_manys a_fs a_px a_py a_groups a_joinF n_cornerAt n_froms n_sizes n_xs c_code c_width c_height c_isTraced c_outlines c_points c_hasPolygon c_of c_corners c_costSum c_hasCurves c_curveCount c_sharp c_allowed f_cornerAt f_froms f_sizes f_xs)) [0, 1, 2, 3, 4] (by decide) rfl
  have hFc := va_free (wc := (cw_M_cornerX cI a_this a_cornerAt a_froms a_sizes a_xs a_colours a_layersOf a_areas a_ys a_used a_counts a_costs a_firsts a_manys a_fs a_px a_py a_groups a_joinF n_cornerAt n_froms n_sizes n_xs c_code c_width c_height c_isTraced c_outlines c_points c_hasPolygon c_of c_corners c_costSum c_hasCurves c_curveCount c_sharp c_allowed f_cornerAt f_froms f_sizes f_xs)) hD hS hA [0, 1, 2, 3, 4] rfl
  refine va_calli (va_runV (As := [.int x5_15]) (rest := [.int (16 : Int32), .int (3 : Int32), .ref a_px]) ⟨hx, hb, hml, hown, hts⟩ (c_M_cornerX l dC dI cI cB cJ cZ a_this a_cornerAt a_froms a_sizes a_xs a_colours a_layersOf a_areas a_ys a_used a_counts a_costs a_firsts a_manys a_fs a_px a_py a_groups a_joinF H.size n_cornerAt n_froms n_sizes n_xs c_code c_width c_height c_isTraced c_outlines c_points c_hasPolygon c_of c_corners c_costSum c_hasCurves c_curveCount c_sharp c_allowed f_cornerAt f_froms f_sizes f_xs x5_15 Q75 hq75) (cwV 1 hts (goodV q_874 q_876 q_p45 q_7 q_877) rfl rfl rfl (by decide +kernel) ⟨Nat.le_of_ble_eq_true rfl, Nat.le_of_ble_eq_true rfl⟩) ⟨fun a U g mk q => by obtain ⟨q0, q1, qP, qK, qD⟩ := q; exact ⟨q0, q1, qP, va_K.moved (u := U) (U := U.calling g mk a) (Vm.Alike.refl U.vm) qK, qD⟩, va_recv hK hPc (ci := 5) (q0 := 0) rfl rfl, fun U hU hW => ⟨rfl, by rw [hU], by rw [hU]; exact hPc, va_K.moved hW.alike hK, hDc.weaken (fun _ _ _ _ => trivial)⟩⟩ rfl rfl hl.1 rfl (lv_room (Nat.le_of_ble_eq_true rfl)) d_M_set_75 ⟨Nat.le_of_ble_eq_true rfl, Nat.le_of_ble_eq_true rfl⟩) hS (fun q _ h => hFc q h) hFc (fun r75 u75 t H1 locs ht hvm hw hB hz1 hk1 hS => ?_)
  cases u75
  obtain ⟨hP1, -, hD1⟩ := hB
  rw [ht] at hP1
  have h := h r75 hw
  obtain ⟨hP, hD⟩ := va_join (wr := [(a_px, .inl (cI, n_px, .inl f43)), (a_ys, .inl (cI, n_ys, .inl f_ys)), (a_py, .inl (cI, n_py, .inl f64))]) (w1 := (cw_M_cornerX cI a_this a_cornerAt a_froms a_sizes a_xs a_colours a_layersOf a_areas a_ys a_used a_counts a_costs a_firsts a_manys a_fs a_px a_py a_groups a_joinF n_cornerAt n_froms n_sizes n_xs c_code c_width c_height c_isTraced c_outlines c_points c_hasPolygon c_of c_corners c_costSum c_hasCurves c_curveCount c_sharp c_allowed f_cornerAt f_froms f_sizes f_xs)) hP hD [0, 1, 2, 3, 4] [5, 6, 7] rfl rfl (by decide) (by decide) hk1 hFc hP1 hD1
  clear hP1 hD1 hk1 hPc hDc hFc
  generalize H1 = H at hP hS ⊢
  have hP : va_P (dC, dI) vwCl (cw_M_set cI a_this a_cornerAt a_froms a_sizes a_xs a_px a_ys a_py a_colours a_layersOf a_areas a_used a_counts a_costs a_firsts a_manys a_fs a_groups a_joinF n_cornerAt n_froms n_sizes n_xs n_px n_ys n_py c_code c_width c_height c_isTraced c_outlines c_points c_hasPolygon c_of c_corners c_costSum c_hasCurves c_curveCount c_sharp c_allowed f_cornerAt f_froms f_sizes f_xs f43 f_ys f64) H := hP.sub [3, 4, 5, 6, 7, 0, 1, 2] rfl
  have hD : va_D A (cw_M_set cI a_this a_cornerAt a_froms a_sizes a_xs a_px a_ys a_py a_colours a_layersOf a_areas a_used a_counts a_costs a_firsts a_manys a_fs a_groups a_joinF n_cornerAt n_froms n_sizes n_xs n_px n_ys n_py c_code c_width c_height c_isTraced c_outlines c_points c_hasPolygon c_of c_corners c_costSum c_hasCurves c_curveCount c_sharp c_allowed f_cornerAt f_froms f_sizes f_xs f43 f_ys f64) := hD.sub [3, 4, 5, 6, 7, 0, 1, 2] (by decide) rfl
  refine lv_aload_n hx hb d_M_set_78 rfl (lv_at hl 3 rfl) ?_
  refine lv_iload hx hb d_M_set_79 (lv_at hl 0 rfl) ?_
  obtain ⟨Q81, hq81, h⟩ := h
  have hPc := hP.sub (ws' := (cw_M_cornerX cI a_this a_cornerAt a_froms a_sizes a_xs a_colours a_layersOf a_areas a_ys a_used a_counts a_costs a_firsts a_manys a_fs a_px a_py a_groups a_joinF n_cornerAt n_froms n_sizes n_xs c_code c_width c_height c_isTraced c_outlines c_points c_hasPolygon c_of c_corners c_costSum c_hasCurves c_curveCount c_sharp c_allowed f_cornerAt f_froms f_sizes f_xs)) [0, 1, 2, 3, 4] rfl
  have hDc := hD.sub (ws' := (cw_M_cornerX cI a_this a_cornerAt a_froms a_sizes a_xs a_colours a_layersOf a_areas a_ys a_used a_counts a_costs a_firsts a_manys a_fs a_px a_py a_groups a_joinF n_cornerAt n_froms n_sizes n_xs c_code c_width c_height c_isTraced c_outlines c_points c_hasPolygon c_of c_corners c_costSum c_hasCurves c_curveCount c_sharp c_allowed f_cornerAt f_froms f_sizes f_xs)) [0, 1, 2, 3, 4] (by decide) rfl
  have hFc := va_free (wc := (cw_M_cornerX cI a_this a_cornerAt a_froms a_sizes a_xs a_colours a_layersOf a_areas a_ys a_used a_counts a_costs a_firsts a_manys a_fs a_px a_py a_groups a_joinF n_cornerAt n_froms n_sizes n_xs c_code c_width c_height c_isTraced c_outlines c_points c_hasPolygon c_of c_corners c_costSum c_hasCurves c_curveCount c_sharp c_allowed f_cornerAt f_froms f_sizes f_xs)) hD hS hA [0, 1, 2, 3, 4] rfl
  refine va_calli (va_runV (As := [.int x6_21]) (rest := [.int r75, .int (16 : Int32), .int (3 : Int32), .ref a_px]) ⟨hx, hb, hml, hown, hts⟩ (c_M_cornerX l dC dI cI cB cJ cZ a_this a_cornerAt a_froms a_sizes a_xs a_colours a_layersOf a_areas a_ys a_used a_counts a_costs a_firsts a_manys a_fs a_px a_py a_groups a_joinF H.size n_cornerAt n_froms n_sizes n_xs c_code c_width c_height c_isTraced c_outlines c_points c_hasPolygon c_of c_corners c_costSum c_hasCurves c_curveCount c_sharp c_allowed f_cornerAt f_froms f_sizes f_xs x6_21 Q81 hq81) (cwV 1 hts (goodV q_874 q_876 q_p45 q_7 q_877) rfl rfl rfl (by decide +kernel) ⟨Nat.le_of_ble_eq_true rfl, Nat.le_of_ble_eq_true rfl⟩) ⟨fun a U g mk q => by obtain ⟨q0, q1, qP, qK, qD⟩ := q; exact ⟨q0, q1, qP, va_K.moved (u := U) (U := U.calling g mk a) (Vm.Alike.refl U.vm) qK, qD⟩, va_recv hK hPc (ci := 5) (q0 := 0) rfl rfl, fun U hU hW => ⟨rfl, by rw [hU], by rw [hU]; exact hPc, va_K.moved hW.alike hK, hDc.weaken (fun _ _ _ _ => trivial)⟩⟩ rfl rfl hl.1 rfl (lv_room (Nat.le_of_ble_eq_true rfl)) d_M_set_81 ⟨Nat.le_of_ble_eq_true rfl, Nat.le_of_ble_eq_true rfl⟩) hS (fun q _ h => hFc q h) hFc (fun r81 u81 t H1 locs ht hvm hw hB hz1 hk1 hS => ?_)
  cases u81
  obtain ⟨hP1, -, hD1⟩ := hB
  rw [ht] at hP1
  have h := h r81 hw
  obtain ⟨hP, hD⟩ := va_join (wr := [(a_px, .inl (cI, n_px, .inl f43)), (a_ys, .inl (cI, n_ys, .inl f_ys)), (a_py, .inl (cI, n_py, .inl f64))]) (w1 := (cw_M_cornerX cI a_this a_cornerAt a_froms a_sizes a_xs a_colours a_layersOf a_areas a_ys a_used a_counts a_costs a_firsts a_manys a_fs a_px a_py a_groups a_joinF n_cornerAt n_froms n_sizes n_xs c_code c_width c_height c_isTraced c_outlines c_points c_hasPolygon c_of c_corners c_costSum c_hasCurves c_curveCount c_sharp c_allowed f_cornerAt f_froms f_sizes f_xs)) hP hD [0, 1, 2, 3, 4] [5, 6, 7] rfl rfl (by decide) (by decide) hk1 hFc hP1 hD1
  clear hP1 hD1 hk1 hPc hDc hFc
  generalize H1 = H at hP hS ⊢
  have hP : va_P (dC, dI) vwCl (cw_M_set cI a_this a_cornerAt a_froms a_sizes a_xs a_px a_ys a_py a_colours a_layersOf a_areas a_used a_counts a_costs a_firsts a_manys a_fs a_groups a_joinF n_cornerAt n_froms n_sizes n_xs n_px n_ys n_py c_code c_width c_height c_isTraced c_outlines c_points c_hasPolygon c_of c_corners c_costSum c_hasCurves c_curveCount c_sharp c_allowed f_cornerAt f_froms f_sizes f_xs f43 f_ys f64) H := hP.sub [3, 4, 5, 6, 7, 0, 1, 2] rfl
  have hD : va_D A (cw_M_set cI a_this a_cornerAt a_froms a_sizes a_xs a_px a_ys a_py a_colours a_layersOf a_areas a_used a_counts a_costs a_firsts a_manys a_fs a_groups a_joinF n_cornerAt n_froms n_sizes n_xs n_px n_ys n_py c_code c_width c_height c_isTraced c_outlines c_points c_hasPolygon c_of c_corners c_costSum c_hasCurves c_curveCount c_sharp c_allowed f_cornerAt f_froms f_sizes f_xs f43 f_ys f64) := hD.sub [3, 4, 5, 6, 7, 0, 1, 2] (by decide) rfl
  refine lv_iadd hx hb d_M_set_84 ?_
  refine lv_imul hx hb d_M_set_85 ?_
  obtain ⟨hin, h⟩ := h
  refine va_iast hx hb hK hP hD hS 5 0 rfl rfl hin d_M_set_86 (fun H locs hP hD hS => ?_)
  obtain ⟨f86, e_f86⟩ : ∃ y : Nat → Int32, y = upd f43 (3 : Int32).toNatClampNeg ((16 : Int32) * (r75 + r81)) := ⟨_, rfl⟩
  have h := h f86 e_f86
  have hP : va_P (dC, dI) vwCl (cw_M_set cI a_this a_cornerAt a_froms a_sizes a_xs a_px a_ys a_py a_colours a_layersOf a_areas a_used a_counts a_costs a_firsts a_manys a_fs a_groups a_joinF n_cornerAt n_froms n_sizes n_xs n_px n_ys n_py c_code c_width c_height c_isTraced c_outlines c_points c_hasPolygon c_of c_corners c_costSum c_hasCurves c_curveCount c_sharp c_allowed f_cornerAt f_froms f_sizes f_xs f86 f_ys f64) H := by rw [e_f86]; exact hP
  have hD : va_D A (cw_M_set cI a_this a_cornerAt a_froms a_sizes a_xs a_px a_ys a_py a_colours a_layersOf a_areas a_used a_counts a_costs a_firsts a_manys a_fs a_groups a_joinF n_cornerAt n_froms n_sizes n_xs n_px n_ys n_py c_code c_width c_height c_isTraced c_outlines c_points c_hasPolygon c_of c_corners c_costSum c_hasCurves c_curveCount c_sharp c_allowed f_cornerAt f_froms f_sizes f_xs f86 f_ys f64) := by rw [e_f86]; exact hD
  refine lv_aload_n hx hb d_M_set_87 rfl (lv_at hl 3 rfl) ?_
  refine va_get (D := (dC, dI)) (ci := 5) (v := .ref a_py) (C := R_M) (T := F_M) (N := 32) hx hb hts i_M_in hown hK hP 0 rfl rfl 29 (by decide) (hts _ q_690) (fun _ h9 => h9) rfl d_M_set_88 ?_
  refine lv_iconst (v := 3) hx hb d_M_set_91 (by decide) ?_
  refine lv_bipush (v := 16) hx hb d_M_set_92 (by decide) ?_
  refine lv_aload_n hx hb d_M_set_94 rfl (lv_at hl 3 rfl) ?_
  refine lv_iload hx hb d_M_set_95 (lv_at hl 1 rfl) ?_
  obtain ⟨Q97, hq97, h⟩ := h
  have hPc := hP.sub (ws' := (cw_M_cornerY cI a_this a_cornerAt a_froms a_sizes a_ys a_colours a_layersOf a_areas a_xs a_used a_counts a_costs a_firsts a_manys a_fs a_px a_py a_groups a_joinF n_cornerAt n_froms n_sizes n_ys c_code c_width c_height c_isTraced c_outlines c_points c_hasPolygon c_of c_corners c_costSum c_hasCurves c_curveCount c_sharp c_allowed f_cornerAt f_froms f_sizes f_ys)) [0, 1, 2, 3, 6] rfl
  have hDc := hD.sub (ws' := (cw_M_cornerY cI a_this a_cornerAt a_froms a_sizes a_ys a_colours a_layersOf a_areas a_xs a_used a_counts a_costs a_firsts a_manys a_fs a_px a_py a_groups a_joinF n_cornerAt n_froms n_sizes n_ys c_code c_width c_height c_isTraced c_outlines c_points c_hasPolygon c_of c_corners c_costSum c_hasCurves c_curveCount c_sharp c_allowed f_cornerAt f_froms f_sizes f_ys)) [0, 1, 2, 3, 6] (by decide) rfl
  have hFc := va_free (wc := (cw_M_cornerY cI a_this a_cornerAt a_froms a_sizes a_ys a_colours a_layersOf a_areas a_xs a_used a_counts a_costs a_firsts a_manys a_fs a_px a_py a_groups a_joinF n_cornerAt n_froms n_sizes n_ys c_code c_width c_height c_isTraced c_outlines c_points c_hasPolygon c_of c_corners c_costSum c_hasCurves c_curveCount c_sharp c_allowed f_cornerAt f_froms f_sizes f_ys)) hD hS hA [0, 1, 2, 3, 6] rfl
  refine va_calli (va_runV (As := [.int x5_15]) (rest := [.int (16 : Int32), .int (3 : Int32), .ref a_py]) ⟨hx, hb, hml, hown, hts⟩ (c_M_cornerY l dC dI cI cB cJ cZ a_this a_cornerAt a_froms a_sizes a_ys a_colours a_layersOf a_areas a_xs a_used a_counts a_costs a_firsts a_manys a_fs a_px a_py a_groups a_joinF H.size n_cornerAt n_froms n_sizes n_ys c_code c_width c_height c_isTraced c_outlines c_points c_hasPolygon c_of c_corners c_costSum c_hasCurves c_curveCount c_sharp c_allowed f_cornerAt f_froms f_sizes f_ys x5_15 Q97 hq97) (cwV 1 hts (goodV q_878 q_880 q_p46 q_7 q_881) rfl rfl rfl (by decide +kernel) ⟨Nat.le_of_ble_eq_true rfl, Nat.le_of_ble_eq_true rfl⟩) ⟨fun a U g mk q => by obtain ⟨q0, q1, qP, qK, qD⟩ := q; exact ⟨q0, q1, qP, va_K.moved (u := U) (U := U.calling g mk a) (Vm.Alike.refl U.vm) qK, qD⟩, va_recv hK hPc (ci := 5) (q0 := 0) rfl rfl, fun U hU hW => ⟨rfl, by rw [hU], by rw [hU]; exact hPc, va_K.moved hW.alike hK, hDc.weaken (fun _ _ _ _ => trivial)⟩⟩ rfl rfl hl.1 rfl (lv_room (Nat.le_of_ble_eq_true rfl)) d_M_set_97 ⟨Nat.le_of_ble_eq_true rfl, Nat.le_of_ble_eq_true rfl⟩) hS (fun q _ h => hFc q h) hFc (fun r97 u97 t H1 locs ht hvm hw hB hz1 hk1 hS => ?_)
  cases u97
  obtain ⟨hP1, -, hD1⟩ := hB
  rw [ht] at hP1
  have h := h r97 hw
  obtain ⟨hP, hD⟩ := va_join (wr := [(a_xs, .inl (cI, n_xs, .inl f_xs)), (a_px, .inl (cI, n_px, .inl f86)), (a_py, .inl (cI, n_py, .inl f64))]) (w1 := (cw_M_cornerY cI a_this a_cornerAt a_froms a_sizes a_ys a_colours a_layersOf a_areas a_xs a_used a_counts a_costs a_firsts a_manys a_fs a_px a_py a_groups a_joinF n_cornerAt n_froms n_sizes n_ys c_code c_width c_height c_isTraced c_outlines c_points c_hasPolygon c_of c_corners c_costSum c_hasCurves c_curveCount c_sharp c_allowed f_cornerAt f_froms f_sizes f_ys)) hP hD [0, 1, 2, 3, 6] [4, 5, 7] rfl rfl (by decide) (by decide) hk1 hFc hP1 hD1
  clear hP1 hD1 hk1 hPc hDc hFc
  generalize H1 = H at hP hS ⊢
  have hP : va_P (dC, dI) vwCl (cw_M_set cI a_this a_cornerAt a_froms a_sizes a_xs a_px a_ys a_py a_colours a_layersOf a_areas a_used a_counts a_costs a_firsts a_manys a_fs a_groups a_joinF n_cornerAt n_froms n_sizes n_xs n_px n_ys n_py c_code c_width c_height c_isTraced c_outlines c_points c_hasPolygon c_of c_corners c_costSum c_hasCurves c_curveCount c_sharp c_allowed f_cornerAt f_froms f_sizes f_xs f86 f_ys f64) H := hP.sub [3, 4, 5, 6, 0, 1, 7, 2] rfl
  have hD : va_D A (cw_M_set cI a_this a_cornerAt a_froms a_sizes a_xs a_px a_ys a_py a_colours a_layersOf a_areas a_used a_counts a_costs a_firsts a_manys a_fs a_groups a_joinF n_cornerAt n_froms n_sizes n_xs n_px n_ys n_py c_code c_width c_height c_isTraced c_outlines c_points c_hasPolygon c_of c_corners c_costSum c_hasCurves c_curveCount c_sharp c_allowed f_cornerAt f_froms f_sizes f_xs f86 f_ys f64) := hD.sub [3, 4, 5, 6, 0, 1, 7, 2] (by decide) rfl
  refine lv_aload_n hx hb d_M_set_100 rfl (lv_at hl 3 rfl) ?_
  refine lv_iload hx hb d_M_set_101 (lv_at hl 0 rfl) ?_
  obtain ⟨Q103, hq103, h⟩ := h
  have hPc := hP.sub (ws' := (cw_M_cornerY cI a_this a_cornerAt a_froms a_sizes a_ys a_colours a_layersOf a_areas a_xs a_used a_counts a_costs a_firsts a_manys a_fs a_px a_py a_groups a_joinF n_cornerAt n_froms n_sizes n_ys c_code c_width c_height c_isTraced c_outlines c_points c_hasPolygon c_of c_corners c_costSum c_hasCurves c_curveCount c_sharp c_allowed f_cornerAt f_froms f_sizes f_ys)) [0, 1, 2, 3, 6] rfl
  have hDc := hD.sub (ws' := (cw_M_cornerY cI a_this a_cornerAt a_froms a_sizes a_ys a_colours a_layersOf a_areas a_xs a_used a_counts a_costs a_firsts a_manys a_fs a_px a_py a_groups a_joinF n_cornerAt n_froms n_sizes n_ys c_code c_width c_height c_isTraced c_outlines c_points c_hasPolygon c_of c_corners c_costSum c_hasCurves c_curveCount c_sharp c_allowed f_cornerAt f_froms f_sizes f_ys)) [0, 1, 2, 3, 6] (by decide) rfl
  have hFc := va_free (wc := (cw_M_cornerY cI a_this a_cornerAt a_froms a_sizes a_ys a_colours a_layersOf a_areas a_xs a_used a_counts a_costs a_firsts a_manys a_fs a_px a_py a_groups a_joinF n_cornerAt n_froms n_sizes n_ys c_code c_width c_height c_isTraced c_outlines c_points c_hasPolygon c_of c_corners c_costSum c_hasCurves c_curveCount c_sharp c_allowed f_cornerAt f_froms f_sizes f_ys)) hD hS hA [0, 1, 2, 3, 6] rfl
  refine va_calli (va_runV (As := [.int x6_21]) (rest := [.int r97, .int (16 : Int32), .int (3 : Int32), .ref a_py]) ⟨hx, hb, hml, hown, hts⟩ (c_M_cornerY l dC dI cI cB cJ cZ a_this a_cornerAt a_froms a_sizes a_ys a_colours a_layersOf a_areas a_xs a_used a_counts a_costs a_firsts a_manys a_fs a_px a_py a_groups a_joinF H.size n_cornerAt n_froms n_sizes n_ys c_code c_width c_height c_isTraced c_outlines c_points c_hasPolygon c_of c_corners c_costSum c_hasCurves c_curveCount c_sharp c_allowed f_cornerAt f_froms f_sizes f_ys x6_21 Q103 hq103) (cwV 1 hts (goodV q_878 q_880 q_p46 q_7 q_881) rfl rfl rfl (by decide +kernel) ⟨Nat.le_of_ble_eq_true rfl, Nat.le_of_ble_eq_true rfl⟩) ⟨fun a U g mk q => by obtain ⟨q0, q1, qP, qK, qD⟩ := q; exact ⟨q0, q1, qP, va_K.moved (u := U) (U := U.calling g mk a) (Vm.Alike.refl U.vm) qK, qD⟩, va_recv hK hPc (ci := 5) (q0 := 0) rfl rfl, fun U hU hW => ⟨rfl, by rw [hU], by rw [hU]; exact hPc, va_K.moved hW.alike hK, hDc.weaken (fun _ _ _ _ => trivial)⟩⟩ rfl rfl hl.1 rfl (lv_room (Nat.le_of_ble_eq_true rfl)) d_M_set_103 ⟨Nat.le_of_ble_eq_true rfl, Nat.le_of_ble_eq_true rfl⟩) hS (fun q _ h => hFc q h) hFc (fun r103 u103 t H1 locs ht hvm hw hB hz1 hk1 hS => ?_)
  cases u103
  obtain ⟨hP1, -, hD1⟩ := hB
  rw [ht] at hP1
  have h := h r103 hw
  obtain ⟨hP, hD⟩ := va_join (wr := [(a_xs, .inl (cI, n_xs, .inl f_xs)), (a_px, .inl (cI, n_px, .inl f86)), (a_py, .inl (cI, n_py, .inl f64))]) (w1 := (cw_M_cornerY cI a_this a_cornerAt a_froms a_sizes a_ys a_colours a_layersOf a_areas a_xs a_used a_counts a_costs a_firsts a_manys a_fs a_px a_py a_groups a_joinF n_cornerAt n_froms n_sizes n_ys c_code c_width c_height c_isTraced c_outlines c_points c_hasPolygon c_of c_corners c_costSum c_hasCurves c_curveCount c_sharp c_allowed f_cornerAt f_froms f_sizes f_ys)) hP hD [0, 1, 2, 3, 6] [4, 5, 7] rfl rfl (by decide) (by decide) hk1 hFc hP1 hD1
  clear hP1 hD1 hk1 hPc hDc hFc
  generalize H1 = H at hP hS ⊢
  have hP : va_P (dC, dI) vwCl (cw_M_set cI a_this a_cornerAt a_froms a_sizes a_xs a_px a_ys a_py a_colours a_layersOf a_areas a_used a_counts a_costs a_firsts a_manys a_fs a_groups a_joinF n_cornerAt n_froms n_sizes n_xs n_px n_ys n_py c_code c_width c_height c_isTraced c_outlines c_points c_hasPolygon c_of c_corners c_costSum c_hasCurves c_curveCount c_sharp c_allowed f_cornerAt f_froms f_sizes f_xs f86 f_ys f64) H := hP.sub [3, 4, 5, 6, 0, 1, 7, 2] rfl
  have hD : va_D A (cw_M_set cI a_this a_cornerAt a_froms a_sizes a_xs a_px a_ys a_py a_colours a_layersOf a_areas a_used a_counts a_costs a_firsts a_manys a_fs a_groups a_joinF n_cornerAt n_froms n_sizes n_xs n_px n_ys n_py c_code c_width c_height c_isTraced c_outlines c_points c_hasPolygon c_of c_corners c_costSum c_hasCurves c_curveCount c_sharp c_allowed f_cornerAt f_froms f_sizes f_xs f86 f_ys f64) := hD.sub [3, 4, 5, 6, 0, 1, 7, 2] (by decide) rfl
  refine lv_iadd hx hb d_M_set_106 ?_
  refine lv_imul hx hb d_M_set_107 ?_
  obtain ⟨hin, h⟩ := h
  refine va_iast hx hb hK hP hD hS 7 0 rfl rfl hin d_M_set_108 (fun H locs hP hD hS => ?_)
  obtain ⟨f108, e_f108⟩ : ∃ y : Nat → Int32, y = upd f64 (3 : Int32).toNatClampNeg ((16 : Int32) * (r97 + r103)) := ⟨_, rfl⟩
  have h := h f108 e_f108
  have hP : va_P (dC, dI) vwCl (cw_M_set cI a_this a_cornerAt a_froms a_sizes a_xs a_px a_ys a_py a_colours a_layersOf a_areas a_used a_counts a_costs a_firsts a_manys a_fs a_groups a_joinF n_cornerAt n_froms n_sizes n_xs n_px n_ys n_py c_code c_width c_height c_isTraced c_outlines c_points c_hasPolygon c_of c_corners c_costSum c_hasCurves c_curveCount c_sharp c_allowed f_cornerAt f_froms f_sizes f_xs f86 f_ys f108) H := by rw [e_f108]; exact hP
  have hD : va_D A (cw_M_set cI a_this a_cornerAt a_froms a_sizes a_xs a_px a_ys a_py a_colours a_layersOf a_areas a_used a_counts a_costs a_firsts a_manys a_fs a_groups a_joinF n_cornerAt n_froms n_sizes n_xs n_px n_ys n_py c_code c_width c_height c_isTraced c_outlines c_points c_hasPolygon c_of c_corners c_costSum c_hasCurves c_curveCount c_sharp c_allowed f_cornerAt f_froms f_sizes f_xs f86 f_ys f108) := by rw [e_f108]; exact hD
  refine lv_aload_n hx hb d_M_set_109 rfl (lv_at hl 3 rfl) ?_
  refine va_get (D := (dC, dI)) (ci := 5) (v := .ref a_px) (C := R_M) (T := F_M) (N := 32) hx hb hts i_M_in hown hK hP 0 rfl rfl 28 (by decide) (hts _ q_689) (fun _ h9 => h9) rfl d_M_set_110 ?_
  refine lv_iconst (v := 1) hx hb d_M_set_113 (by decide) ?_
  refine lv_iload_n hx hb d_M_set_114 rfl (lv_at hl 6 rfl) ?_
  refine lv_if_ne (tgt := 129) hx hb d_M_set_115 (by decide) (fun cc_ => ?_) (fun cc_ => ?_)
  · have h := h.1 cc_
    refine lv_aload_n hx hb d_M_set_129 rfl (lv_at hl 3 rfl) ?_
    refine va_get (D := (dC, dI)) (ci := 5) (v := .ref a_px) (C := R_M) (T := F_M) (N := 32) hx hb hts i_M_in hown hK hP 0 rfl rfl 28 (by decide) (hts _ q_689) (fun _ h9 => h9) rfl d_M_set_130 ?_
    refine lv_iconst (v := 0) hx hb d_M_set_133 (by decide) ?_
    obtain ⟨hin, h⟩ := h
    refine va_iald hx hb hK hP 5 0 rfl rfl hin d_M_set_134 ?_
    refine lv_iload_n hx hb d_M_set_135 rfl (lv_at hl 6 rfl) ?_
    refine lv_aload_n hx hb d_M_set_136 rfl (lv_at hl 3 rfl) ?_
    refine lv_iload_n hx hb d_M_set_137 rfl (lv_at hl 4 rfl) ?_
    obtain ⟨Q138, hq138, h⟩ := h
    have hPc := hP.sub (ws' := (cw_M_cornerX cI a_this a_cornerAt a_froms a_sizes a_xs a_colours a_layersOf a_areas a_ys a_used a_counts a_costs a_firsts a_manys a_fs a_px a_py a_groups a_joinF n_cornerAt n_froms n_sizes n_xs c_code c_width c_height c_isTraced c_outlines c_points c_hasPolygon c_of c_corners c_costSum c_hasCurves c_curveCount c_sharp c_allowed f_cornerAt f_froms f_sizes f_xs)) [0, 1, 2, 3, 4] rfl
    have hDc := hD.sub (ws' := (cw_M_cornerX cI a_this a_cornerAt a_froms a_sizes a_xs a_colours a_layersOf a_areas a_ys a_used a_counts a_costs a_firsts a_manys a_fs a_px a_py a_groups a_joinF n_cornerAt n_froms n_sizes n_xs c_code c_width c_height c_isTraced c_outlines c_points c_hasPolygon c_of c_corners c_costSum c_hasCurves c_curveCount c_sharp c_allowed f_cornerAt f_froms f_sizes f_xs)) [0, 1, 2, 3, 4] (by decide) rfl
    have hFc := va_free (wc := (cw_M_cornerX cI a_this a_cornerAt a_froms a_sizes a_xs a_colours a_layersOf a_areas a_ys a_used a_counts a_costs a_firsts a_manys a_fs a_px a_py a_groups a_joinF n_cornerAt n_froms n_sizes n_xs c_code c_width c_height c_isTraced c_outlines c_points c_hasPolygon c_of c_corners c_costSum c_hasCurves c_curveCount c_sharp c_allowed f_cornerAt f_froms f_sizes f_xs)) hD hS hA [0, 1, 2, 3, 4] rfl
    refine va_calli (va_runV (As := [.int x1]) (rest := [.int x3, .int (f86 (0 : Int32).toNatClampNeg), .int (1 : Int32), .ref a_px]) ⟨hx, hb, hml, hown, hts⟩ (c_M_cornerX l dC dI cI cB cJ cZ a_this a_cornerAt a_froms a_sizes a_xs a_colours a_layersOf a_areas a_ys a_used a_counts a_costs a_firsts a_manys a_fs a_px a_py a_groups a_joinF H.size n_cornerAt n_froms n_sizes n_xs c_code c_width c_height c_isTraced c_outlines c_points c_hasPolygon c_of c_corners c_costSum c_hasCurves c_curveCount c_sharp c_allowed f_cornerAt f_froms f_sizes f_xs x1 Q138 hq138) (cwV 1 hts (goodV q_874 q_876 q_p45 q_7 q_877) rfl rfl rfl (by decide +kernel) ⟨Nat.le_of_ble_eq_true rfl, Nat.le_of_ble_eq_true rfl⟩) ⟨fun a U g mk q => by obtain ⟨q0, q1, qP, qK, qD⟩ := q; exact ⟨q0, q1, qP, va_K.moved (u := U) (U := U.calling g mk a) (Vm.Alike.refl U.vm) qK, qD⟩, va_recv hK hPc (ci := 5) (q0 := 0) rfl rfl, fun U hU hW => ⟨rfl, by rw [hU], by rw [hU]; exact hPc, va_K.moved hW.alike hK, hDc.weaken (fun _ _ _ _ => trivial)⟩⟩ rfl rfl hl.1 rfl (lv_room (Nat.le_of_ble_eq_true rfl)) d_M_set_138 ⟨Nat.le_of_ble_eq_true rfl, Nat.le_of_ble_eq_true rfl⟩) hS (fun q _ h => hFc q h) hFc (fun r138 u138 t H1 locs ht hvm hw hB hz1 hk1 hS => ?_)
    cases u138
    obtain ⟨hP1, -, hD1⟩ := hB
    rw [ht] at hP1
    have h := h r138 hw
    obtain ⟨hP, hD⟩ := va_join (wr := [(a_px, .inl (cI, n_px, .inl f86)), (a_ys, .inl (cI, n_ys, .inl f_ys)), (a_py, .inl (cI, n_py, .inl f108))]) (w1 := (cw_M_cornerX cI a_this a_cornerAt a_froms a_sizes a_xs a_colours a_layersOf a_areas a_ys a_used a_counts a_costs a_firsts a_manys a_fs a_px a_py a_groups a_joinF n_cornerAt n_froms n_sizes n_xs c_code c_width c_height c_isTraced c_outlines c_points c_hasPolygon c_of c_corners c_costSum c_hasCurves c_curveCount c_sharp c_allowed f_cornerAt f_froms f_sizes f_xs)) hP hD [0, 1, 2, 3, 4] [5, 6, 7] rfl rfl (by decide) (by decide) hk1 hFc hP1 hD1
    clear hP1 hD1 hk1 hPc hDc hFc
    generalize H1 = H at hP hS ⊢
    have hP : va_P (dC, dI) vwCl (cw_M_set cI a_this a_cornerAt a_froms a_sizes a_xs a_px a_ys a_py a_colours a_layersOf a_areas a_used a_counts a_costs a_firsts a_manys a_fs a_groups a_joinF n_cornerAt n_froms n_sizes n_xs n_px n_ys n_py c_code c_width c_height c_isTraced c_outlines c_points c_hasPolygon c_of c_corners c_costSum c_hasCurves c_curveCount c_sharp c_allowed f_cornerAt f_froms f_sizes f_xs f86 f_ys f108) H := hP.sub [3, 4, 5, 6, 7, 0, 1, 2] rfl
    have hD : va_D A (cw_M_set cI a_this a_cornerAt a_froms a_sizes a_xs a_px a_ys a_py a_colours a_layersOf a_areas a_used a_counts a_costs a_firsts a_manys a_fs a_groups a_joinF n_cornerAt n_froms n_sizes n_xs n_px n_ys n_py c_code c_width c_height c_isTraced c_outlines c_points c_hasPolygon c_of c_corners c_costSum c_hasCurves c_curveCount c_sharp c_allowed f_cornerAt f_froms f_sizes f_xs f86 f_ys f108) := hD.sub [3, 4, 5, 6, 7, 0, 1, 2] (by decide) rfl
    refine lv_aload_n hx hb d_M_set_141 rfl (lv_at hl 3 rfl) ?_
    refine lv_iload hx hb d_M_set_142 (lv_at hl 2 rfl) ?_
    obtain ⟨Q144, hq144, h⟩ := h
    have hPc := hP.sub (ws' := (cw_M_cornerX cI a_this a_cornerAt a_froms a_sizes a_xs a_colours a_layersOf a_areas a_ys a_used a_counts a_costs a_firsts a_manys a_fs a_px a_py a_groups a_joinF n_cornerAt n_froms n_sizes n_xs c_code c_width c_height c_isTraced c_outlines c_points c_hasPolygon c_of c_corners c_costSum c_hasCurves c_curveCount c_sharp c_allowed f_cornerAt f_froms f_sizes f_xs)) [0, 1, 2, 3, 4] rfl
    have hDc := hD.sub (ws' := (cw_M_cornerX cI a_this a_cornerAt a_froms a_sizes a_xs a_colours a_layersOf a_areas a_ys a_used a_counts a_costs a_firsts a_manys a_fs a_px a_py a_groups a_joinF n_cornerAt n_froms n_sizes n_xs c_code c_width c_height c_isTraced c_outlines c_points c_hasPolygon c_of c_corners c_costSum c_hasCurves c_curveCount c_sharp c_allowed f_cornerAt f_froms f_sizes f_xs)) [0, 1, 2, 3, 4] (by decide) rfl
    have hFc := va_free (wc := (cw_M_cornerX cI a_this a_cornerAt a_froms a_sizes a_xs a_colours a_layersOf a_areas a_ys a_used a_counts a_costs a_firsts a_manys a_fs a_px a_py a_groups a_joinF n_cornerAt n_froms n_sizes n_xs c_code c_width c_height c_isTraced c_outlines c_points c_hasPolygon c_of c_corners c_costSum c_hasCurves c_curveCount c_sharp c_allowed f_cornerAt f_froms f_sizes f_xs)) hD hS hA [0, 1, 2, 3, 4] rfl
    refine va_calli (va_runV (As := [.int x4_8]) (rest := [.int r138, .int x3, .int (f86 (0 : Int32).toNatClampNeg), .int (1 : Int32), .ref a_px]) ⟨hx, hb, hml, hown, hts⟩ (c_M_cornerX l dC dI cI cB cJ cZ a_this a_cornerAt a_froms a_sizes a_xs a_colours a_layersOf a_areas a_ys a_used a_counts a_costs a_firsts a_manys a_fs a_px a_py a_groups a_joinF H.size n_cornerAt n_froms n_sizes n_xs c_code c_width c_height c_isTraced c_outlines c_points c_hasPolygon c_of c_corners c_costSum c_hasCurves c_curveCount c_sharp c_allowed f_cornerAt f_froms f_sizes f_xs x4_8 Q144 hq144) (cwV 1 hts (goodV q_874 q_876 q_p45 q_7 q_877) rfl rfl rfl (by decide +kernel) ⟨Nat.le_of_ble_eq_true rfl, Nat.le_of_ble_eq_true rfl⟩) ⟨fun a U g mk q => by obtain ⟨q0, q1, qP, qK, qD⟩ := q; exact ⟨q0, q1, qP, va_K.moved (u := U) (U := U.calling g mk a) (Vm.Alike.refl U.vm) qK, qD⟩, va_recv hK hPc (ci := 5) (q0 := 0) rfl rfl, fun U hU hW => ⟨rfl, by rw [hU], by rw [hU]; exact hPc, va_K.moved hW.alike hK, hDc.weaken (fun _ _ _ _ => trivial)⟩⟩ rfl rfl hl.1 rfl (lv_room (Nat.le_of_ble_eq_true rfl)) d_M_set_144 ⟨Nat.le_of_ble_eq_true rfl, Nat.le_of_ble_eq_true rfl⟩) hS (fun q _ h => hFc q h) hFc (fun r144 u144 t H1 locs ht hvm hw hB hz1 hk1 hS => ?_)
    cases u144
    obtain ⟨hP1, -, hD1⟩ := hB
    rw [ht] at hP1
    have h := h r144 hw
    obtain ⟨hP, hD⟩ := va_join (wr := [(a_px, .inl (cI, n_px, .inl f86)), (a_ys, .inl (cI, n_ys, .inl f_ys)), (a_py, .inl (cI, n_py, .inl f108))]) (w1 := (cw_M_cornerX cI a_this a_cornerAt a_froms a_sizes a_xs a_colours a_layersOf a_areas a_ys a_used a_counts a_costs a_firsts a_manys a_fs a_px a_py a_groups a_joinF n_cornerAt n_froms n_sizes n_xs c_code c_width c_height c_isTraced c_outlines c_points c_hasPolygon c_of c_corners c_costSum c_hasCurves c_curveCount c_sharp c_allowed f_cornerAt f_froms f_sizes f_xs)) hP hD [0, 1, 2, 3, 4] [5, 6, 7] rfl rfl (by decide) (by decide) hk1 hFc hP1 hD1
    clear hP1 hD1 hk1 hPc hDc hFc
    generalize H1 = H at hP hS ⊢
    have hP : va_P (dC, dI) vwCl (cw_M_set cI a_this a_cornerAt a_froms a_sizes a_xs a_px a_ys a_py a_colours a_layersOf a_areas a_used a_counts a_costs a_firsts a_manys a_fs a_groups a_joinF n_cornerAt n_froms n_sizes n_xs n_px n_ys n_py c_code c_width c_height c_isTraced c_outlines c_points c_hasPolygon c_of c_corners c_costSum c_hasCurves c_curveCount c_sharp c_allowed f_cornerAt f_froms f_sizes f_xs f86 f_ys f108) H := hP.sub [3, 4, 5, 6, 7, 0, 1, 2] rfl
    have hD : va_D A (cw_M_set cI a_this a_cornerAt a_froms a_sizes a_xs a_px a_ys a_py a_colours a_layersOf a_areas a_used a_counts a_costs a_firsts a_manys a_fs a_groups a_joinF n_cornerAt n_froms n_sizes n_xs n_px n_ys n_py c_code c_width c_height c_isTraced c_outlines c_points c_hasPolygon c_of c_corners c_costSum c_hasCurves c_curveCount c_sharp c_allowed f_cornerAt f_froms f_sizes f_xs f86 f_ys f108) := hD.sub [3, 4, 5, 6, 7, 0, 1, 2] (by decide) rfl
    refine lv_isub hx hb d_M_set_147 ?_
    refine lv_imul hx hb d_M_set_148 ?_
    refine lv_iadd hx hb d_M_set_149 ?_
    exact J150 x1 x3 x4_8 x5_15 x6_21 ((f86 (0 : Int32).toNatClampNeg) + (x3 * (r138 - r144))) (1 : Int32) f86 f108 _ _ _ h hP hD hS (lv_sub hl [3, 4, 6, 2, 1, 0] rfl)
  · have h := h.2 cc_
    refine lv_bipush (v := 32) hx hb d_M_set_118 (by decide) ?_
    refine lv_aload_n hx hb d_M_set_120 rfl (lv_at hl 3 rfl) ?_
    refine lv_iload_n hx hb d_M_set_121 rfl (lv_at hl 4 rfl) ?_
    obtain ⟨Q122, hq122, h⟩ := h
    have hPc := hP.sub (ws' := (cw_M_cornerX cI a_this a_cornerAt a_froms a_sizes a_xs a_colours a_layersOf a_areas a_ys a_used a_counts a_costs a_firsts a_manys a_fs a_px a_py a_groups a_joinF n_cornerAt n_froms n_sizes n_xs c_code c_width c_height c_isTraced c_outlines c_points c_hasPolygon c_of c_corners c_costSum c_hasCurves c_curveCount c_sharp c_allowed f_cornerAt f_froms f_sizes f_xs)) [0, 1, 2, 3, 4] rfl
    have hDc := hD.sub (ws' := (cw_M_cornerX cI a_this a_cornerAt a_froms a_sizes a_xs a_colours a_layersOf a_areas a_ys a_used a_counts a_costs a_firsts a_manys a_fs a_px a_py a_groups a_joinF n_cornerAt n_froms n_sizes n_xs c_code c_width c_height c_isTraced c_outlines c_points c_hasPolygon c_of c_corners c_costSum c_hasCurves c_curveCount c_sharp c_allowed f_cornerAt f_froms f_sizes f_xs)) [0, 1, 2, 3, 4] (by decide) rfl
    have hFc := va_free (wc := (cw_M_cornerX cI a_this a_cornerAt a_froms a_sizes a_xs a_colours a_layersOf a_areas a_ys a_used a_counts a_costs a_firsts a_manys a_fs a_px a_py a_groups a_joinF n_cornerAt n_froms n_sizes n_xs c_code c_width c_height c_isTraced c_outlines c_points c_hasPolygon c_of c_corners c_costSum c_hasCurves c_curveCount c_sharp c_allowed f_cornerAt f_froms f_sizes f_xs)) hD hS hA [0, 1, 2, 3, 4] rfl
    refine va_calli (va_runV (As := [.int x1]) (rest := [.int (32 : Int32), .int (1 : Int32), .ref a_px]) ⟨hx, hb, hml, hown, hts⟩ (c_M_cornerX l dC dI cI cB cJ cZ a_this a_cornerAt a_froms a_sizes a_xs a_colours a_layersOf a_areas a_ys a_used a_counts a_costs a_firsts a_manys a_fs a_px a_py a_groups a_joinF H.size n_cornerAt n_froms n_sizes n_xs c_code c_width c_height c_isTraced c_outlines c_points c_hasPolygon c_of c_corners c_costSum c_hasCurves c_curveCount c_sharp c_allowed f_cornerAt f_froms f_sizes f_xs x1 Q122 hq122) (cwV 1 hts (goodV q_874 q_876 q_p45 q_7 q_877) rfl rfl rfl (by decide +kernel) ⟨Nat.le_of_ble_eq_true rfl, Nat.le_of_ble_eq_true rfl⟩) ⟨fun a U g mk q => by obtain ⟨q0, q1, qP, qK, qD⟩ := q; exact ⟨q0, q1, qP, va_K.moved (u := U) (U := U.calling g mk a) (Vm.Alike.refl U.vm) qK, qD⟩, va_recv hK hPc (ci := 5) (q0 := 0) rfl rfl, fun U hU hW => ⟨rfl, by rw [hU], by rw [hU]; exact hPc, va_K.moved hW.alike hK, hDc.weaken (fun _ _ _ _ => trivial)⟩⟩ rfl rfl hl.1 rfl (lv_room (Nat.le_of_ble_eq_true rfl)) d_M_set_122 ⟨Nat.le_of_ble_eq_true rfl, Nat.le_of_ble_eq_true rfl⟩) hS (fun q _ h => hFc q h) hFc (fun r122 u122 t H1 locs ht hvm hw hB hz1 hk1 hS => ?_)
    cases u122
    obtain ⟨hP1, -, hD1⟩ := hB
    rw [ht] at hP1
    have h := h r122 hw
    obtain ⟨hP, hD⟩ := va_join (wr := [(a_px, .inl (cI, n_px, .inl f86)), (a_ys, .inl (cI, n_ys, .inl f_ys)), (a_py, .inl (cI, n_py, .inl f108))]) (w1 := (cw_M_cornerX cI a_this a_cornerAt a_froms a_sizes a_xs a_colours a_layersOf a_areas a_ys a_used a_counts a_costs a_firsts a_manys a_fs a_px a_py a_groups a_joinF n_cornerAt n_froms n_sizes n_xs c_code c_width c_height c_isTraced c_outlines c_points c_hasPolygon c_of c_corners c_costSum c_hasCurves c_curveCount c_sharp c_allowed f_cornerAt f_froms f_sizes f_xs)) hP hD [0, 1, 2, 3, 4] [5, 6, 7] rfl rfl (by decide) (by decide) hk1 hFc hP1 hD1
    clear hP1 hD1 hk1 hPc hDc hFc
    generalize H1 = H at hP hS ⊢
    have hP : va_P (dC, dI) vwCl (cw_M_set cI a_this a_cornerAt a_froms a_sizes a_xs a_px a_ys a_py a_colours a_layersOf a_areas a_used a_counts a_costs a_firsts a_manys a_fs a_groups a_joinF n_cornerAt n_froms n_sizes n_xs n_px n_ys n_py c_code c_width c_height c_isTraced c_outlines c_points c_hasPolygon c_of c_corners c_costSum c_hasCurves c_curveCount c_sharp c_allowed f_cornerAt f_froms f_sizes f_xs f86 f_ys f108) H := hP.sub [3, 4, 5, 6, 7, 0, 1, 2] rfl
    have hD : va_D A (cw_M_set cI a_this a_cornerAt a_froms a_sizes a_xs a_px a_ys a_py a_colours a_layersOf a_areas a_used a_counts a_costs a_firsts a_manys a_fs a_groups a_joinF n_cornerAt n_froms n_sizes n_xs n_px n_ys n_py c_code c_width c_height c_isTraced c_outlines c_points c_hasPolygon c_of c_corners c_costSum c_hasCurves c_curveCount c_sharp c_allowed f_cornerAt f_froms f_sizes f_xs f86 f_ys f108) := hD.sub [3, 4, 5, 6, 7, 0, 1, 2] (by decide) rfl
    refine lv_imul hx hb d_M_set_125 ?_
    refine lv_goto (tgt := 150) hx hb d_M_set_126 (by decide) ?_
    exact J150 x1 x3 x4_8 x5_15 x6_21 ((32 : Int32) * r122) (1 : Int32) f86 f108 _ _ _ h hP hD hS (lv_sub hl [3, 4, 6, 2, 1, 0] rfl)
def wp_M_along (n_p0 : Nat) (f_p0 : Nat → Int32) (x1 : Int32) (x2 : Int32) (post : Int32 → Unit → Prop) : Prop :=
  ∀ x3_4 : Int32, x3_4 = ((8 : Int32) - x1) → (x2 = 0 → vp_in (0 : Int32) n_p0 ∧ vp_in (1 : Int32) n_p0 ∧ vp_in (2 : Int32) n_p0 ∧ vp_in (3 : Int32) n_p0 ∧ post ((((((x3_4 * x3_4) * x3_4) * (f_p0 (0 : Int32).toNatClampNeg)) + (((((3 : Int32) * x3_4) * x3_4) * x1) * (f_p0 (1 : Int32).toNatClampNeg))) + (((((3 : Int32) * x3_4) * x1) * x1) * (f_p0 (2 : Int32).toNatClampNeg))) + (((x1 * x1) * x1) * (f_p0 (3 : Int32).toNatClampNeg))) ()) ∧ (¬ x2 = 0 → ((4 : Int32) < x1 → vp_in (1 : Int32) n_p0 ∧ vp_in (3 : Int32) n_p0 ∧ post ((128 : Int32) * ((x3_4 * (f_p0 (1 : Int32).toNatClampNeg)) + ((x1 - (4 : Int32)) * (f_p0 (3 : Int32).toNatClampNeg)))) ()) ∧ (¬ (4 : Int32) < x1 → vp_in (0 : Int32) n_p0 ∧ vp_in (1 : Int32) n_p0 ∧ post ((128 : Int32) * ((((4 : Int32) - x1) * (f_p0 (0 : Int32).toNatClampNeg)) + (x1 * (f_p0 (1 : Int32).toNatClampNeg)))) ()))
abbrev cw_M_along (cI : ClassId) (a_p0 : Nat) (n_p0 : Nat) (f_p0 : Nat → Int32) : va_W := [(a_p0, .inl (cI, n_p0, .inl f_p0))]
abbrev qq_M_along (dC : Nat → ClassId) (dI : Nat → Nat → Nat) (cI cB cJ cZ : ClassId) (a_p0 : Nat) (n_p0 : Nat) (f_p0 : Nat → Int32) (A : Nat → Prop) (post : Int32 → Unit → Prop) : Array Value → State → Outcome → State → Prop := va_Qi post (fun _ t => va_P (dC, dI) vwCl (cw_M_along cI a_p0 n_p0 f_p0) t.heap ∧ va_K (dC, dI) vwCl [(cI, .int), (cB, .byte), (cJ, .long), (cZ, .boolean)] t ∧ va_D A (cw_M_along cI a_p0 n_p0 f_p0)) A
set_option maxHeartbeats 4000000 in
set_option maxRecDepth 100000 in
theorem c_M_along (l : Launch) (dC : Nat → ClassId) (dI : Nat → Nat → Nat) (cI cB cJ cZ : ClassId) (a_p0 : Nat) (sz : Nat) (n_p0 : Nat) (f_p0 : Nat → Int32) (x1 : Int32) (x2 : Int32) (post : Int32 → Unit → Prop) (h : wp_M_along n_p0 f_p0 x1 x2 post) : Met l y_M_along w_M_along ({ frames := 0, cells := 0, slots := 0, locals := 0 }) (va_Pc [.ref a_p0, .int x1, .int x2] (fun U => U.heap.size = sz ∧ va_P (dC, dI) vwCl (cw_M_along cI a_p0 n_p0 f_p0) U.heap ∧ va_K (dC, dI) vwCl [(cI, .int), (cB, .byte), (cJ, .long), (cZ, .boolean)] U ∧ va_D (fun _ => True) (cw_M_along cI a_p0 n_p0 f_p0))) (qq_M_along dC dI cI cB cJ cZ a_p0 n_p0 f_p0 (va_A (cw_M_along cI a_p0 n_p0 f_p0) sz) post) 0 0 (va_A (cw_M_along cI a_p0 n_p0 f_p0) sz) := by
  refine Met.ofW (cc := b_M_along) (maxL := 4) (ret := (some .int)) (by decide +kernel) rfl ?_
  intro p e s m args below meth c s₁ B hml hv
  obtain ⟨rfl, hsz, hP, hK, hD0⟩ := hv
  have hx := B.exec
  have hb := B.bytes
  have hr := B.returns
  have hts : ∀ w ∈ allW, w.before _ s = true := fun w hw => atoms_spec (ws := w_M_along) B.pre w (List.mem_cons_of_mem _ hw)
  have hown : s.vm.findClass R_M = some m.cls := findClass_of_methodNamed B.named
  have hlocks := B.notSynchronized
  subst hsz
  have hD := hD0.self (sz := s.heap.size)
  generalize hAe : va_A (cw_M_along cI a_p0 n_p0 f_p0) s.heap.size = A at hD ⊢
  have hA : ∀ q : Nat, s.heap.size ≤ q → A q := fun q h => by rw [← hAe]; exact Or.inr h
  have hS : va_S A s.heap s.heap [] := va_S.rf
  clear hD0
  generalize hQf : MQ below (qq_M_along dC dI cI cB cJ cZ a_p0 n_p0 f_p0 A post) ([.ref a_p0, .int x1, .int x2] : List Value).toArray s 0 0 A = Qf
  have hl := lv_entry ([.ref a_p0, .int x1, .int x2]) (n := 4) (Nat.le_of_ble_eq_true rfl)
  rw [lg_entry_eq]
  generalize (lg_sl ([.ref a_p0, .int x1, .int x2]) ++ List.replicate (4 - (lg_sl ([.ref a_p0, .int x1, .int x2])).length) Slot.unset).toArray = ls at hl ⊢
  have hl : lv_has ls 4 [(0, .ref a_p0), (1, .int x1), (2, .int x2)] := hl
  unfold wp_M_along at h
  refine lv_bipush (v := 8) hx hb d_M_along_0 (by decide) ?_
  refine lv_iload_n hx hb d_M_along_2 rfl (lv_at hl 1 rfl) ?_
  refine lv_isub hx hb d_M_along_3 ?_
  refine lv_topi (fun x3_4 e_x3_4 => ?_)
  have h := h x3_4 e_x3_4
  refine lv_istore_n (lv' := [(3, .int x3_4), (0, .ref a_p0), (1, .int x1), (2, .int x2)]) hx hb d_M_along_4 rfl hl (by decide) rfl (fun ls hl => ?_)
  refine lv_iload_n hx hb d_M_along_5 rfl (lv_at hl 3 rfl) ?_
  refine lv_if_eq (tgt := 52) hx hb d_M_along_6 (by decide) (fun cc_ => ?_) (fun cc_ => ?_)
  · have h := h.1 cc_
    refine lv_iload_n hx hb d_M_along_52 rfl (lv_at hl 0 rfl) ?_
    refine lv_iload_n hx hb d_M_along_53 rfl (lv_at hl 0 rfl) ?_
    refine lv_imul hx hb d_M_along_54 ?_
    refine lv_iload_n hx hb d_M_along_55 rfl (lv_at hl 0 rfl) ?_
    refine lv_imul hx hb d_M_along_56 ?_
    refine lv_aload_n hx hb d_M_along_57 rfl (lv_at hl 1 rfl) ?_
    refine lv_iconst (v := 0) hx hb d_M_along_58 (by decide) ?_
    obtain ⟨hin, h⟩ := h
    refine va_iald hx hb hK hP 0 0 rfl rfl hin d_M_along_59 ?_
    refine lv_imul hx hb d_M_along_60 ?_
    refine lv_iconst (v := 3) hx hb d_M_along_61 (by decide) ?_
    refine lv_iload_n hx hb d_M_along_62 rfl (lv_at hl 0 rfl) ?_
    refine lv_imul hx hb d_M_along_63 ?_
    refine lv_iload_n hx hb d_M_along_64 rfl (lv_at hl 0 rfl) ?_
    refine lv_imul hx hb d_M_along_65 ?_
    refine lv_iload_n hx hb d_M_along_66 rfl (lv_at hl 2 rfl) ?_
    refine lv_imul hx hb d_M_along_67 ?_
    refine lv_aload_n hx hb d_M_along_68 rfl (lv_at hl 1 rfl) ?_
    refine lv_iconst (v := 1) hx hb d_M_along_69 (by decide) ?_
    obtain ⟨hin, h⟩ := h
    refine va_iald hx hb hK hP 0 0 rfl rfl hin d_M_along_70 ?_
    refine lv_imul hx hb d_M_along_71 ?_
    refine lv_iadd hx hb d_M_along_72 ?_
    refine lv_iconst (v := 3) hx hb d_M_along_73 (by decide) ?_
    refine lv_iload_n hx hb d_M_along_74 rfl (lv_at hl 0 rfl) ?_
    refine lv_imul hx hb d_M_along_75 ?_
    refine lv_iload_n hx hb d_M_along_76 rfl (lv_at hl 2 rfl) ?_
    refine lv_imul hx hb d_M_along_77 ?_
    refine lv_iload_n hx hb d_M_along_78 rfl (lv_at hl 2 rfl) ?_
    refine lv_imul hx hb d_M_along_79 ?_
    refine lv_aload_n hx hb d_M_along_80 rfl (lv_at hl 1 rfl) ?_
    refine lv_iconst (v := 2) hx hb d_M_along_81 (by decide) ?_
    obtain ⟨hin, h⟩ := h
    refine va_iald hx hb hK hP 0 0 rfl rfl hin d_M_along_82 ?_
    refine lv_imul hx hb d_M_along_83 ?_
    refine lv_iadd hx hb d_M_along_84 ?_
    refine lv_iload_n hx hb d_M_along_85 rfl (lv_at hl 2 rfl) ?_
    refine lv_iload_n hx hb d_M_along_86 rfl (lv_at hl 2 rfl) ?_
    refine lv_imul hx hb d_M_along_87 ?_
    refine lv_iload_n hx hb d_M_along_88 rfl (lv_at hl 2 rfl) ?_
    refine lv_imul hx hb d_M_along_89 ?_
    refine lv_aload_n hx hb d_M_along_90 rfl (lv_at hl 1 rfl) ?_
    refine lv_iconst (v := 3) hx hb d_M_along_91 (by decide) ?_
    obtain ⟨hin, h⟩ := h
    refine va_iald hx hb hK hP 0 0 rfl rfl hin d_M_along_92 ?_
    refine lv_imul hx hb d_M_along_93 ?_
    refine lv_iadd hx hb d_M_along_94 ?_
    subst hQf
    exact W.iret (v := ((((((x3_4 * x3_4) * x3_4) * (f_p0 (0 : Int32).toNatClampNeg)) + (((((3 : Int32) * x3_4) * x3_4) * x1) * (f_p0 (1 : Int32).toNatClampNeg))) + (((((3 : Int32) * x3_4) * x1) * x1) * (f_p0 (2 : Int32).toNatClampNeg))) + (((x1 * x1) * x1) * (f_p0 (3 : Int32).toNatClampNeg)))) hx hb hr (fun t ht hW => ⟨⟨((((((x3_4 * x3_4) * x3_4) * (f_p0 (0 : Int32).toNatClampNeg)) + (((((3 : Int32) * x3_4) * x3_4) * x1) * (f_p0 (1 : Int32).toNatClampNeg))) + (((((3 : Int32) * x3_4) * x1) * x1) * (f_p0 (2 : Int32).toNatClampNeg))) + (((x1 * x1) * x1) * (f_p0 (3 : Int32).toNatClampNeg))), (), rfl, h, by rw [ht]; exact hP, va_K.moved hW.alike hK, hD⟩, hS.F ht⟩) hS.2.2 d_M_along_95
  · have h := h.2 cc_
    refine lv_iload_n hx hb d_M_along_9 rfl (lv_at hl 2 rfl) ?_
    refine lv_iconst (v := 4) hx hb d_M_along_10 (by decide) ?_
    refine lv_icmp_gt (tgt := 34) hx hb d_M_along_11 (by decide) (fun cc_ => ?_) (fun cc_ => ?_)
    · have h := h.1 cc_
      refine lv_sipush (v := 128) hx hb d_M_along_34 (by decide) ?_
      refine lv_iload_n hx hb d_M_along_37 rfl (lv_at hl 0 rfl) ?_
      refine lv_aload_n hx hb d_M_along_38 rfl (lv_at hl 1 rfl) ?_
      refine lv_iconst (v := 1) hx hb d_M_along_39 (by decide) ?_
      obtain ⟨hin, h⟩ := h
      refine va_iald hx hb hK hP 0 0 rfl rfl hin d_M_along_40 ?_
      refine lv_imul hx hb d_M_along_41 ?_
      refine lv_iload_n hx hb d_M_along_42 rfl (lv_at hl 2 rfl) ?_
      refine lv_iconst (v := 4) hx hb d_M_along_43 (by decide) ?_
      refine lv_isub hx hb d_M_along_44 ?_
      refine lv_aload_n hx hb d_M_along_45 rfl (lv_at hl 1 rfl) ?_
      refine lv_iconst (v := 3) hx hb d_M_along_46 (by decide) ?_
      obtain ⟨hin, h⟩ := h
      refine va_iald hx hb hK hP 0 0 rfl rfl hin d_M_along_47 ?_
      refine lv_imul hx hb d_M_along_48 ?_
      refine lv_iadd hx hb d_M_along_49 ?_
      refine lv_imul hx hb d_M_along_50 ?_
      subst hQf
      exact W.iret (v := ((128 : Int32) * ((x3_4 * (f_p0 (1 : Int32).toNatClampNeg)) + ((x1 - (4 : Int32)) * (f_p0 (3 : Int32).toNatClampNeg))))) hx hb hr (fun t ht hW => ⟨⟨((128 : Int32) * ((x3_4 * (f_p0 (1 : Int32).toNatClampNeg)) + ((x1 - (4 : Int32)) * (f_p0 (3 : Int32).toNatClampNeg)))), (), rfl, h, by rw [ht]; exact hP, va_K.moved hW.alike hK, hD⟩, hS.F ht⟩) hS.2.2 d_M_along_51
    · have h := h.2 cc_
      refine lv_sipush (v := 128) hx hb d_M_along_14 (by decide) ?_
      refine lv_iconst (v := 4) hx hb d_M_along_17 (by decide) ?_
      refine lv_iload_n hx hb d_M_along_18 rfl (lv_at hl 2 rfl) ?_
      refine lv_isub hx hb d_M_along_19 ?_
      refine lv_aload_n hx hb d_M_along_20 rfl (lv_at hl 1 rfl) ?_
      refine lv_iconst (v := 0) hx hb d_M_along_21 (by decide) ?_
      obtain ⟨hin, h⟩ := h
      refine va_iald hx hb hK hP 0 0 rfl rfl hin d_M_along_22 ?_
      refine lv_imul hx hb d_M_along_23 ?_
      refine lv_iload_n hx hb d_M_along_24 rfl (lv_at hl 2 rfl) ?_
      refine lv_aload_n hx hb d_M_along_25 rfl (lv_at hl 1 rfl) ?_
      refine lv_iconst (v := 1) hx hb d_M_along_26 (by decide) ?_
      obtain ⟨hin, h⟩ := h
      refine va_iald hx hb hK hP 0 0 rfl rfl hin d_M_along_27 ?_
      refine lv_imul hx hb d_M_along_28 ?_
      refine lv_iadd hx hb d_M_along_29 ?_
      refine lv_imul hx hb d_M_along_30 ?_
      refine lv_goto (tgt := 51) hx hb d_M_along_31 (by decide) ?_
      subst hQf
      exact W.iret (v := ((128 : Int32) * ((((4 : Int32) - x1) * (f_p0 (0 : Int32).toNatClampNeg)) + (x1 * (f_p0 (1 : Int32).toNatClampNeg))))) hx hb hr (fun t ht hW => ⟨⟨((128 : Int32) * ((((4 : Int32) - x1) * (f_p0 (0 : Int32).toNatClampNeg)) + (x1 * (f_p0 (1 : Int32).toNatClampNeg)))), (), rfl, h, by rw [ht]; exact hP, va_K.moved hW.alike hK, hD⟩, hS.F ht⟩) hS.2.2 d_M_along_51
def wp_M_isNearLine (n_cornerAt n_froms n_sizes n_xs n_ys : Nat) (c_of : Int32) (c_corners : Int32) (f_cornerAt : Nat → Int32) (f_froms : Nat → Int32) (f_sizes : Nat → Int32) (f_xs : Nat → Int32) (f_ys : Nat → Int32) (x1 : Int64) (x3 : Int64) (x5 : Int32) (x6 : Int32) (post : Int32 → Unit → Prop) : Prop :=
  ∃ Q6 : Int32 → Unit → Prop, wp_M_cornerX n_cornerAt n_froms n_sizes n_xs c_of c_corners f_cornerAt f_froms f_sizes f_xs x5 Q6 ∧ ∀ (r6 : Int32), Q6 r6 () → ∀ x7_11 : Int64, x7_11 = ((16384 : Int64) * (r6.toInt64)) → ∃ Q19 : Int32 → Unit → Prop, wp_M_cornerY n_cornerAt n_froms n_sizes n_ys c_of c_corners f_cornerAt f_froms f_sizes f_ys x5 Q19 ∧ ∀ (r19 : Int32), Q19 r19 () → ∀ x9_24 : Int64, x9_24 = ((16384 : Int64) * (r19.toInt64)) → ∃ Q31 : Int32 → Unit → Prop, wp_M_cornerX n_cornerAt n_froms n_sizes n_xs c_of c_corners f_cornerAt f_froms f_sizes f_xs (x5 + (1 : Int32)) Q31 ∧ ∀ (r31 : Int32), Q31 r31 () → ∃ Q37 : Int32 → Unit → Prop, wp_M_cornerX n_cornerAt n_froms n_sizes n_xs c_of c_corners f_cornerAt f_froms f_sizes f_xs x5 Q37 ∧ ∀ (r37 : Int32), Q37 r37 () → ∀ x11_42 : Int64, x11_42 = ((r31 - r37).toInt64) → ∃ Q49 : Int32 → Unit → Prop, wp_M_cornerY n_cornerAt n_froms n_sizes n_ys c_of c_corners f_cornerAt f_froms f_sizes f_ys (x5 + (1 : Int32)) Q49 ∧ ∀ (r49 : Int32), Q49 r49 () → ∃ Q55 : Int32 → Unit → Prop, wp_M_cornerY n_cornerAt n_froms n_sizes n_ys c_of c_corners f_cornerAt f_froms f_sizes f_ys x5 Q55 ∧ ∀ (r55 : Int32), Q55 r55 () → ∀ x13_60 : Int64, x13_60 = ((r49 - r55).toInt64) → ∀ x15_66 : Int64, x15_66 = (x1 - x7_11) → ∀ x17_72 : Int64, x17_72 = (x3 - x9_24) → ∀ x19_85 : Int64, x19_85 = ((x11_42 * x11_42) + (x13_60 * x13_60)) → ∀ x21_98 : Int64, x21_98 = ((x15_66 * x11_42) + (x17_72 * x13_60)) → ∀ x23_107 : Int64, x23_107 = ((512 : Int64) * (x6.toInt64)) → (0 < (lg_cmp x21_98 (0 : Int64)) → ((lg_cmp x21_98 (x19_85 * (16384 : Int64))) < 0 → ∀ x25_213 : Int64, x25_213 = ((x15_66 * x13_60) - (x17_72 * x11_42)) → (0 < (lg_cmp (x25_213 * x25_213) ((x23_107 * x23_107) * x19_85)) → post (0 : Int32) ()) ∧ (¬ 0 < (lg_cmp (x25_213 * x25_213) ((x23_107 * x23_107) * x19_85)) → post (1 : Int32) ())) ∧ (¬ (lg_cmp x21_98 (x19_85 * (16384 : Int64))) < 0 → ∀ x25_163 : Int64, x25_163 = (x15_66 - ((16384 : Int64) * x11_42)) → ∀ x27_174 : Int64, x27_174 = (x17_72 - ((16384 : Int64) * x13_60)) → (0 < (lg_cmp ((x25_163 * x25_163) + (x27_174 * x27_174)) (x23_107 * x23_107)) → post (0 : Int32) ()) ∧ (¬ 0 < (lg_cmp ((x25_163 * x25_163) + (x27_174 * x27_174)) (x23_107 * x23_107)) → post (1 : Int32) ()))) ∧ (¬ 0 < (lg_cmp x21_98 (0 : Int64)) → (0 < (lg_cmp ((x15_66 * x15_66) + (x17_72 * x17_72)) (x23_107 * x23_107)) → post (0 : Int32) ()) ∧ (¬ 0 < (lg_cmp ((x15_66 * x15_66) + (x17_72 * x17_72)) (x23_107 * x23_107)) → post (1 : Int32) ()))
abbrev cw_M_isNearLine (cI : ClassId) (a_this a_cornerAt a_froms a_sizes a_xs a_ys a_colours a_layersOf a_areas a_used a_counts a_costs a_firsts a_manys a_fs a_px a_py a_groups a_joinF : Nat) (n_cornerAt n_froms n_sizes n_xs n_ys : Nat) (c_code : Int32) (c_width : Int32) (c_height : Int32) (c_isTraced : Int32) (c_outlines : Int32) (c_points : Int32) (c_hasPolygon : Int32) (c_of : Int32) (c_corners : Int32) (c_costSum : Int32) (c_hasCurves : Int32) (c_curveCount : Int32) (c_sharp : Int32) (c_allowed : Int32) (f_cornerAt : Nat → Int32) (f_froms : Nat → Int32) (f_sizes : Nat → Int32) (f_xs : Nat → Int32) (f_ys : Nat → Int32) : va_W := [(a_this, .inr (5, [.int c_code, .int c_width, .int c_height, .ref a_colours, .int c_isTraced, .int c_outlines, .ref a_froms, .ref a_sizes, .ref a_layersOf, .ref a_areas, .int c_points, .ref a_xs, .ref a_ys, .ref a_used, .int c_hasPolygon, .int c_of, .int c_corners, .int c_costSum, .ref a_cornerAt, .ref a_counts, .ref a_costs, .int c_hasCurves, .int c_curveCount, .ref a_firsts, .ref a_manys, .ref a_fs, .int c_sharp, .int c_allowed, .ref a_px, .ref a_py, .ref a_groups, .ref a_joinF])), (a_cornerAt, .inl (cI, n_cornerAt, .inl f_cornerAt)), (a_froms, .inl (cI, n_froms, .inl f_froms)), (a_sizes, .inl (cI, n_sizes, .inl f_sizes)), (a_xs, .inl (cI, n_xs, .inl f_xs)), (a_ys, .inl (cI, n_ys, .inl f_ys))]
abbrev qq_M_isNearLine (dC : Nat → ClassId) (dI : Nat → Nat → Nat) (cI cB cJ cZ : ClassId) (a_this a_cornerAt a_froms a_sizes a_xs a_ys a_colours a_layersOf a_areas a_used a_counts a_costs a_firsts a_manys a_fs a_px a_py a_groups a_joinF : Nat) (n_cornerAt n_froms n_sizes n_xs n_ys : Nat) (c_code : Int32) (c_width : Int32) (c_height : Int32) (c_isTraced : Int32) (c_outlines : Int32) (c_points : Int32) (c_hasPolygon : Int32) (c_of : Int32) (c_corners : Int32) (c_costSum : Int32) (c_hasCurves : Int32) (c_curveCount : Int32) (c_sharp : Int32) (c_allowed : Int32) (f_cornerAt : Nat → Int32) (f_froms : Nat → Int32) (f_sizes : Nat → Int32) (f_xs : Nat → Int32) (f_ys : Nat → Int32) (A : Nat → Prop) (post : Int32 → Unit → Prop) : Array Value → State → Outcome → State → Prop := va_Qi post (fun _ t => va_P (dC, dI) vwCl (cw_M_isNearLine cI a_this a_cornerAt a_froms a_sizes a_xs a_ys a_colours a_layersOf a_areas a_used a_counts a_costs a_firsts a_manys a_fs a_px a_py a_groups a_joinF n_cornerAt n_froms n_sizes n_xs n_ys c_code c_width c_height c_isTraced c_outlines c_points c_hasPolygon c_of c_corners c_costSum c_hasCurves c_curveCount c_sharp c_allowed f_cornerAt f_froms f_sizes f_xs f_ys) t.heap ∧ va_K (dC, dI) vwCl [(cI, .int), (cB, .byte), (cJ, .long), (cZ, .boolean)] t ∧ va_D A (cw_M_isNearLine cI a_this a_cornerAt a_froms a_sizes a_xs a_ys a_colours a_layersOf a_areas a_used a_counts a_costs a_firsts a_manys a_fs a_px a_py a_groups a_joinF n_cornerAt n_froms n_sizes n_xs n_ys c_code c_width c_height c_isTraced c_outlines c_points c_hasPolygon c_of c_corners c_costSum c_hasCurves c_curveCount c_sharp c_allowed f_cornerAt f_froms f_sizes f_xs f_ys)) A
set_option maxHeartbeats 4000000 in
set_option maxRecDepth 100000 in
theorem c_M_isNearLine (l : Launch) (dC : Nat → ClassId) (dI : Nat → Nat → Nat) (cI cB cJ cZ : ClassId) (a_this a_cornerAt a_froms a_sizes a_xs a_ys a_colours a_layersOf a_areas a_used a_counts a_costs a_firsts a_manys a_fs a_px a_py a_groups a_joinF : Nat) (sz : Nat) (n_cornerAt n_froms n_sizes n_xs n_ys : Nat) (c_code : Int32) (c_width : Int32) (c_height : Int32) (c_isTraced : Int32) (c_outlines : Int32) (c_points : Int32) (c_hasPolygon : Int32) (c_of : Int32) (c_corners : Int32) (c_costSum : Int32) (c_hasCurves : Int32) (c_curveCount : Int32) (c_sharp : Int32) (c_allowed : Int32) (f_cornerAt : Nat → Int32) (f_froms : Nat → Int32) (f_sizes : Nat → Int32) (f_xs : Nat → Int32) (f_ys : Nat → Int32) (x1 : Int64) (x3 : Int64) (x5 : Int32) (x6 : Int32) (post : Int32 → Unit → Prop) (h : wp_M_isNearLine n_cornerAt n_froms n_sizes n_xs n_ys c_of c_corners f_cornerAt f_froms f_sizes f_xs f_ys x1 x3 x5 x6 post) : Met l y_M_isNearLine w_M_isNearLine ({ frames := 2, cells := 0, slots := 0, locals := 43 }) (va_Pc [.ref a_this, .long x1, .long x3, .int x5, .int x6] (fun U => U.heap.size = sz ∧ va_P (dC, dI) vwCl (cw_M_isNearLine cI a_this a_cornerAt a_froms a_sizes a_xs a_ys a_colours a_layersOf a_areas a_used a_counts a_costs a_firsts a_manys a_fs a_px a_py a_groups a_joinF n_cornerAt n_froms n_sizes n_xs n_ys c_code c_width c_height c_isTraced c_outlines c_points c_hasPolygon c_of c_corners c_costSum c_hasCurves c_curveCount c_sharp c_allowed f_cornerAt f_froms f_sizes f_xs f_ys) U.heap ∧ va_K (dC, dI) vwCl [(cI, .int), (cB, .byte), (cJ, .long), (cZ, .boolean)] U ∧ va_D (fun _ => True) (cw_M_isNearLine cI a_this a_cornerAt a_froms a_sizes a_xs a_ys a_colours a_layersOf a_areas a_used a_counts a_costs a_firsts a_manys a_fs a_px a_py a_groups a_joinF n_cornerAt n_froms n_sizes n_xs n_ys c_code c_width c_height c_isTraced c_outlines c_points c_hasPolygon c_of c_corners c_costSum c_hasCurves c_curveCount c_sharp c_allowed f_cornerAt f_froms f_sizes f_xs f_ys))) (qq_M_isNearLine dC dI cI cB cJ cZ a_this a_cornerAt a_froms a_sizes a_xs a_ys a_colours a_layersOf a_areas a_used a_counts a_costs a_firsts a_manys a_fs a_px a_py a_groups a_joinF n_cornerAt n_froms n_sizes n_xs n_ys c_code c_width c_height c_isTraced c_outlines c_points c_hasPolygon c_of c_corners c_costSum c_hasCurves c_curveCount c_sharp c_allowed f_cornerAt f_froms f_sizes f_xs f_ys (va_A (cw_M_isNearLine cI a_this a_cornerAt a_froms a_sizes a_xs a_ys a_colours a_layersOf a_areas a_used a_counts a_costs a_firsts a_manys a_fs a_px a_py a_groups a_joinF n_cornerAt n_froms n_sizes n_xs n_ys c_code c_width c_height c_isTraced c_outlines c_points c_hasPolygon c_of c_corners c_costSum c_hasCurves c_curveCount c_sharp c_allowed f_cornerAt f_froms f_sizes f_xs f_ys) sz) post) 0 0 (va_A (cw_M_isNearLine cI a_this a_cornerAt a_froms a_sizes a_xs a_ys a_colours a_layersOf a_areas a_used a_counts a_costs a_firsts a_manys a_fs a_px a_py a_groups a_joinF n_cornerAt n_froms n_sizes n_xs n_ys c_code c_width c_height c_isTraced c_outlines c_points c_hasPolygon c_of c_corners c_costSum c_hasCurves c_curveCount c_sharp c_allowed f_cornerAt f_froms f_sizes f_xs f_ys) sz) := by
  refine Met.ofW (cc := b_M_isNearLine) (maxL := 29) (ret := (some .boolean)) (by decide +kernel) rfl ?_
  intro p e s m args below meth c s₁ B hml hv
  obtain ⟨rfl, hsz, hP, hK, hD0⟩ := hv
  have hx := B.exec
  have hb := B.bytes
  have hr := B.returns
  have hts : ∀ w ∈ allW, w.before _ s = true := fun w hw => atoms_spec (ws := w_M_isNearLine) B.pre w (List.mem_cons_of_mem _ hw)
  have hown : s.vm.findClass R_M = some m.cls := findClass_of_methodNamed B.named
  have hlocks := B.notSynchronized
  subst hsz
  have hD := hD0.self (sz := s.heap.size)
  generalize hAe : va_A (cw_M_isNearLine cI a_this a_cornerAt a_froms a_sizes a_xs a_ys a_colours a_layersOf a_areas a_used a_counts a_costs a_firsts a_manys a_fs a_px a_py a_groups a_joinF n_cornerAt n_froms n_sizes n_xs n_ys c_code c_width c_height c_isTraced c_outlines c_points c_hasPolygon c_of c_corners c_costSum c_hasCurves c_curveCount c_sharp c_allowed f_cornerAt f_froms f_sizes f_xs f_ys) s.heap.size = A at hD ⊢
  have hA : ∀ q : Nat, s.heap.size ≤ q → A q := fun q h => by rw [← hAe]; exact Or.inr h
  have hS : va_S A s.heap s.heap [] := va_S.rf
  clear hD0
  generalize hQf : MQ below (qq_M_isNearLine dC dI cI cB cJ cZ a_this a_cornerAt a_froms a_sizes a_xs a_ys a_colours a_layersOf a_areas a_used a_counts a_costs a_firsts a_manys a_fs a_px a_py a_groups a_joinF n_cornerAt n_froms n_sizes n_xs n_ys c_code c_width c_height c_isTraced c_outlines c_points c_hasPolygon c_of c_corners c_costSum c_hasCurves c_curveCount c_sharp c_allowed f_cornerAt f_froms f_sizes f_xs f_ys A post) ([.ref a_this, .long x1, .long x3, .int x5, .int x6] : List Value).toArray s 0 0 A = Qf
  have hl := lv_entry ([.ref a_this, .long x1, .long x3, .int x5, .int x6]) (n := 29) (Nat.le_of_ble_eq_true rfl)
  rw [lg_entry_eq]
  generalize (lg_sl ([.ref a_this, .long x1, .long x3, .int x5, .int x6]) ++ List.replicate (29 - (lg_sl ([.ref a_this, .long x1, .long x3, .int x5, .int x6])).length) Slot.unset).toArray = ls at hl ⊢
  have hl : lv_has ls 29 [(0, .ref a_this), (1, .long x1), (3, .long x3), (5, .int x5), (6, .int x6)] := hl
  unfold wp_M_isNearLine at h
  refine lv_ldc2 (v := 16384) hx hb hown (hts _ q_925) d_M_isNearLine_0 ?_
  refine lv_aload_n hx hb d_M_isNearLine_3 rfl (lv_at hl 0 rfl) ?_
  refine lv_iload hx hb d_M_isNearLine_4 (lv_at hl 3 rfl) ?_
  obtain ⟨Q6, hq6, h⟩ := h
  have hPc := hP.sub (ws' := (cw_M_cornerX cI a_this a_cornerAt a_froms a_sizes a_xs a_colours a_layersOf a_areas a_ys a_used a_counts a_costs a_firsts a_manys a_fs a_px a_py a_groups a_joinF n_cornerAt n_froms n_sizes n_xs c_code c_width c_height c_isTraced c_outlines c_points c_hasPolygon c_of c_corners c_costSum c_hasCurves c_curveCount c_sharp c_allowed f_cornerAt f_froms f_sizes f_xs)) [0, 1, 2, 3, 4] rfl
  have hDc := hD.sub (ws' := (cw_M_cornerX cI a_this a_cornerAt a_froms a_sizes a_xs a_colours a_layersOf a_areas a_ys a_used a_counts a_costs a_firsts a_manys a_fs a_px a_py a_groups a_joinF n_cornerAt n_froms n_sizes n_xs c_code c_width c_height c_isTraced c_outlines c_points c_hasPolygon c_of c_corners c_costSum c_hasCurves c_curveCount c_sharp c_allowed f_cornerAt f_froms f_sizes f_xs)) [0, 1, 2, 3, 4] (by decide) rfl
  have hFc := va_free (wc := (cw_M_cornerX cI a_this a_cornerAt a_froms a_sizes a_xs a_colours a_layersOf a_areas a_ys a_used a_counts a_costs a_firsts a_manys a_fs a_px a_py a_groups a_joinF n_cornerAt n_froms n_sizes n_xs c_code c_width c_height c_isTraced c_outlines c_points c_hasPolygon c_of c_corners c_costSum c_hasCurves c_curveCount c_sharp c_allowed f_cornerAt f_froms f_sizes f_xs)) hD hS hA [0, 1, 2, 3, 4] rfl
  refine va_calli (va_runV (As := [.int x5]) (rest := [.long (16384 : Int64)]) ⟨hx, hb, hml, hown, hts⟩ (c_M_cornerX l dC dI cI cB cJ cZ a_this a_cornerAt a_froms a_sizes a_xs a_colours a_layersOf a_areas a_ys a_used a_counts a_costs a_firsts a_manys a_fs a_px a_py a_groups a_joinF s.heap.size n_cornerAt n_froms n_sizes n_xs c_code c_width c_height c_isTraced c_outlines c_points c_hasPolygon c_of c_corners c_costSum c_hasCurves c_curveCount c_sharp c_allowed f_cornerAt f_froms f_sizes f_xs x5 Q6 hq6) (cwV 1 hts (goodV q_874 q_876 q_p45 q_7 q_877) rfl rfl rfl (by decide +kernel) ⟨Nat.le_of_ble_eq_true rfl, Nat.le_of_ble_eq_true rfl⟩) ⟨fun a U g mk q => by obtain ⟨q0, q1, qP, qK, qD⟩ := q; exact ⟨q0, q1, qP, va_K.moved (u := U) (U := U.calling g mk a) (Vm.Alike.refl U.vm) qK, qD⟩, va_recv hK hPc (ci := 5) (q0 := 0) rfl rfl, fun U hU hW => ⟨rfl, by rw [hU], by rw [hU]; exact hPc, va_K.moved hW.alike hK, hDc.weaken (fun _ _ _ _ => trivial)⟩⟩ rfl rfl hl.1 rfl (lv_room (Nat.le_of_ble_eq_true rfl)) d_M_isNearLine_6 ⟨Nat.le_of_ble_eq_true rfl, Nat.le_of_ble_eq_true rfl⟩) hS (fun q _ h => hFc q h) hFc (fun r6 u6 t H1 locs ht hvm hw hB hz1 hk1 hS => ?_)
  cases u6
  obtain ⟨hP1, -, hD1⟩ := hB
  rw [ht] at hP1
  have h := h r6 hw
  obtain ⟨hP, hD⟩ := va_join (wr := [(a_ys, .inl (cI, n_ys, .inl f_ys))]) (w1 := (cw_M_cornerX cI a_this a_cornerAt a_froms a_sizes a_xs a_colours a_layersOf a_areas a_ys a_used a_counts a_costs a_firsts a_manys a_fs a_px a_py a_groups a_joinF n_cornerAt n_froms n_sizes n_xs c_code c_width c_height c_isTraced c_outlines c_points c_hasPolygon c_of c_corners c_costSum c_hasCurves c_curveCount c_sharp c_allowed f_cornerAt f_froms f_sizes f_xs)) hP hD [0, 1, 2, 3, 4] [5] rfl rfl (by decide) (by decide) hk1 hFc hP1 hD1
  clear hP1 hD1 hk1 hPc hDc hFc
  generalize H1 = H at hP hS ⊢
  have hP : va_P (dC, dI) vwCl (cw_M_isNearLine cI a_this a_cornerAt a_froms a_sizes a_xs a_ys a_colours a_layersOf a_areas a_used a_counts a_costs a_firsts a_manys a_fs a_px a_py a_groups a_joinF n_cornerAt n_froms n_sizes n_xs n_ys c_code c_width c_height c_isTraced c_outlines c_points c_hasPolygon c_of c_corners c_costSum c_hasCurves c_curveCount c_sharp c_allowed f_cornerAt f_froms f_sizes f_xs f_ys) H := hP.sub [1, 2, 3, 4, 5, 0] rfl
  have hD : va_D A (cw_M_isNearLine cI a_this a_cornerAt a_froms a_sizes a_xs a_ys a_colours a_layersOf a_areas a_used a_counts a_costs a_firsts a_manys a_fs a_px a_py a_groups a_joinF n_cornerAt n_froms n_sizes n_xs n_ys c_code c_width c_height c_isTraced c_outlines c_points c_hasPolygon c_of c_corners c_costSum c_hasCurves c_curveCount c_sharp c_allowed f_cornerAt f_froms f_sizes f_xs f_ys) := hD.sub [1, 2, 3, 4, 5, 0] (by decide) rfl
  refine lv_i2l hx hb d_M_isNearLine_9 rfl ?_
  refine lv_lmul hx hb d_M_isNearLine_10 ?_
  refine lv_topl (fun x7_11 e_x7_11 => ?_)
  have h := h x7_11 e_x7_11
  refine lv_lstore (lv' := [(7, .long x7_11), (0, .ref a_this), (1, .long x1), (3, .long x3), (5, .int x5), (6, .int x6)]) hx hb d_M_isNearLine_11 hl (by decide) rfl (fun ls hl => ?_)
  refine lv_ldc2 (v := 16384) hx hb hown (hts _ q_925) d_M_isNearLine_13 ?_
  refine lv_aload_n hx hb d_M_isNearLine_16 rfl (lv_at hl 1 rfl) ?_
  refine lv_iload hx hb d_M_isNearLine_17 (lv_at hl 4 rfl) ?_
  obtain ⟨Q19, hq19, h⟩ := h
  have hPc := hP.sub (ws' := (cw_M_cornerY cI a_this a_cornerAt a_froms a_sizes a_ys a_colours a_layersOf a_areas a_xs a_used a_counts a_costs a_firsts a_manys a_fs a_px a_py a_groups a_joinF n_cornerAt n_froms n_sizes n_ys c_code c_width c_height c_isTraced c_outlines c_points c_hasPolygon c_of c_corners c_costSum c_hasCurves c_curveCount c_sharp c_allowed f_cornerAt f_froms f_sizes f_ys)) [0, 1, 2, 3, 5] rfl
  have hDc := hD.sub (ws' := (cw_M_cornerY cI a_this a_cornerAt a_froms a_sizes a_ys a_colours a_layersOf a_areas a_xs a_used a_counts a_costs a_firsts a_manys a_fs a_px a_py a_groups a_joinF n_cornerAt n_froms n_sizes n_ys c_code c_width c_height c_isTraced c_outlines c_points c_hasPolygon c_of c_corners c_costSum c_hasCurves c_curveCount c_sharp c_allowed f_cornerAt f_froms f_sizes f_ys)) [0, 1, 2, 3, 5] (by decide) rfl
  have hFc := va_free (wc := (cw_M_cornerY cI a_this a_cornerAt a_froms a_sizes a_ys a_colours a_layersOf a_areas a_xs a_used a_counts a_costs a_firsts a_manys a_fs a_px a_py a_groups a_joinF n_cornerAt n_froms n_sizes n_ys c_code c_width c_height c_isTraced c_outlines c_points c_hasPolygon c_of c_corners c_costSum c_hasCurves c_curveCount c_sharp c_allowed f_cornerAt f_froms f_sizes f_ys)) hD hS hA [0, 1, 2, 3, 5] rfl
  refine va_calli (va_runV (As := [.int x5]) (rest := [.long (16384 : Int64)]) ⟨hx, hb, hml, hown, hts⟩ (c_M_cornerY l dC dI cI cB cJ cZ a_this a_cornerAt a_froms a_sizes a_ys a_colours a_layersOf a_areas a_xs a_used a_counts a_costs a_firsts a_manys a_fs a_px a_py a_groups a_joinF H.size n_cornerAt n_froms n_sizes n_ys c_code c_width c_height c_isTraced c_outlines c_points c_hasPolygon c_of c_corners c_costSum c_hasCurves c_curveCount c_sharp c_allowed f_cornerAt f_froms f_sizes f_ys x5 Q19 hq19) (cwV 1 hts (goodV q_878 q_880 q_p46 q_7 q_881) rfl rfl rfl (by decide +kernel) ⟨Nat.le_of_ble_eq_true rfl, Nat.le_of_ble_eq_true rfl⟩) ⟨fun a U g mk q => by obtain ⟨q0, q1, qP, qK, qD⟩ := q; exact ⟨q0, q1, qP, va_K.moved (u := U) (U := U.calling g mk a) (Vm.Alike.refl U.vm) qK, qD⟩, va_recv hK hPc (ci := 5) (q0 := 0) rfl rfl, fun U hU hW => ⟨rfl, by rw [hU], by rw [hU]; exact hPc, va_K.moved hW.alike hK, hDc.weaken (fun _ _ _ _ => trivial)⟩⟩ rfl rfl hl.1 rfl (lv_room (Nat.le_of_ble_eq_true rfl)) d_M_isNearLine_19 ⟨Nat.le_of_ble_eq_true rfl, Nat.le_of_ble_eq_true rfl⟩) hS (fun q _ h => hFc q h) hFc (fun r19 u19 t H1 locs ht hvm hw hB hz1 hk1 hS => ?_)
  cases u19
  obtain ⟨hP1, -, hD1⟩ := hB
  rw [ht] at hP1
  have h := h r19 hw
  obtain ⟨hP, hD⟩ := va_join (wr := [(a_xs, .inl (cI, n_xs, .inl f_xs))]) (w1 := (cw_M_cornerY cI a_this a_cornerAt a_froms a_sizes a_ys a_colours a_layersOf a_areas a_xs a_used a_counts a_costs a_firsts a_manys a_fs a_px a_py a_groups a_joinF n_cornerAt n_froms n_sizes n_ys c_code c_width c_height c_isTraced c_outlines c_points c_hasPolygon c_of c_corners c_costSum c_hasCurves c_curveCount c_sharp c_allowed f_cornerAt f_froms f_sizes f_ys)) hP hD [0, 1, 2, 3, 5] [4] rfl rfl (by decide) (by decide) hk1 hFc hP1 hD1
  clear hP1 hD1 hk1 hPc hDc hFc
  generalize H1 = H at hP hS ⊢
  have hP : va_P (dC, dI) vwCl (cw_M_isNearLine cI a_this a_cornerAt a_froms a_sizes a_xs a_ys a_colours a_layersOf a_areas a_used a_counts a_costs a_firsts a_manys a_fs a_px a_py a_groups a_joinF n_cornerAt n_froms n_sizes n_xs n_ys c_code c_width c_height c_isTraced c_outlines c_points c_hasPolygon c_of c_corners c_costSum c_hasCurves c_curveCount c_sharp c_allowed f_cornerAt f_froms f_sizes f_xs f_ys) H := hP.sub [1, 2, 3, 4, 0, 5] rfl
  have hD : va_D A (cw_M_isNearLine cI a_this a_cornerAt a_froms a_sizes a_xs a_ys a_colours a_layersOf a_areas a_used a_counts a_costs a_firsts a_manys a_fs a_px a_py a_groups a_joinF n_cornerAt n_froms n_sizes n_xs n_ys c_code c_width c_height c_isTraced c_outlines c_points c_hasPolygon c_of c_corners c_costSum c_hasCurves c_curveCount c_sharp c_allowed f_cornerAt f_froms f_sizes f_xs f_ys) := hD.sub [1, 2, 3, 4, 0, 5] (by decide) rfl
  refine lv_i2l hx hb d_M_isNearLine_22 rfl ?_
  refine lv_lmul hx hb d_M_isNearLine_23 ?_
  refine lv_topl (fun x9_24 e_x9_24 => ?_)
  have h := h x9_24 e_x9_24
  refine lv_lstore (lv' := [(9, .long x9_24), (7, .long x7_11), (0, .ref a_this), (1, .long x1), (3, .long x3), (5, .int x5), (6, .int x6)]) hx hb d_M_isNearLine_24 hl (by decide) rfl (fun ls hl => ?_)
  refine lv_aload_n hx hb d_M_isNearLine_26 rfl (lv_at hl 2 rfl) ?_
  refine lv_iload hx hb d_M_isNearLine_27 (lv_at hl 5 rfl) ?_
  refine lv_iconst (v := 1) hx hb d_M_isNearLine_29 (by decide) ?_
  refine lv_iadd hx hb d_M_isNearLine_30 ?_
  obtain ⟨Q31, hq31, h⟩ := h
  have hPc := hP.sub (ws' := (cw_M_cornerX cI a_this a_cornerAt a_froms a_sizes a_xs a_colours a_layersOf a_areas a_ys a_used a_counts a_costs a_firsts a_manys a_fs a_px a_py a_groups a_joinF n_cornerAt n_froms n_sizes n_xs c_code c_width c_height c_isTraced c_outlines c_points c_hasPolygon c_of c_corners c_costSum c_hasCurves c_curveCount c_sharp c_allowed f_cornerAt f_froms f_sizes f_xs)) [0, 1, 2, 3, 4] rfl
  have hDc := hD.sub (ws' := (cw_M_cornerX cI a_this a_cornerAt a_froms a_sizes a_xs a_colours a_layersOf a_areas a_ys a_used a_counts a_costs a_firsts a_manys a_fs a_px a_py a_groups a_joinF n_cornerAt n_froms n_sizes n_xs c_code c_width c_height c_isTraced c_outlines c_points c_hasPolygon c_of c_corners c_costSum c_hasCurves c_curveCount c_sharp c_allowed f_cornerAt f_froms f_sizes f_xs)) [0, 1, 2, 3, 4] (by decide) rfl
  have hFc := va_free (wc := (cw_M_cornerX cI a_this a_cornerAt a_froms a_sizes a_xs a_colours a_layersOf a_areas a_ys a_used a_counts a_costs a_firsts a_manys a_fs a_px a_py a_groups a_joinF n_cornerAt n_froms n_sizes n_xs c_code c_width c_height c_isTraced c_outlines c_points c_hasPolygon c_of c_corners c_costSum c_hasCurves c_curveCount c_sharp c_allowed f_cornerAt f_froms f_sizes f_xs)) hD hS hA [0, 1, 2, 3, 4] rfl
  refine va_calli (va_runV (As := [.int (x5 + (1 : Int32))]) (rest := []) ⟨hx, hb, hml, hown, hts⟩ (c_M_cornerX l dC dI cI cB cJ cZ a_this a_cornerAt a_froms a_sizes a_xs a_colours a_layersOf a_areas a_ys a_used a_counts a_costs a_firsts a_manys a_fs a_px a_py a_groups a_joinF H.size n_cornerAt n_froms n_sizes n_xs c_code c_width c_height c_isTraced c_outlines c_points c_hasPolygon c_of c_corners c_costSum c_hasCurves c_curveCount c_sharp c_allowed f_cornerAt f_froms f_sizes f_xs (x5 + (1 : Int32)) Q31 hq31) (cwV 1 hts (goodV q_874 q_876 q_p45 q_7 q_877) rfl rfl rfl (by decide +kernel) ⟨Nat.le_of_ble_eq_true rfl, Nat.le_of_ble_eq_true rfl⟩) ⟨fun a U g mk q => by obtain ⟨q0, q1, qP, qK, qD⟩ := q; exact ⟨q0, q1, qP, va_K.moved (u := U) (U := U.calling g mk a) (Vm.Alike.refl U.vm) qK, qD⟩, va_recv hK hPc (ci := 5) (q0 := 0) rfl rfl, fun U hU hW => ⟨rfl, by rw [hU], by rw [hU]; exact hPc, va_K.moved hW.alike hK, hDc.weaken (fun _ _ _ _ => trivial)⟩⟩ rfl rfl hl.1 rfl (lv_room (Nat.le_of_ble_eq_true rfl)) d_M_isNearLine_31 ⟨Nat.le_of_ble_eq_true rfl, Nat.le_of_ble_eq_true rfl⟩) hS (fun q _ h => hFc q h) hFc (fun r31 u31 t H1 locs ht hvm hw hB hz1 hk1 hS => ?_)
  cases u31
  obtain ⟨hP1, -, hD1⟩ := hB
  rw [ht] at hP1
  have h := h r31 hw
  obtain ⟨hP, hD⟩ := va_join (wr := [(a_ys, .inl (cI, n_ys, .inl f_ys))]) (w1 := (cw_M_cornerX cI a_this a_cornerAt a_froms a_sizes a_xs a_colours a_layersOf a_areas a_ys a_used a_counts a_costs a_firsts a_manys a_fs a_px a_py a_groups a_joinF n_cornerAt n_froms n_sizes n_xs c_code c_width c_height c_isTraced c_outlines c_points c_hasPolygon c_of c_corners c_costSum c_hasCurves c_curveCount c_sharp c_allowed f_cornerAt f_froms f_sizes f_xs)) hP hD [0, 1, 2, 3, 4] [5] rfl rfl (by decide) (by decide) hk1 hFc hP1 hD1
  clear hP1 hD1 hk1 hPc hDc hFc
  generalize H1 = H at hP hS ⊢
  have hP : va_P (dC, dI) vwCl (cw_M_isNearLine cI a_this a_cornerAt a_froms a_sizes a_xs a_ys a_colours a_layersOf a_areas a_used a_counts a_costs a_firsts a_manys a_fs a_px a_py a_groups a_joinF n_cornerAt n_froms n_sizes n_xs n_ys c_code c_width c_height c_isTraced c_outlines c_points c_hasPolygon c_of c_corners c_costSum c_hasCurves c_curveCount c_sharp c_allowed f_cornerAt f_froms f_sizes f_xs f_ys) H := hP.sub [1, 2, 3, 4, 5, 0] rfl
  have hD : va_D A (cw_M_isNearLine cI a_this a_cornerAt a_froms a_sizes a_xs a_ys a_colours a_layersOf a_areas a_used a_counts a_costs a_firsts a_manys a_fs a_px a_py a_groups a_joinF n_cornerAt n_froms n_sizes n_xs n_ys c_code c_width c_height c_isTraced c_outlines c_points c_hasPolygon c_of c_corners c_costSum c_hasCurves c_curveCount c_sharp c_allowed f_cornerAt f_froms f_sizes f_xs f_ys) := hD.sub [1, 2, 3, 4, 5, 0] (by decide) rfl
  refine lv_aload_n hx hb d_M_isNearLine_34 rfl (lv_at hl 2 rfl) ?_
  refine lv_iload hx hb d_M_isNearLine_35 (lv_at hl 5 rfl) ?_
  obtain ⟨Q37, hq37, h⟩ := h
  have hPc := hP.sub (ws' := (cw_M_cornerX cI a_this a_cornerAt a_froms a_sizes a_xs a_colours a_layersOf a_areas a_ys a_used a_counts a_costs a_firsts a_manys a_fs a_px a_py a_groups a_joinF n_cornerAt n_froms n_sizes n_xs c_code c_width c_height c_isTraced c_outlines c_points c_hasPolygon c_of c_corners c_costSum c_hasCurves c_curveCount c_sharp c_allowed f_cornerAt f_froms f_sizes f_xs)) [0, 1, 2, 3, 4] rfl
  have hDc := hD.sub (ws' := (cw_M_cornerX cI a_this a_cornerAt a_froms a_sizes a_xs a_colours a_layersOf a_areas a_ys a_used a_counts a_costs a_firsts a_manys a_fs a_px a_py a_groups a_joinF n_cornerAt n_froms n_sizes n_xs c_code c_width c_height c_isTraced c_outlines c_points c_hasPolygon c_of c_corners c_costSum c_hasCurves c_curveCount c_sharp c_allowed f_cornerAt f_froms f_sizes f_xs)) [0, 1, 2, 3, 4] (by decide) rfl
  have hFc := va_free (wc := (cw_M_cornerX cI a_this a_cornerAt a_froms a_sizes a_xs a_colours a_layersOf a_areas a_ys a_used a_counts a_costs a_firsts a_manys a_fs a_px a_py a_groups a_joinF n_cornerAt n_froms n_sizes n_xs c_code c_width c_height c_isTraced c_outlines c_points c_hasPolygon c_of c_corners c_costSum c_hasCurves c_curveCount c_sharp c_allowed f_cornerAt f_froms f_sizes f_xs)) hD hS hA [0, 1, 2, 3, 4] rfl
  refine va_calli (va_runV (As := [.int x5]) (rest := [.int r31]) ⟨hx, hb, hml, hown, hts⟩ (c_M_cornerX l dC dI cI cB cJ cZ a_this a_cornerAt a_froms a_sizes a_xs a_colours a_layersOf a_areas a_ys a_used a_counts a_costs a_firsts a_manys a_fs a_px a_py a_groups a_joinF H.size n_cornerAt n_froms n_sizes n_xs c_code c_width c_height c_isTraced c_outlines c_points c_hasPolygon c_of c_corners c_costSum c_hasCurves c_curveCount c_sharp c_allowed f_cornerAt f_froms f_sizes f_xs x5 Q37 hq37) (cwV 1 hts (goodV q_874 q_876 q_p45 q_7 q_877) rfl rfl rfl (by decide +kernel) ⟨Nat.le_of_ble_eq_true rfl, Nat.le_of_ble_eq_true rfl⟩) ⟨fun a U g mk q => by obtain ⟨q0, q1, qP, qK, qD⟩ := q; exact ⟨q0, q1, qP, va_K.moved (u := U) (U := U.calling g mk a) (Vm.Alike.refl U.vm) qK, qD⟩, va_recv hK hPc (ci := 5) (q0 := 0) rfl rfl, fun U hU hW => ⟨rfl, by rw [hU], by rw [hU]; exact hPc, va_K.moved hW.alike hK, hDc.weaken (fun _ _ _ _ => trivial)⟩⟩ rfl rfl hl.1 rfl (lv_room (Nat.le_of_ble_eq_true rfl)) d_M_isNearLine_37 ⟨Nat.le_of_ble_eq_true rfl, Nat.le_of_ble_eq_true rfl⟩) hS (fun q _ h => hFc q h) hFc (fun r37 u37 t H1 locs ht hvm hw hB hz1 hk1 hS => ?_)
  cases u37
  obtain ⟨hP1, -, hD1⟩ := hB
  rw [ht] at hP1
  have h := h r37 hw
  obtain ⟨hP, hD⟩ := va_join (wr := [(a_ys, .inl (cI, n_ys, .inl f_ys))]) (w1 := (cw_M_cornerX cI a_this a_cornerAt a_froms a_sizes a_xs a_colours a_layersOf a_areas a_ys a_used a_counts a_costs a_firsts a_manys a_fs a_px a_py a_groups a_joinF n_cornerAt n_froms n_sizes n_xs c_code c_width c_height c_isTraced c_outlines c_points c_hasPolygon c_of c_corners c_costSum c_hasCurves c_curveCount c_sharp c_allowed f_cornerAt f_froms f_sizes f_xs)) hP hD [0, 1, 2, 3, 4] [5] rfl rfl (by decide) (by decide) hk1 hFc hP1 hD1
  clear hP1 hD1 hk1 hPc hDc hFc
  generalize H1 = H at hP hS ⊢
  have hP : va_P (dC, dI) vwCl (cw_M_isNearLine cI a_this a_cornerAt a_froms a_sizes a_xs a_ys a_colours a_layersOf a_areas a_used a_counts a_costs a_firsts a_manys a_fs a_px a_py a_groups a_joinF n_cornerAt n_froms n_sizes n_xs n_ys c_code c_width c_height c_isTraced c_outlines c_points c_hasPolygon c_of c_corners c_costSum c_hasCurves c_curveCount c_sharp c_allowed f_cornerAt f_froms f_sizes f_xs f_ys) H := hP.sub [1, 2, 3, 4, 5, 0] rfl
  have hD : va_D A (cw_M_isNearLine cI a_this a_cornerAt a_froms a_sizes a_xs a_ys a_colours a_layersOf a_areas a_used a_counts a_costs a_firsts a_manys a_fs a_px a_py a_groups a_joinF n_cornerAt n_froms n_sizes n_xs n_ys c_code c_width c_height c_isTraced c_outlines c_points c_hasPolygon c_of c_corners c_costSum c_hasCurves c_curveCount c_sharp c_allowed f_cornerAt f_froms f_sizes f_xs f_ys) := hD.sub [1, 2, 3, 4, 5, 0] (by decide) rfl
  refine lv_isub hx hb d_M_isNearLine_40 ?_
  refine lv_i2l hx hb d_M_isNearLine_41 rfl ?_
  refine lv_topl (fun x11_42 e_x11_42 => ?_)
  have h := h x11_42 e_x11_42
  refine lv_lstore (lv' := [(11, .long x11_42), (9, .long x9_24), (7, .long x7_11), (0, .ref a_this), (1, .long x1), (3, .long x3), (5, .int x5), (6, .int x6)]) hx hb d_M_isNearLine_42 hl (by decide) rfl (fun ls hl => ?_)
  refine lv_aload_n hx hb d_M_isNearLine_44 rfl (lv_at hl 3 rfl) ?_
  refine lv_iload hx hb d_M_isNearLine_45 (lv_at hl 6 rfl) ?_
  refine lv_iconst (v := 1) hx hb d_M_isNearLine_47 (by decide) ?_
  refine lv_iadd hx hb d_M_isNearLine_48 ?_
  obtain ⟨Q49, hq49, h⟩ := h
  have hPc := hP.sub (ws' := (cw_M_cornerY cI a_this a_cornerAt a_froms a_sizes a_ys a_colours a_layersOf a_areas a_xs a_used a_counts a_costs a_firsts a_manys a_fs a_px a_py a_groups a_joinF n_cornerAt n_froms n_sizes n_ys c_code c_width c_height c_isTraced c_outlines c_points c_hasPolygon c_of c_corners c_costSum c_hasCurves c_curveCount c_sharp c_allowed f_cornerAt f_froms f_sizes f_ys)) [0, 1, 2, 3, 5] rfl
  have hDc := hD.sub (ws' := (cw_M_cornerY cI a_this a_cornerAt a_froms a_sizes a_ys a_colours a_layersOf a_areas a_xs a_used a_counts a_costs a_firsts a_manys a_fs a_px a_py a_groups a_joinF n_cornerAt n_froms n_sizes n_ys c_code c_width c_height c_isTraced c_outlines c_points c_hasPolygon c_of c_corners c_costSum c_hasCurves c_curveCount c_sharp c_allowed f_cornerAt f_froms f_sizes f_ys)) [0, 1, 2, 3, 5] (by decide) rfl
  have hFc := va_free (wc := (cw_M_cornerY cI a_this a_cornerAt a_froms a_sizes a_ys a_colours a_layersOf a_areas a_xs a_used a_counts a_costs a_firsts a_manys a_fs a_px a_py a_groups a_joinF n_cornerAt n_froms n_sizes n_ys c_code c_width c_height c_isTraced c_outlines c_points c_hasPolygon c_of c_corners c_costSum c_hasCurves c_curveCount c_sharp c_allowed f_cornerAt f_froms f_sizes f_ys)) hD hS hA [0, 1, 2, 3, 5] rfl
  refine va_calli (va_runV (As := [.int (x5 + (1 : Int32))]) (rest := []) ⟨hx, hb, hml, hown, hts⟩ (c_M_cornerY l dC dI cI cB cJ cZ a_this a_cornerAt a_froms a_sizes a_ys a_colours a_layersOf a_areas a_xs a_used a_counts a_costs a_firsts a_manys a_fs a_px a_py a_groups a_joinF H.size n_cornerAt n_froms n_sizes n_ys c_code c_width c_height c_isTraced c_outlines c_points c_hasPolygon c_of c_corners c_costSum c_hasCurves c_curveCount c_sharp c_allowed f_cornerAt f_froms f_sizes f_ys (x5 + (1 : Int32)) Q49 hq49) (cwV 1 hts (goodV q_878 q_880 q_p46 q_7 q_881) rfl rfl rfl (by decide +kernel) ⟨Nat.le_of_ble_eq_true rfl, Nat.le_of_ble_eq_true rfl⟩) ⟨fun a U g mk q => by obtain ⟨q0, q1, qP, qK, qD⟩ := q; exact ⟨q0, q1, qP, va_K.moved (u := U) (U := U.calling g mk a) (Vm.Alike.refl U.vm) qK, qD⟩, va_recv hK hPc (ci := 5) (q0 := 0) rfl rfl, fun U hU hW => ⟨rfl, by rw [hU], by rw [hU]; exact hPc, va_K.moved hW.alike hK, hDc.weaken (fun _ _ _ _ => trivial)⟩⟩ rfl rfl hl.1 rfl (lv_room (Nat.le_of_ble_eq_true rfl)) d_M_isNearLine_49 ⟨Nat.le_of_ble_eq_true rfl, Nat.le_of_ble_eq_true rfl⟩) hS (fun q _ h => hFc q h) hFc (fun r49 u49 t H1 locs ht hvm hw hB hz1 hk1 hS => ?_)
  cases u49
  obtain ⟨hP1, -, hD1⟩ := hB
  rw [ht] at hP1
  have h := h r49 hw
  obtain ⟨hP, hD⟩ := va_join (wr := [(a_xs, .inl (cI, n_xs, .inl f_xs))]) (w1 := (cw_M_cornerY cI a_this a_cornerAt a_froms a_sizes a_ys a_colours a_layersOf a_areas a_xs a_used a_counts a_costs a_firsts a_manys a_fs a_px a_py a_groups a_joinF n_cornerAt n_froms n_sizes n_ys c_code c_width c_height c_isTraced c_outlines c_points c_hasPolygon c_of c_corners c_costSum c_hasCurves c_curveCount c_sharp c_allowed f_cornerAt f_froms f_sizes f_ys)) hP hD [0, 1, 2, 3, 5] [4] rfl rfl (by decide) (by decide) hk1 hFc hP1 hD1
  clear hP1 hD1 hk1 hPc hDc hFc
  generalize H1 = H at hP hS ⊢
  have hP : va_P (dC, dI) vwCl (cw_M_isNearLine cI a_this a_cornerAt a_froms a_sizes a_xs a_ys a_colours a_layersOf a_areas a_used a_counts a_costs a_firsts a_manys a_fs a_px a_py a_groups a_joinF n_cornerAt n_froms n_sizes n_xs n_ys c_code c_width c_height c_isTraced c_outlines c_points c_hasPolygon c_of c_corners c_costSum c_hasCurves c_curveCount c_sharp c_allowed f_cornerAt f_froms f_sizes f_xs f_ys) H := hP.sub [1, 2, 3, 4, 0, 5] rfl
  have hD : va_D A (cw_M_isNearLine cI a_this a_cornerAt a_froms a_sizes a_xs a_ys a_colours a_layersOf a_areas a_used a_counts a_costs a_firsts a_manys a_fs a_px a_py a_groups a_joinF n_cornerAt n_froms n_sizes n_xs n_ys c_code c_width c_height c_isTraced c_outlines c_points c_hasPolygon c_of c_corners c_costSum c_hasCurves c_curveCount c_sharp c_allowed f_cornerAt f_froms f_sizes f_xs f_ys) := hD.sub [1, 2, 3, 4, 0, 5] (by decide) rfl
  refine lv_aload_n hx hb d_M_isNearLine_52 rfl (lv_at hl 3 rfl) ?_
  refine lv_iload hx hb d_M_isNearLine_53 (lv_at hl 6 rfl) ?_
  obtain ⟨Q55, hq55, h⟩ := h
  have hPc := hP.sub (ws' := (cw_M_cornerY cI a_this a_cornerAt a_froms a_sizes a_ys a_colours a_layersOf a_areas a_xs a_used a_counts a_costs a_firsts a_manys a_fs a_px a_py a_groups a_joinF n_cornerAt n_froms n_sizes n_ys c_code c_width c_height c_isTraced c_outlines c_points c_hasPolygon c_of c_corners c_costSum c_hasCurves c_curveCount c_sharp c_allowed f_cornerAt f_froms f_sizes f_ys)) [0, 1, 2, 3, 5] rfl
  have hDc := hD.sub (ws' := (cw_M_cornerY cI a_this a_cornerAt a_froms a_sizes a_ys a_colours a_layersOf a_areas a_xs a_used a_counts a_costs a_firsts a_manys a_fs a_px a_py a_groups a_joinF n_cornerAt n_froms n_sizes n_ys c_code c_width c_height c_isTraced c_outlines c_points c_hasPolygon c_of c_corners c_costSum c_hasCurves c_curveCount c_sharp c_allowed f_cornerAt f_froms f_sizes f_ys)) [0, 1, 2, 3, 5] (by decide) rfl
  have hFc := va_free (wc := (cw_M_cornerY cI a_this a_cornerAt a_froms a_sizes a_ys a_colours a_layersOf a_areas a_xs a_used a_counts a_costs a_firsts a_manys a_fs a_px a_py a_groups a_joinF n_cornerAt n_froms n_sizes n_ys c_code c_width c_height c_isTraced c_outlines c_points c_hasPolygon c_of c_corners c_costSum c_hasCurves c_curveCount c_sharp c_allowed f_cornerAt f_froms f_sizes f_ys)) hD hS hA [0, 1, 2, 3, 5] rfl
  refine va_calli (va_runV (As := [.int x5]) (rest := [.int r49]) ⟨hx, hb, hml, hown, hts⟩ (c_M_cornerY l dC dI cI cB cJ cZ a_this a_cornerAt a_froms a_sizes a_ys a_colours a_layersOf a_areas a_xs a_used a_counts a_costs a_firsts a_manys a_fs a_px a_py a_groups a_joinF H.size n_cornerAt n_froms n_sizes n_ys c_code c_width c_height c_isTraced c_outlines c_points c_hasPolygon c_of c_corners c_costSum c_hasCurves c_curveCount c_sharp c_allowed f_cornerAt f_froms f_sizes f_ys x5 Q55 hq55) (cwV 1 hts (goodV q_878 q_880 q_p46 q_7 q_881) rfl rfl rfl (by decide +kernel) ⟨Nat.le_of_ble_eq_true rfl, Nat.le_of_ble_eq_true rfl⟩) ⟨fun a U g mk q => by obtain ⟨q0, q1, qP, qK, qD⟩ := q; exact ⟨q0, q1, qP, va_K.moved (u := U) (U := U.calling g mk a) (Vm.Alike.refl U.vm) qK, qD⟩, va_recv hK hPc (ci := 5) (q0 := 0) rfl rfl, fun U hU hW => ⟨rfl, by rw [hU], by rw [hU]; exact hPc, va_K.moved hW.alike hK, hDc.weaken (fun _ _ _ _ => trivial)⟩⟩ rfl rfl hl.1 rfl (lv_room (Nat.le_of_ble_eq_true rfl)) d_M_isNearLine_55 ⟨Nat.le_of_ble_eq_true rfl, Nat.le_of_ble_eq_true rfl⟩) hS (fun q _ h => hFc q h) hFc (fun r55 u55 t H1 locs ht hvm hw hB hz1 hk1 hS => ?_)
  cases u55
  obtain ⟨hP1, -, hD1⟩ := hB
  rw [ht] at hP1
  have h := h r55 hw
  obtain ⟨hP, hD⟩ := va_join (wr := [(a_xs, .inl (cI, n_xs, .inl f_xs))]) (w1 := (cw_M_cornerY cI a_this a_cornerAt a_froms a_sizes a_ys a_colours a_layersOf a_areas a_xs a_used a_counts a_costs a_firsts a_manys a_fs a_px a_py a_groups a_joinF n_cornerAt n_froms n_sizes n_ys c_code c_width c_height c_isTraced c_outlines c_points c_hasPolygon c_of c_corners c_costSum c_hasCurves c_curveCount c_sharp c_allowed f_cornerAt f_froms f_sizes f_ys)) hP hD [0, 1, 2, 3, 5] [4] rfl rfl (by decide) (by decide) hk1 hFc hP1 hD1
  clear hP1 hD1 hk1 hPc hDc hFc
  generalize H1 = H at hP hS ⊢
  have hP : va_P (dC, dI) vwCl (cw_M_isNearLine cI a_this a_cornerAt a_froms a_sizes a_xs a_ys a_colours a_layersOf a_areas a_used a_counts a_costs a_firsts a_manys a_fs a_px a_py a_groups a_joinF n_cornerAt n_froms n_sizes n_xs n_ys c_code c_width c_height c_isTraced c_outlines c_points c_hasPolygon c_of c_corners c_costSum c_hasCurves c_curveCount c_sharp c_allowed f_cornerAt f_froms f_sizes f_xs f_ys) H := hP.sub [1, 2, 3, 4, 0, 5] rfl
  have hD : va_D A (cw_M_isNearLine cI a_this a_cornerAt a_froms a_sizes a_xs a_ys a_colours a_layersOf a_areas a_used a_counts a_costs a_firsts a_manys a_fs a_px a_py a_groups a_joinF n_cornerAt n_froms n_sizes n_xs n_ys c_code c_width c_height c_isTraced c_outlines c_points c_hasPolygon c_of c_corners c_costSum c_hasCurves c_curveCount c_sharp c_allowed f_cornerAt f_froms f_sizes f_xs f_ys) := hD.sub [1, 2, 3, 4, 0, 5] (by decide) rfl
  refine lv_isub hx hb d_M_isNearLine_58 ?_
  refine lv_i2l hx hb d_M_isNearLine_59 rfl ?_
  refine lv_topl (fun x13_60 e_x13_60 => ?_)
  have h := h x13_60 e_x13_60
  refine lv_lstore (lv' := [(13, .long x13_60), (11, .long x11_42), (9, .long x9_24), (7, .long x7_11), (0, .ref a_this), (1, .long x1), (3, .long x3), (5, .int x5), (6, .int x6)]) hx hb d_M_isNearLine_60 hl (by decide) rfl (fun ls hl => ?_)
  refine lv_lload_n hx hb d_M_isNearLine_62 rfl (lv_at hl 5 rfl) ?_
  refine lv_lload hx hb d_M_isNearLine_63 (lv_at hl 3 rfl) ?_
  refine lv_lsub hx hb d_M_isNearLine_65 ?_
  refine lv_topl (fun x15_66 e_x15_66 => ?_)
  have h := h x15_66 e_x15_66
  refine lv_lstore (lv' := [(15, .long x15_66), (13, .long x13_60), (11, .long x11_42), (9, .long x9_24), (7, .long x7_11), (0, .ref a_this), (1, .long x1), (3, .long x3), (5, .int x5), (6, .int x6)]) hx hb d_M_isNearLine_66 hl (by decide) rfl (fun ls hl => ?_)
  refine lv_lload_n hx hb d_M_isNearLine_68 rfl (lv_at hl 7 rfl) ?_
  refine lv_lload hx hb d_M_isNearLine_69 (lv_at hl 3 rfl) ?_
  refine lv_lsub hx hb d_M_isNearLine_71 ?_
  refine lv_topl (fun x17_72 e_x17_72 => ?_)
  have h := h x17_72 e_x17_72
  refine lv_lstore (lv' := [(17, .long x17_72), (15, .long x15_66), (13, .long x13_60), (11, .long x11_42), (9, .long x9_24), (7, .long x7_11), (0, .ref a_this), (1, .long x1), (3, .long x3), (5, .int x5), (6, .int x6)]) hx hb d_M_isNearLine_72 hl (by decide) rfl (fun ls hl => ?_)
  refine lv_lload hx hb d_M_isNearLine_74 (lv_at hl 3 rfl) ?_
  refine lv_lload hx hb d_M_isNearLine_76 (lv_at hl 3 rfl) ?_
  refine lv_lmul hx hb d_M_isNearLine_78 ?_
  refine lv_lload hx hb d_M_isNearLine_79 (lv_at hl 2 rfl) ?_
  refine lv_lload hx hb d_M_isNearLine_81 (lv_at hl 2 rfl) ?_
  refine lv_lmul hx hb d_M_isNearLine_83 ?_
  refine lv_ladd hx hb d_M_isNearLine_84 ?_
  refine lv_topl (fun x19_85 e_x19_85 => ?_)
  have h := h x19_85 e_x19_85
  refine lv_lstore (lv' := [(19, .long x19_85), (17, .long x17_72), (15, .long x15_66), (13, .long x13_60), (11, .long x11_42), (9, .long x9_24), (7, .long x7_11), (0, .ref a_this), (1, .long x1), (3, .long x3), (5, .int x5), (6, .int x6)]) hx hb d_M_isNearLine_85 hl (by decide) rfl (fun ls hl => ?_)
  refine lv_lload hx hb d_M_isNearLine_87 (lv_at hl 2 rfl) ?_
  refine lv_lload hx hb d_M_isNearLine_89 (lv_at hl 4 rfl) ?_
  refine lv_lmul hx hb d_M_isNearLine_91 ?_
  refine lv_lload hx hb d_M_isNearLine_92 (lv_at hl 1 rfl) ?_
  refine lv_lload hx hb d_M_isNearLine_94 (lv_at hl 3 rfl) ?_
  refine lv_lmul hx hb d_M_isNearLine_96 ?_
  refine lv_ladd hx hb d_M_isNearLine_97 ?_
  refine lv_topl (fun x21_98 e_x21_98 => ?_)
  have h := h x21_98 e_x21_98
  refine lv_lstore (lv' := [(21, .long x21_98), (19, .long x19_85), (17, .long x17_72), (15, .long x15_66), (13, .long x13_60), (11, .long x11_42), (9, .long x9_24), (7, .long x7_11), (0, .ref a_this), (1, .long x1), (3, .long x3), (5, .int x5), (6, .int x6)]) hx hb d_M_isNearLine_98 hl (by decide) rfl (fun ls hl => ?_)
  refine lv_ldc2 (v := 512) hx hb hown (hts _ q_926) d_M_isNearLine_100 ?_
  refine lv_iload hx hb d_M_isNearLine_103 (lv_at hl 12 rfl) ?_
  refine lv_i2l hx hb d_M_isNearLine_105 rfl ?_
  refine lv_lmul hx hb d_M_isNearLine_106 ?_
  refine lv_topl (fun x23_107 e_x23_107 => ?_)
  have h := h x23_107 e_x23_107
  refine lv_lstore (lv' := [(23, .long x23_107), (21, .long x21_98), (19, .long x19_85), (17, .long x17_72), (15, .long x15_66), (13, .long x13_60), (11, .long x11_42), (9, .long x9_24), (7, .long x7_11), (0, .ref a_this), (1, .long x1), (3, .long x3), (5, .int x5), (6, .int x6)]) hx hb d_M_isNearLine_107 hl (by decide) rfl (fun ls hl => ?_)
  refine lv_lload hx hb d_M_isNearLine_109 (lv_at hl 1 rfl) ?_
  refine lv_lconst (v := 0) hx hb d_M_isNearLine_111 (by decide) ?_
  refine W.lcmp hx hb d_M_isNearLine_112 ?_
  refine lv_if_gt (tgt := 142) hx hb d_M_isNearLine_113 (by decide) (fun cc_ => ?_) (fun cc_ => ?_)
  · have h := h.1 cc_
    refine lv_lload hx hb d_M_isNearLine_142 (lv_at hl 1 rfl) ?_
    refine lv_lload hx hb d_M_isNearLine_144 (lv_at hl 2 rfl) ?_
    refine lv_ldc2 (v := 16384) hx hb hown (hts _ q_925) d_M_isNearLine_146 ?_
    refine lv_lmul hx hb d_M_isNearLine_149 ?_
    refine W.lcmp hx hb d_M_isNearLine_150 ?_
    refine lv_if_lt (tgt := 202) hx hb d_M_isNearLine_151 (by decide) (fun cc_ => ?_) (fun cc_ => ?_)
    · have h := h.1 cc_
      refine lv_lload hx hb d_M_isNearLine_202 (lv_at hl 4 rfl) ?_
      refine lv_lload hx hb d_M_isNearLine_204 (lv_at hl 5 rfl) ?_
      refine lv_lmul hx hb d_M_isNearLine_206 ?_
      refine lv_lload hx hb d_M_isNearLine_207 (lv_at hl 3 rfl) ?_
      refine lv_lload hx hb d_M_isNearLine_209 (lv_at hl 6 rfl) ?_
      refine lv_lmul hx hb d_M_isNearLine_211 ?_
      refine lv_lsub hx hb d_M_isNearLine_212 ?_
      refine lv_topl (fun x25_213 e_x25_213 => ?_)
      have h := h x25_213 e_x25_213
      refine lv_lstore (lv' := [(25, .long x25_213), (23, .long x23_107), (21, .long x21_98), (19, .long x19_85), (17, .long x17_72), (15, .long x15_66), (13, .long x13_60), (11, .long x11_42), (9, .long x9_24), (7, .long x7_11), (0, .ref a_this), (1, .long x1), (3, .long x3), (5, .int x5), (6, .int x6)]) hx hb d_M_isNearLine_213 hl (by decide) rfl (fun ls hl => ?_)
      refine lv_lload hx hb d_M_isNearLine_215 (lv_at hl 0 rfl) ?_
      refine lv_lload hx hb d_M_isNearLine_217 (lv_at hl 0 rfl) ?_
      refine lv_lmul hx hb d_M_isNearLine_219 ?_
      refine lv_lload hx hb d_M_isNearLine_220 (lv_at hl 1 rfl) ?_
      refine lv_lload hx hb d_M_isNearLine_222 (lv_at hl 1 rfl) ?_
      refine lv_lmul hx hb d_M_isNearLine_224 ?_
      refine lv_lload hx hb d_M_isNearLine_225 (lv_at hl 3 rfl) ?_
      refine lv_lmul hx hb d_M_isNearLine_227 ?_
      refine W.lcmp hx hb d_M_isNearLine_228 ?_
      refine lv_if_gt (tgt := 236) hx hb d_M_isNearLine_229 (by decide) (fun cc_ => ?_) (fun cc_ => ?_)
      · have h := h.1 cc_
        refine lv_iconst (v := 0) hx hb d_M_isNearLine_236 (by decide) ?_
        subst hQf
        exact W.zret (v := (0 : Int32)) hx hb hr (by rfl) (fun t ht hW => ⟨⟨(0 : Int32), (), rfl, h, by rw [ht]; exact hP, va_K.moved hW.alike hK, hD⟩, hS.F ht⟩) hS.2.2 d_M_isNearLine_237
      · have h := h.2 cc_
        refine lv_iconst (v := 1) hx hb d_M_isNearLine_232 (by decide) ?_
        refine lv_goto (tgt := 237) hx hb d_M_isNearLine_233 (by decide) ?_
        subst hQf
        exact W.zret (v := (1 : Int32)) hx hb hr (by rfl) (fun t ht hW => ⟨⟨(1 : Int32), (), rfl, h, by rw [ht]; exact hP, va_K.moved hW.alike hK, hD⟩, hS.F ht⟩) hS.2.2 d_M_isNearLine_237
    · have h := h.2 cc_
      refine lv_lload hx hb d_M_isNearLine_154 (lv_at hl 4 rfl) ?_
      refine lv_ldc2 (v := 16384) hx hb hown (hts _ q_925) d_M_isNearLine_156 ?_
      refine lv_lload hx hb d_M_isNearLine_159 (lv_at hl 6 rfl) ?_
      refine lv_lmul hx hb d_M_isNearLine_161 ?_
      refine lv_lsub hx hb d_M_isNearLine_162 ?_
      refine lv_topl (fun x25_163 e_x25_163 => ?_)
      have h := h x25_163 e_x25_163
      refine lv_lstore (lv' := [(25, .long x25_163), (23, .long x23_107), (21, .long x21_98), (19, .long x19_85), (17, .long x17_72), (15, .long x15_66), (13, .long x13_60), (11, .long x11_42), (9, .long x9_24), (7, .long x7_11), (0, .ref a_this), (1, .long x1), (3, .long x3), (5, .int x5), (6, .int x6)]) hx hb d_M_isNearLine_163 hl (by decide) rfl (fun ls hl => ?_)
      refine lv_lload hx hb d_M_isNearLine_165 (lv_at hl 4 rfl) ?_
      refine lv_ldc2 (v := 16384) hx hb hown (hts _ q_925) d_M_isNearLine_167 ?_
      refine lv_lload hx hb d_M_isNearLine_170 (lv_at hl 6 rfl) ?_
      refine lv_lmul hx hb d_M_isNearLine_172 ?_
      refine lv_lsub hx hb d_M_isNearLine_173 ?_
      refine lv_topl (fun x27_174 e_x27_174 => ?_)
      have h := h x27_174 e_x27_174
      refine lv_lstore (lv' := [(27, .long x27_174), (25, .long x25_163), (23, .long x23_107), (21, .long x21_98), (19, .long x19_85), (17, .long x17_72), (15, .long x15_66), (13, .long x13_60), (11, .long x11_42), (9, .long x9_24), (7, .long x7_11), (0, .ref a_this), (1, .long x1), (3, .long x3), (5, .int x5), (6, .int x6)]) hx hb d_M_isNearLine_174 hl (by decide) rfl (fun ls hl => ?_)
      refine lv_lload hx hb d_M_isNearLine_176 (lv_at hl 1 rfl) ?_
      refine lv_lload hx hb d_M_isNearLine_178 (lv_at hl 1 rfl) ?_
      refine lv_lmul hx hb d_M_isNearLine_180 ?_
      refine lv_lload hx hb d_M_isNearLine_181 (lv_at hl 0 rfl) ?_
      refine lv_lload hx hb d_M_isNearLine_183 (lv_at hl 0 rfl) ?_
      refine lv_lmul hx hb d_M_isNearLine_185 ?_
      refine lv_ladd hx hb d_M_isNearLine_186 ?_
      refine lv_lload hx hb d_M_isNearLine_187 (lv_at hl 2 rfl) ?_
      refine lv_lload hx hb d_M_isNearLine_189 (lv_at hl 2 rfl) ?_
      refine lv_lmul hx hb d_M_isNearLine_191 ?_
      refine W.lcmp hx hb d_M_isNearLine_192 ?_
      refine lv_if_gt (tgt := 200) hx hb d_M_isNearLine_193 (by decide) (fun cc_ => ?_) (fun cc_ => ?_)
      · have h := h.1 cc_
        refine lv_iconst (v := 0) hx hb d_M_isNearLine_200 (by decide) ?_
        subst hQf
        exact W.zret (v := (0 : Int32)) hx hb hr (by rfl) (fun t ht hW => ⟨⟨(0 : Int32), (), rfl, h, by rw [ht]; exact hP, va_K.moved hW.alike hK, hD⟩, hS.F ht⟩) hS.2.2 d_M_isNearLine_201
      · have h := h.2 cc_
        refine lv_iconst (v := 1) hx hb d_M_isNearLine_196 (by decide) ?_
        refine lv_goto (tgt := 201) hx hb d_M_isNearLine_197 (by decide) ?_
        subst hQf
        exact W.zret (v := (1 : Int32)) hx hb hr (by rfl) (fun t ht hW => ⟨⟨(1 : Int32), (), rfl, h, by rw [ht]; exact hP, va_K.moved hW.alike hK, hD⟩, hS.F ht⟩) hS.2.2 d_M_isNearLine_201
  · have h := h.2 cc_
    refine lv_lload hx hb d_M_isNearLine_116 (lv_at hl 4 rfl) ?_
    refine lv_lload hx hb d_M_isNearLine_118 (lv_at hl 4 rfl) ?_
    refine lv_lmul hx hb d_M_isNearLine_120 ?_
    refine lv_lload hx hb d_M_isNearLine_121 (lv_at hl 3 rfl) ?_
    refine lv_lload hx hb d_M_isNearLine_123 (lv_at hl 3 rfl) ?_
    refine lv_lmul hx hb d_M_isNearLine_125 ?_
    refine lv_ladd hx hb d_M_isNearLine_126 ?_
    refine lv_lload hx hb d_M_isNearLine_127 (lv_at hl 0 rfl) ?_
    refine lv_lload hx hb d_M_isNearLine_129 (lv_at hl 0 rfl) ?_
    refine lv_lmul hx hb d_M_isNearLine_131 ?_
    refine W.lcmp hx hb d_M_isNearLine_132 ?_
    refine lv_if_gt (tgt := 140) hx hb d_M_isNearLine_133 (by decide) (fun cc_ => ?_) (fun cc_ => ?_)
    · have h := h.1 cc_
      refine lv_iconst (v := 0) hx hb d_M_isNearLine_140 (by decide) ?_
      subst hQf
      exact W.zret (v := (0 : Int32)) hx hb hr (by rfl) (fun t ht hW => ⟨⟨(0 : Int32), (), rfl, h, by rw [ht]; exact hP, va_K.moved hW.alike hK, hD⟩, hS.F ht⟩) hS.2.2 d_M_isNearLine_141
    · have h := h.2 cc_
      refine lv_iconst (v := 1) hx hb d_M_isNearLine_136 (by decide) ?_
      refine lv_goto (tgt := 141) hx hb d_M_isNearLine_137 (by decide) ?_
      subst hQf
      exact W.zret (v := (1 : Int32)) hx hb hr (by rfl) (fun t ht hW => ⟨⟨(1 : Int32), (), rfl, h, by rw [ht]; exact hP, va_K.moved hW.alike hK, hD⟩, hS.F ht⟩) hS.2.2 d_M_isNearLine_141
def wp_M_isNear_J70 (n_px n_py n_cornerAt n_froms n_sizes n_xs n_ys : Nat) (c_of : Int32) (c_corners : Int32) (f_px : Nat → Int32) (f_py : Nat → Int32) (f_cornerAt : Nat → Int32) (f_froms : Nat → Int32) (f_sizes : Nat → Int32) (f_xs : Nat → Int32) (f_ys : Nat → Int32) (x1 : Int32) (x2 : Int32) (x5 : Int32) (x6 : Int64) (x8 : Int64) (x11 : Int32) (y0 : Int32) (back32 : (Int32 × Int32) → Prop) (post : Int32 → Unit → Prop) : Prop :=
  ∀ x11_72 : Int32, x11_72 = x11 + (1 : Int32) → back32 (y0, x11_72)
def wp_M_isNear_J65 (n_px n_py n_cornerAt n_froms n_sizes n_xs n_ys : Nat) (c_of : Int32) (c_corners : Int32) (f_px : Nat → Int32) (f_py : Nat → Int32) (f_cornerAt : Nat → Int32) (f_froms : Nat → Int32) (f_sizes : Nat → Int32) (f_xs : Nat → Int32) (f_ys : Nat → Int32) (x1 : Int32) (x2 : Int32) (x5 : Int32) (x6 : Int64) (x8 : Int64) (x11 : Int32) (back32 : (Int32 × Int32) → Prop) (post : Int32 → Unit → Prop) : Prop :=
  wp_M_isNear_J70 n_px n_py n_cornerAt n_froms n_sizes n_xs n_ys c_of c_corners f_px f_py f_cornerAt f_froms f_sizes f_xs f_ys x1 x2 x5 x6 x8 x11 (1 : Int32) back32 post
def wp_M_isNear_L32 (n_px n_py n_cornerAt n_froms n_sizes n_xs n_ys : Nat) (c_of : Int32) (c_corners : Int32) (f_px : Nat → Int32) (f_py : Nat → Int32) (f_cornerAt : Nat → Int32) (f_froms : Nat → Int32) (f_sizes : Nat → Int32) (f_xs : Nat → Int32) (f_ys : Nat → Int32) (x1 : Int32) (x2 : Int32) (x5 : Int32) (x6 : Int64) (x8 : Int64) (post : Int32 → Unit → Prop) (back32 : (Int32 × Int32) → Prop) (x10 : Int32) (x11 : Int32) : Prop :=
  (x2 ≤ x11 → (x10 = 0 ∨ x10 = 1) ∧ post x10 ()) ∧ (¬ x2 ≤ x11 → (¬ x10 = 0 → wp_M_isNear_J65 n_px n_py n_cornerAt n_froms n_sizes n_xs n_ys c_of c_corners f_px f_py f_cornerAt f_froms f_sizes f_xs f_ys x1 x2 x5 x6 x8 x11 back32 post) ∧ (x10 = 0 → ∃ Q59 : Int32 → Unit → Prop, wp_M_isNearLine n_cornerAt n_froms n_sizes n_xs n_ys c_of c_corners f_cornerAt f_froms f_sizes f_xs f_ys x6 x8 ((x1 + c_corners) + x11) x5 Q59 ∧ ∀ (r59 : Int32), Q59 r59 () → (r59 = 0 → wp_M_isNear_J70 n_px n_py n_cornerAt n_froms n_sizes n_xs n_ys c_of c_corners f_px f_py f_cornerAt f_froms f_sizes f_xs f_ys x1 x2 x5 x6 x8 x11 (0 : Int32) back32 post) ∧ (¬ r59 = 0 → wp_M_isNear_J65 n_px n_py n_cornerAt n_froms n_sizes n_xs n_ys c_of c_corners f_px f_py f_cornerAt f_froms f_sizes f_xs f_ys x1 x2 x5 x6 x8 x11 back32 post)))
def wp_M_isNear (n_px n_py n_cornerAt n_froms n_sizes n_xs n_ys : Nat) (c_of : Int32) (c_corners : Int32) (f_px : Nat → Int32) (f_py : Nat → Int32) (f_cornerAt : Nat → Int32) (f_froms : Nat → Int32) (f_sizes : Nat → Int32) (f_xs : Nat → Int32) (f_ys : Nat → Int32) (x1 : Int32) (x2 : Int32) (x3 : Int32) (x4 : Int32) (x5 : Int32) (post : Int32 → Unit → Prop) : Prop :=
  ∃ Q7 : Int32 → Unit → Prop, wp_M_along n_px f_px x3 x4 Q7 ∧ ∀ (r7 : Int32), Q7 r7 () → ∀ x6_11 : Int64, x6_11 = (r7.toInt64) → ∃ Q20 : Int32 → Unit → Prop, wp_M_along n_py f_py x3 x4 Q20 ∧ ∀ (r20 : Int32), Q20 r20 () → ∀ x8_24 : Int64, x8_24 = (r20.toInt64) → lpW (fun b z => wp_M_isNear_L32 n_px n_py n_cornerAt n_froms n_sizes n_xs n_ys c_of c_corners f_px f_py f_cornerAt f_froms f_sizes f_xs f_ys x1 x2 x5 x6_11 x8_24 post b z.1 z.2) ((0 : Int32), (-1 : Int32))
abbrev cw_M_isNear (cI : ClassId) (a_this a_px a_py a_cornerAt a_froms a_sizes a_xs a_ys a_colours a_layersOf a_areas a_used a_counts a_costs a_firsts a_manys a_fs a_groups a_joinF : Nat) (n_px n_py n_cornerAt n_froms n_sizes n_xs n_ys : Nat) (c_code : Int32) (c_width : Int32) (c_height : Int32) (c_isTraced : Int32) (c_outlines : Int32) (c_points : Int32) (c_hasPolygon : Int32) (c_of : Int32) (c_corners : Int32) (c_costSum : Int32) (c_hasCurves : Int32) (c_curveCount : Int32) (c_sharp : Int32) (c_allowed : Int32) (f_px : Nat → Int32) (f_py : Nat → Int32) (f_cornerAt : Nat → Int32) (f_froms : Nat → Int32) (f_sizes : Nat → Int32) (f_xs : Nat → Int32) (f_ys : Nat → Int32) : va_W := [(a_this, .inr (5, [.int c_code, .int c_width, .int c_height, .ref a_colours, .int c_isTraced, .int c_outlines, .ref a_froms, .ref a_sizes, .ref a_layersOf, .ref a_areas, .int c_points, .ref a_xs, .ref a_ys, .ref a_used, .int c_hasPolygon, .int c_of, .int c_corners, .int c_costSum, .ref a_cornerAt, .ref a_counts, .ref a_costs, .int c_hasCurves, .int c_curveCount, .ref a_firsts, .ref a_manys, .ref a_fs, .int c_sharp, .int c_allowed, .ref a_px, .ref a_py, .ref a_groups, .ref a_joinF])), (a_px, .inl (cI, n_px, .inl f_px)), (a_py, .inl (cI, n_py, .inl f_py)), (a_cornerAt, .inl (cI, n_cornerAt, .inl f_cornerAt)), (a_froms, .inl (cI, n_froms, .inl f_froms)), (a_sizes, .inl (cI, n_sizes, .inl f_sizes)), (a_xs, .inl (cI, n_xs, .inl f_xs)), (a_ys, .inl (cI, n_ys, .inl f_ys))]
abbrev qq_M_isNear (dC : Nat → ClassId) (dI : Nat → Nat → Nat) (cI cB cJ cZ : ClassId) (a_this a_px a_py a_cornerAt a_froms a_sizes a_xs a_ys a_colours a_layersOf a_areas a_used a_counts a_costs a_firsts a_manys a_fs a_groups a_joinF : Nat) (n_px n_py n_cornerAt n_froms n_sizes n_xs n_ys : Nat) (c_code : Int32) (c_width : Int32) (c_height : Int32) (c_isTraced : Int32) (c_outlines : Int32) (c_points : Int32) (c_hasPolygon : Int32) (c_of : Int32) (c_corners : Int32) (c_costSum : Int32) (c_hasCurves : Int32) (c_curveCount : Int32) (c_sharp : Int32) (c_allowed : Int32) (f_px : Nat → Int32) (f_py : Nat → Int32) (f_cornerAt : Nat → Int32) (f_froms : Nat → Int32) (f_sizes : Nat → Int32) (f_xs : Nat → Int32) (f_ys : Nat → Int32) (A : Nat → Prop) (post : Int32 → Unit → Prop) : Array Value → State → Outcome → State → Prop := va_Qi post (fun _ t => va_P (dC, dI) vwCl (cw_M_isNear cI a_this a_px a_py a_cornerAt a_froms a_sizes a_xs a_ys a_colours a_layersOf a_areas a_used a_counts a_costs a_firsts a_manys a_fs a_groups a_joinF n_px n_py n_cornerAt n_froms n_sizes n_xs n_ys c_code c_width c_height c_isTraced c_outlines c_points c_hasPolygon c_of c_corners c_costSum c_hasCurves c_curveCount c_sharp c_allowed f_px f_py f_cornerAt f_froms f_sizes f_xs f_ys) t.heap ∧ va_K (dC, dI) vwCl [(cI, .int), (cB, .byte), (cJ, .long), (cZ, .boolean)] t ∧ va_D A (cw_M_isNear cI a_this a_px a_py a_cornerAt a_froms a_sizes a_xs a_ys a_colours a_layersOf a_areas a_used a_counts a_costs a_firsts a_manys a_fs a_groups a_joinF n_px n_py n_cornerAt n_froms n_sizes n_xs n_ys c_code c_width c_height c_isTraced c_outlines c_points c_hasPolygon c_of c_corners c_costSum c_hasCurves c_curveCount c_sharp c_allowed f_px f_py f_cornerAt f_froms f_sizes f_xs f_ys)) A
set_option maxHeartbeats 4000000 in
set_option maxRecDepth 100000 in
theorem c_M_isNear (l : Launch) (dC : Nat → ClassId) (dI : Nat → Nat → Nat) (cI cB cJ cZ : ClassId) (a_this a_px a_py a_cornerAt a_froms a_sizes a_xs a_ys a_colours a_layersOf a_areas a_used a_counts a_costs a_firsts a_manys a_fs a_groups a_joinF : Nat) (sz : Nat) (n_px n_py n_cornerAt n_froms n_sizes n_xs n_ys : Nat) (c_code : Int32) (c_width : Int32) (c_height : Int32) (c_isTraced : Int32) (c_outlines : Int32) (c_points : Int32) (c_hasPolygon : Int32) (c_of : Int32) (c_corners : Int32) (c_costSum : Int32) (c_hasCurves : Int32) (c_curveCount : Int32) (c_sharp : Int32) (c_allowed : Int32) (f_px : Nat → Int32) (f_py : Nat → Int32) (f_cornerAt : Nat → Int32) (f_froms : Nat → Int32) (f_sizes : Nat → Int32) (f_xs : Nat → Int32) (f_ys : Nat → Int32) (x1 : Int32) (x2 : Int32) (x3 : Int32) (x4 : Int32) (x5 : Int32) (post : Int32 → Unit → Prop) (h : wp_M_isNear n_px n_py n_cornerAt n_froms n_sizes n_xs n_ys c_of c_corners f_px f_py f_cornerAt f_froms f_sizes f_xs f_ys x1 x2 x3 x4 x5 post) : Met l y_M_isNear w_M_isNear ({ frames := 3, cells := 0, slots := 0, locals := 91 }) (va_Pc [.ref a_this, .int x1, .int x2, .int x3, .int x4, .int x5] (fun U => U.heap.size = sz ∧ va_P (dC, dI) vwCl (cw_M_isNear cI a_this a_px a_py a_cornerAt a_froms a_sizes a_xs a_ys a_colours a_layersOf a_areas a_used a_counts a_costs a_firsts a_manys a_fs a_groups a_joinF n_px n_py n_cornerAt n_froms n_sizes n_xs n_ys c_code c_width c_height c_isTraced c_outlines c_points c_hasPolygon c_of c_corners c_costSum c_hasCurves c_curveCount c_sharp c_allowed f_px f_py f_cornerAt f_froms f_sizes f_xs f_ys) U.heap ∧ va_K (dC, dI) vwCl [(cI, .int), (cB, .byte), (cJ, .long), (cZ, .boolean)] U ∧ va_D (fun _ => True) (cw_M_isNear cI a_this a_px a_py a_cornerAt a_froms a_sizes a_xs a_ys a_colours a_layersOf a_areas a_used a_counts a_costs a_firsts a_manys a_fs a_groups a_joinF n_px n_py n_cornerAt n_froms n_sizes n_xs n_ys c_code c_width c_height c_isTraced c_outlines c_points c_hasPolygon c_of c_corners c_costSum c_hasCurves c_curveCount c_sharp c_allowed f_px f_py f_cornerAt f_froms f_sizes f_xs f_ys))) (qq_M_isNear dC dI cI cB cJ cZ a_this a_px a_py a_cornerAt a_froms a_sizes a_xs a_ys a_colours a_layersOf a_areas a_used a_counts a_costs a_firsts a_manys a_fs a_groups a_joinF n_px n_py n_cornerAt n_froms n_sizes n_xs n_ys c_code c_width c_height c_isTraced c_outlines c_points c_hasPolygon c_of c_corners c_costSum c_hasCurves c_curveCount c_sharp c_allowed f_px f_py f_cornerAt f_froms f_sizes f_xs f_ys (va_A (cw_M_isNear cI a_this a_px a_py a_cornerAt a_froms a_sizes a_xs a_ys a_colours a_layersOf a_areas a_used a_counts a_costs a_firsts a_manys a_fs a_groups a_joinF n_px n_py n_cornerAt n_froms n_sizes n_xs n_ys c_code c_width c_height c_isTraced c_outlines c_points c_hasPolygon c_of c_corners c_costSum c_hasCurves c_curveCount c_sharp c_allowed f_px f_py f_cornerAt f_froms f_sizes f_xs f_ys) sz) post) 0 0 (va_A (cw_M_isNear cI a_this a_px a_py a_cornerAt a_froms a_sizes a_xs a_ys a_colours a_layersOf a_areas a_used a_counts a_costs a_firsts a_manys a_fs a_groups a_joinF n_px n_py n_cornerAt n_froms n_sizes n_xs n_ys c_code c_width c_height c_isTraced c_outlines c_points c_hasPolygon c_of c_corners c_costSum c_hasCurves c_curveCount c_sharp c_allowed f_px f_py f_cornerAt f_froms f_sizes f_xs f_ys) sz) := by
  refine Met.ofW (cc := b_M_isNear) (maxL := 12) (ret := (some .boolean)) (by decide +kernel) rfl ?_
  intro p e s m args below meth c s₁ B hml hv
  obtain ⟨rfl, hsz, hP, hK, hD0⟩ := hv
  have hx := B.exec
  have hb := B.bytes
  have hr := B.returns
  have hts : ∀ w ∈ allW, w.before _ s = true := fun w hw => atoms_spec (ws := w_M_isNear) B.pre w (List.mem_cons_of_mem _ hw)
  have hown : s.vm.findClass R_M = some m.cls := findClass_of_methodNamed B.named
  have hlocks := B.notSynchronized
  subst hsz
  have hD := hD0.self (sz := s.heap.size)
  generalize hAe : va_A (cw_M_isNear cI a_this a_px a_py a_cornerAt a_froms a_sizes a_xs a_ys a_colours a_layersOf a_areas a_used a_counts a_costs a_firsts a_manys a_fs a_groups a_joinF n_px n_py n_cornerAt n_froms n_sizes n_xs n_ys c_code c_width c_height c_isTraced c_outlines c_points c_hasPolygon c_of c_corners c_costSum c_hasCurves c_curveCount c_sharp c_allowed f_px f_py f_cornerAt f_froms f_sizes f_xs f_ys) s.heap.size = A at hD ⊢
  have hA : ∀ q : Nat, s.heap.size ≤ q → A q := fun q h => by rw [← hAe]; exact Or.inr h
  have hS : va_S A s.heap s.heap [] := va_S.rf
  clear hD0
  generalize hQf : MQ below (qq_M_isNear dC dI cI cB cJ cZ a_this a_px a_py a_cornerAt a_froms a_sizes a_xs a_ys a_colours a_layersOf a_areas a_used a_counts a_costs a_firsts a_manys a_fs a_groups a_joinF n_px n_py n_cornerAt n_froms n_sizes n_xs n_ys c_code c_width c_height c_isTraced c_outlines c_points c_hasPolygon c_of c_corners c_costSum c_hasCurves c_curveCount c_sharp c_allowed f_px f_py f_cornerAt f_froms f_sizes f_xs f_ys A post) ([.ref a_this, .int x1, .int x2, .int x3, .int x4, .int x5] : List Value).toArray s 0 0 A = Qf
  have hl := lv_entry ([.ref a_this, .int x1, .int x2, .int x3, .int x4, .int x5]) (n := 12) (Nat.le_of_ble_eq_true rfl)
  rw [lg_entry_eq]
  generalize (lg_sl ([.ref a_this, .int x1, .int x2, .int x3, .int x4, .int x5]) ++ List.replicate (12 - (lg_sl ([.ref a_this, .int x1, .int x2, .int x3, .int x4, .int x5])).length) Slot.unset).toArray = ls at hl ⊢
  have hl : lv_has ls 12 [(0, .ref a_this), (1, .int x1), (2, .int x2), (3, .int x3), (4, .int x4), (5, .int x5)] := hl
  unfold wp_M_isNear at h
  refine lv_aload_n hx hb d_M_isNear_0 rfl (lv_at hl 0 rfl) ?_
  refine va_get (D := (dC, dI)) (ci := 5) (v := .ref a_px) (C := R_M) (T := F_M) (N := 32) hx hb hts i_M_in hown hK hP 0 rfl rfl 28 (by decide) (hts _ q_689) (fun _ h9 => h9) rfl d_M_isNear_1 ?_
  refine lv_iload_n hx hb d_M_isNear_4 rfl (lv_at hl 3 rfl) ?_
  refine lv_iload hx hb d_M_isNear_5 (lv_at hl 4 rfl) ?_
  obtain ⟨Q7, hq7, h⟩ := h
  have hPc := hP.sub (ws' := (cw_M_along cI a_px n_px f_px)) [1] rfl
  have hDc := hD.sub (ws' := (cw_M_along cI a_px n_px f_px)) [1] (by decide) rfl
  have hFc := va_free (wc := (cw_M_along cI a_px n_px f_px)) hD hS hA [1] rfl
  refine va_calli (va_runS (As := [.ref a_px, .int x3, .int x4]) (rest := []) ⟨hx, hb, hml, hown, hts⟩ (c_M_along l dC dI cI cB cJ cZ a_px s.heap.size n_px f_px x3 x4 Q7 hq7) (va_cwS 3 hts (goodS q_918 q_919 q_7 q_920) rfl rfl rfl (by decide +kernel) ⟨Nat.le_of_ble_eq_true rfl, Nat.le_of_ble_eq_true rfl⟩) ⟨fun a U g mk q => by obtain ⟨q0, q1, qP, qK, qD⟩ := q; exact ⟨q0, q1, qP, va_K.moved (u := U) (U := U.calling g mk a) (Vm.Alike.refl U.vm) qK, qD⟩, fun U hU hW => ⟨rfl, by rw [hU], by rw [hU]; exact hPc, va_K.moved hW.alike hK, hDc.weaken (fun _ _ _ _ => trivial)⟩⟩ rfl rfl hl.1 rfl (lv_room (Nat.le_of_ble_eq_true rfl)) d_M_isNear_7 ⟨Nat.le_of_ble_eq_true rfl, Nat.le_of_ble_eq_true rfl⟩) hS (fun q _ h => hFc q h) hFc (fun r7 u7 t H1 locs ht hvm hw hB hz1 hk1 hS => ?_)
  cases u7
  obtain ⟨hP1, -, hD1⟩ := hB
  rw [ht] at hP1
  have h := h r7 hw
  obtain ⟨hP, hD⟩ := va_join (wr := [(a_this, .inr (5, [.int c_code, .int c_width, .int c_height, .ref a_colours, .int c_isTraced, .int c_outlines, .ref a_froms, .ref a_sizes, .ref a_layersOf, .ref a_areas, .int c_points, .ref a_xs, .ref a_ys, .ref a_used, .int c_hasPolygon, .int c_of, .int c_corners, .int c_costSum, .ref a_cornerAt, .ref a_counts, .ref a_costs, .int c_hasCurves, .int c_curveCount, .ref a_firsts, .ref a_manys, .ref a_fs, .int c_sharp, .int c_allowed, .ref a_px, .ref a_py, .ref a_groups, .ref a_joinF])), (a_py, .inl (cI, n_py, .inl f_py)), (a_cornerAt, .inl (cI, n_cornerAt, .inl f_cornerAt)), (a_froms, .inl (cI, n_froms, .inl f_froms)), (a_sizes, .inl (cI, n_sizes, .inl f_sizes)), (a_xs, .inl (cI, n_xs, .inl f_xs)), (a_ys, .inl (cI, n_ys, .inl f_ys))]) (w1 := (cw_M_along cI a_px n_px f_px)) hP hD [1] [0, 2, 3, 4, 5, 6, 7] rfl rfl (by decide) (by decide) hk1 hFc hP1 hD1
  clear hP1 hD1 hk1 hPc hDc hFc
  generalize H1 = H at hP hS ⊢
  have hP : va_P (dC, dI) vwCl (cw_M_isNear cI a_this a_px a_py a_cornerAt a_froms a_sizes a_xs a_ys a_colours a_layersOf a_areas a_used a_counts a_costs a_firsts a_manys a_fs a_groups a_joinF n_px n_py n_cornerAt n_froms n_sizes n_xs n_ys c_code c_width c_height c_isTraced c_outlines c_points c_hasPolygon c_of c_corners c_costSum c_hasCurves c_curveCount c_sharp c_allowed f_px f_py f_cornerAt f_froms f_sizes f_xs f_ys) H := hP.sub [0, 7, 1, 2, 3, 4, 5, 6] rfl
  have hD : va_D A (cw_M_isNear cI a_this a_px a_py a_cornerAt a_froms a_sizes a_xs a_ys a_colours a_layersOf a_areas a_used a_counts a_costs a_firsts a_manys a_fs a_groups a_joinF n_px n_py n_cornerAt n_froms n_sizes n_xs n_ys c_code c_width c_height c_isTraced c_outlines c_points c_hasPolygon c_of c_corners c_costSum c_hasCurves c_curveCount c_sharp c_allowed f_px f_py f_cornerAt f_froms f_sizes f_xs f_ys) := hD.sub [0, 7, 1, 2, 3, 4, 5, 6] (by decide) rfl
  refine lv_i2l hx hb d_M_isNear_10 rfl ?_
  refine lv_topl (fun x6_11 e_x6_11 => ?_)
  have h := h x6_11 e_x6_11
  refine lv_lstore (lv' := [(6, .long x6_11), (0, .ref a_this), (1, .int x1), (2, .int x2), (3, .int x3), (4, .int x4), (5, .int x5)]) hx hb d_M_isNear_11 hl (by decide) rfl (fun ls hl => ?_)
  refine lv_aload_n hx hb d_M_isNear_13 rfl (lv_at hl 1 rfl) ?_
  refine va_get (D := (dC, dI)) (ci := 5) (v := .ref a_py) (C := R_M) (T := F_M) (N := 32) hx hb hts i_M_in hown hK hP 0 rfl rfl 29 (by decide) (hts _ q_690) (fun _ h9 => h9) rfl d_M_isNear_14 ?_
  refine lv_iload_n hx hb d_M_isNear_17 rfl (lv_at hl 4 rfl) ?_
  refine lv_iload hx hb d_M_isNear_18 (lv_at hl 5 rfl) ?_
  obtain ⟨Q20, hq20, h⟩ := h
  have hPc := hP.sub (ws' := (cw_M_along cI a_py n_py f_py)) [2] rfl
  have hDc := hD.sub (ws' := (cw_M_along cI a_py n_py f_py)) [2] (by decide) rfl
  have hFc := va_free (wc := (cw_M_along cI a_py n_py f_py)) hD hS hA [2] rfl
  refine va_calli (va_runS (As := [.ref a_py, .int x3, .int x4]) (rest := []) ⟨hx, hb, hml, hown, hts⟩ (c_M_along l dC dI cI cB cJ cZ a_py H.size n_py f_py x3 x4 Q20 hq20) (va_cwS 3 hts (goodS q_918 q_919 q_7 q_920) rfl rfl rfl (by decide +kernel) ⟨Nat.le_of_ble_eq_true rfl, Nat.le_of_ble_eq_true rfl⟩) ⟨fun a U g mk q => by obtain ⟨q0, q1, qP, qK, qD⟩ := q; exact ⟨q0, q1, qP, va_K.moved (u := U) (U := U.calling g mk a) (Vm.Alike.refl U.vm) qK, qD⟩, fun U hU hW => ⟨rfl, by rw [hU], by rw [hU]; exact hPc, va_K.moved hW.alike hK, hDc.weaken (fun _ _ _ _ => trivial)⟩⟩ rfl rfl hl.1 rfl (lv_room (Nat.le_of_ble_eq_true rfl)) d_M_isNear_20 ⟨Nat.le_of_ble_eq_true rfl, Nat.le_of_ble_eq_true rfl⟩) hS (fun q _ h => hFc q h) hFc (fun r20 u20 t H1 locs ht hvm hw hB hz1 hk1 hS => ?_)
  cases u20
  obtain ⟨hP1, -, hD1⟩ := hB
  rw [ht] at hP1
  have h := h r20 hw
  obtain ⟨hP, hD⟩ := va_join (wr := [(a_this, .inr (5, [.int c_code, .int c_width, .int c_height, .ref a_colours, .int c_isTraced, .int c_outlines, .ref a_froms, .ref a_sizes, .ref a_layersOf, .ref a_areas, .int c_points, .ref a_xs, .ref a_ys, .ref a_used, .int c_hasPolygon, .int c_of, .int c_corners, .int c_costSum, .ref a_cornerAt, .ref a_counts, .ref a_costs, .int c_hasCurves, .int c_curveCount, .ref a_firsts, .ref a_manys, .ref a_fs, .int c_sharp, .int c_allowed, .ref a_px, .ref a_py, .ref a_groups, .ref a_joinF])), (a_px, .inl (cI, n_px, .inl f_px)), (a_cornerAt, .inl (cI, n_cornerAt, .inl f_cornerAt)), (a_froms, .inl (cI, n_froms, .inl f_froms)), (a_sizes, .inl (cI, n_sizes, .inl f_sizes)), (a_xs, .inl (cI, n_xs, .inl f_xs)), (a_ys, .inl (cI, n_ys, .inl f_ys))]) (w1 := (cw_M_along cI a_py n_py f_py)) hP hD [2] [0, 1, 3, 4, 5, 6, 7] rfl rfl (by decide) (by decide) hk1 hFc hP1 hD1
  clear hP1 hD1 hk1 hPc hDc hFc
  generalize H1 = H at hP hS ⊢
  have hP : va_P (dC, dI) vwCl (cw_M_isNear cI a_this a_px a_py a_cornerAt a_froms a_sizes a_xs a_ys a_colours a_layersOf a_areas a_used a_counts a_costs a_firsts a_manys a_fs a_groups a_joinF n_px n_py n_cornerAt n_froms n_sizes n_xs n_ys c_code c_width c_height c_isTraced c_outlines c_points c_hasPolygon c_of c_corners c_costSum c_hasCurves c_curveCount c_sharp c_allowed f_px f_py f_cornerAt f_froms f_sizes f_xs f_ys) H := hP.sub [0, 1, 7, 2, 3, 4, 5, 6] rfl
  have hD : va_D A (cw_M_isNear cI a_this a_px a_py a_cornerAt a_froms a_sizes a_xs a_ys a_colours a_layersOf a_areas a_used a_counts a_costs a_firsts a_manys a_fs a_groups a_joinF n_px n_py n_cornerAt n_froms n_sizes n_xs n_ys c_code c_width c_height c_isTraced c_outlines c_points c_hasPolygon c_of c_corners c_costSum c_hasCurves c_curveCount c_sharp c_allowed f_px f_py f_cornerAt f_froms f_sizes f_xs f_ys) := hD.sub [0, 1, 7, 2, 3, 4, 5, 6] (by decide) rfl
  refine lv_i2l hx hb d_M_isNear_23 rfl ?_
  refine lv_topl (fun x8_24 e_x8_24 => ?_)
  have h := h x8_24 e_x8_24
  refine lv_lstore (lv' := [(8, .long x8_24), (6, .long x6_11), (0, .ref a_this), (1, .int x1), (2, .int x2), (3, .int x3), (4, .int x4), (5, .int x5)]) hx hb d_M_isNear_24 hl (by decide) rfl (fun ls hl => ?_)
  refine lv_iconst (v := 0) hx hb d_M_isNear_26 (by decide) ?_
  refine lv_istore (lv' := [(10, .int (0 : Int32)), (8, .long x8_24), (6, .long x6_11), (0, .ref a_this), (1, .int x1), (2, .int x2), (3, .int x3), (4, .int x4), (5, .int x5)]) hx hb d_M_isNear_27 hl (by decide) rfl (fun ls hl => ?_)
  refine lv_iconst (v := -1) hx hb d_M_isNear_29 (by decide) ?_
  refine lv_istore (lv' := [(11, .int (-1 : Int32)), (10, .int (0 : Int32)), (8, .long x8_24), (6, .long x6_11), (0, .ref a_this), (1, .int x1), (2, .int x2), (3, .int x3), (4, .int x4), (5, .int x5)]) hx hb d_M_isNear_30 hl (by decide) rfl (fun ls hl => ?_)
  refine lpW_ind (Wp := fun z => ∀ (H : Heap) (locs : List Loc) (ls : Array Slot), va_P (dC, dI) vwCl (cw_M_isNear cI a_this a_px a_py a_cornerAt a_froms a_sizes a_xs a_ys a_colours a_layersOf a_areas a_used a_counts a_costs a_firsts a_manys a_fs a_groups a_joinF n_px n_py n_cornerAt n_froms n_sizes n_xs n_ys c_code c_width c_height c_isTraced c_outlines c_points c_hasPolygon c_of c_corners c_costSum c_hasCurves c_curveCount c_sharp c_allowed f_px f_py f_cornerAt f_froms f_sizes f_xs f_ys) H → va_D A (cw_M_isNear cI a_this a_px a_py a_cornerAt a_froms a_sizes a_xs a_ys a_colours a_layersOf a_areas a_used a_counts a_costs a_firsts a_manys a_fs a_groups a_joinF n_px n_py n_cornerAt n_froms n_sizes n_xs n_ys c_code c_width c_height c_isTraced c_outlines c_points c_hasPolygon c_of c_corners c_costSum c_hasCurves c_curveCount c_sharp c_allowed f_px f_py f_cornerAt f_froms f_sizes f_xs f_ys) → va_S A s.heap H locs → lv_has ls 12 [(0, .ref a_this), (1, .int x1), (2, .int x2), (5, .int x5), (6, .long x6_11), (8, .long x8_24), (10, .int z.1), (11, .int z.2)] → W p l e (headSpec w_M_isNear ({ frames := 3, cells := 0, slots := 0, locals := 91 })).room s m ([.ref a_this, .int x1, .int x2, .int x3, .int x4, .int x5] : List Value).toArray below meth c H locs 0 0 Qf (F0 m 32 ls [])) h ?_ _ _ _ hP hD hS (lv_sub hl [4, 5, 6, 9, 3, 2, 1, 0] rfl)
  rintro ⟨x10_l32, x11_l32⟩ back32 h hb32 H locs ls hP hD hS hl
  have h : wp_M_isNear_L32 n_px n_py n_cornerAt n_froms n_sizes n_xs n_ys c_of c_corners f_px f_py f_cornerAt f_froms f_sizes f_xs f_ys x1 x2 x5 x6_11 x8_24 post back32 x10_l32 x11_l32 := h
  have hP : va_P (dC, dI) vwCl (cw_M_isNear cI a_this a_px a_py a_cornerAt a_froms a_sizes a_xs a_ys a_colours a_layersOf a_areas a_used a_counts a_costs a_firsts a_manys a_fs a_groups a_joinF n_px n_py n_cornerAt n_froms n_sizes n_xs n_ys c_code c_width c_height c_isTraced c_outlines c_points c_hasPolygon c_of c_corners c_costSum c_hasCurves c_curveCount c_sharp c_allowed f_px f_py f_cornerAt f_froms f_sizes f_xs f_ys) H := hP
  have hD : va_D A (cw_M_isNear cI a_this a_px a_py a_cornerAt a_froms a_sizes a_xs a_ys a_colours a_layersOf a_areas a_used a_counts a_costs a_firsts a_manys a_fs a_groups a_joinF n_px n_py n_cornerAt n_froms n_sizes n_xs n_ys c_code c_width c_height c_isTraced c_outlines c_points c_hasPolygon c_of c_corners c_costSum c_hasCurves c_curveCount c_sharp c_allowed f_px f_py f_cornerAt f_froms f_sizes f_xs f_ys) := hD
  have hl : lv_has ls 12 [(0, .ref a_this), (1, .int x1), (2, .int x2), (5, .int x5), (6, .long x6_11), (8, .long x8_24), (10, .int x10_l32), (11, .int x11_l32)] := hl
  unfold wp_M_isNear_L32 at h
  have J70 : ∀ (x11_j70 : Int32) (y0_j70 : Int32) (H : Heap) (locs : List Loc) (ls : Array Slot), wp_M_isNear_J70 n_px n_py n_cornerAt n_froms n_sizes n_xs n_ys c_of c_corners f_px f_py f_cornerAt f_froms f_sizes f_xs f_ys x1 x2 x5 x6_11 x8_24 x11_j70 y0_j70 back32 post → va_P (dC, dI) vwCl (cw_M_isNear cI a_this a_px a_py a_cornerAt a_froms a_sizes a_xs a_ys a_colours a_layersOf a_areas a_used a_counts a_costs a_firsts a_manys a_fs a_groups a_joinF n_px n_py n_cornerAt n_froms n_sizes n_xs n_ys c_code c_width c_height c_isTraced c_outlines c_points c_hasPolygon c_of c_corners c_costSum c_hasCurves c_curveCount c_sharp c_allowed f_px f_py f_cornerAt f_froms f_sizes f_xs f_ys) H → va_D A (cw_M_isNear cI a_this a_px a_py a_cornerAt a_froms a_sizes a_xs a_ys a_colours a_layersOf a_areas a_used a_counts a_costs a_firsts a_manys a_fs a_groups a_joinF n_px n_py n_cornerAt n_froms n_sizes n_xs n_ys c_code c_width c_height c_isTraced c_outlines c_points c_hasPolygon c_of c_corners c_costSum c_hasCurves c_curveCount c_sharp c_allowed f_px f_py f_cornerAt f_froms f_sizes f_xs f_ys) → va_S A s.heap H locs → lv_has ls 12 [(0, .ref a_this), (1, .int x1), (2, .int x2), (5, .int x5), (6, .long x6_11), (8, .long x8_24), (11, .int x11_j70)] → W p l e (headSpec w_M_isNear ({ frames := 3, cells := 0, slots := 0, locals := 91 })).room s m ([.ref a_this, .int x1, .int x2, .int x3, .int x4, .int x5] : List Value).toArray below meth c H locs 0 0 Qf (F0 m 70 ls [.int y0_j70]) := by
    intro x11_j70 y0_j70 H locs ls h hP hD hS hl
    unfold wp_M_isNear_J70 at h
    refine lv_istore (lv' := [(10, .int y0_j70), (0, .ref a_this), (1, .int x1), (2, .int x2), (5, .int x5), (6, .long x6_11), (8, .long x8_24), (11, .int x11_j70)]) hx hb d_M_isNear_70 hl (by decide) rfl (fun ls hl => ?_)
    obtain ⟨x11_72, e_x11_72⟩ : ∃ y : Int32, y = x11_j70 + (1 : Int32) := ⟨_, rfl⟩
    have h := h x11_72 e_x11_72
    refine lv_iinc (v := x11_72) (lv' := [(11, .int x11_72), (10, .int y0_j70), (0, .ref a_this), (1, .int x1), (2, .int x2), (5, .int x5), (6, .long x6_11), (8, .long x8_24)]) hx hb d_M_isNear_72 hl (k := 7) rfl (by rw [e_x11_72]; rfl) (by decide) rfl (fun ls hl => ?_)
    refine lv_goto (tgt := 32) hx hb d_M_isNear_75 (by decide) ?_
    exact hb32 _ h _ _ _ hP hD hS (lv_sub hl [2, 3, 4, 5, 6, 7, 1, 0] rfl)
  have J65 : ∀ (x11_j65 : Int32) (H : Heap) (locs : List Loc) (ls : Array Slot), wp_M_isNear_J65 n_px n_py n_cornerAt n_froms n_sizes n_xs n_ys c_of c_corners f_px f_py f_cornerAt f_froms f_sizes f_xs f_ys x1 x2 x5 x6_11 x8_24 x11_j65 back32 post → va_P (dC, dI) vwCl (cw_M_isNear cI a_this a_px a_py a_cornerAt a_froms a_sizes a_xs a_ys a_colours a_layersOf a_areas a_used a_counts a_costs a_firsts a_manys a_fs a_groups a_joinF n_px n_py n_cornerAt n_froms n_sizes n_xs n_ys c_code c_width c_height c_isTraced c_outlines c_points c_hasPolygon c_of c_corners c_costSum c_hasCurves c_curveCount c_sharp c_allowed f_px f_py f_cornerAt f_froms f_sizes f_xs f_ys) H → va_D A (cw_M_isNear cI a_this a_px a_py a_cornerAt a_froms a_sizes a_xs a_ys a_colours a_layersOf a_areas a_used a_counts a_costs a_firsts a_manys a_fs a_groups a_joinF n_px n_py n_cornerAt n_froms n_sizes n_xs n_ys c_code c_width c_height c_isTraced c_outlines c_points c_hasPolygon c_of c_corners c_costSum c_hasCurves c_curveCount c_sharp c_allowed f_px f_py f_cornerAt f_froms f_sizes f_xs f_ys) → va_S A s.heap H locs → lv_has ls 12 [(0, .ref a_this), (1, .int x1), (2, .int x2), (5, .int x5), (6, .long x6_11), (8, .long x8_24), (11, .int x11_j65)] → W p l e (headSpec w_M_isNear ({ frames := 3, cells := 0, slots := 0, locals := 91 })).room s m ([.ref a_this, .int x1, .int x2, .int x3, .int x4, .int x5] : List Value).toArray below meth c H locs 0 0 Qf (F0 m 65 ls []) := by
    intro x11_j65 H locs ls h hP hD hS hl
    unfold wp_M_isNear_J65 at h
    refine lv_iconst (v := 1) hx hb d_M_isNear_65 (by decide) ?_
    refine lv_goto (tgt := 70) hx hb d_M_isNear_66 (by decide) ?_
    exact J70 x11_j65 (1 : Int32) _ _ _ h hP hD hS (lv_sub hl [0, 1, 2, 3, 4, 5, 6] rfl)
  refine lv_iload hx hb d_M_isNear_32 (lv_at hl 7 rfl) ?_
  refine lv_iload_n hx hb d_M_isNear_34 rfl (lv_at hl 2 rfl) ?_
  refine lv_icmp_ge (tgt := 78) hx hb d_M_isNear_35 (by decide) (fun cc_ => ?_) (fun cc_ => ?_)
  · have h := h.1 cc_
    refine lv_iload hx hb d_M_isNear_78 (lv_at hl 6 rfl) ?_
    obtain ⟨hz1, h⟩ := h
    subst hQf
    exact W.zret (v := x10_l32) hx hb hr (nz01 hz1) (fun t ht hW => ⟨⟨x10_l32, (), rfl, h, by rw [ht]; exact hP, va_K.moved hW.alike hK, hD⟩, hS.F ht⟩) hS.2.2 d_M_isNear_80
  · have h := h.2 cc_
    refine lv_iload hx hb d_M_isNear_38 (lv_at hl 6 rfl) ?_
    refine lv_if_ne (tgt := 65) hx hb d_M_isNear_40 (by decide) (fun cc_ => ?_) (fun cc_ => ?_)
    · have h := h.1 cc_
      exact J65 x11_l32 _ _ _ h hP hD hS (lv_sub hl [0, 1, 2, 3, 4, 5, 7] rfl)
    · have h := h.2 cc_
      refine lv_aload_n hx hb d_M_isNear_43 rfl (lv_at hl 0 rfl) ?_
      refine lv_lload hx hb d_M_isNear_44 (lv_at hl 4 rfl) ?_
      refine lv_lload hx hb d_M_isNear_46 (lv_at hl 5 rfl) ?_
      refine lv_iload_n hx hb d_M_isNear_48 rfl (lv_at hl 1 rfl) ?_
      refine lv_aload_n hx hb d_M_isNear_49 rfl (lv_at hl 0 rfl) ?_
      refine va_get (D := (dC, dI)) (ci := 5) (v := .int c_corners) (C := R_M) (T := F_M) (N := 32) hx hb hts i_M_in hown hK hP 0 rfl rfl 16 (by decide) (hts _ q_677) (fun _ h9 => h9) rfl d_M_isNear_50 ?_
      refine lv_iadd hx hb d_M_isNear_53 ?_
      refine lv_iload hx hb d_M_isNear_54 (lv_at hl 7 rfl) ?_
      refine lv_iadd hx hb d_M_isNear_56 ?_
      refine lv_iload hx hb d_M_isNear_57 (lv_at hl 3 rfl) ?_
      obtain ⟨Q59, hq59, h⟩ := h
      have hPc := hP.sub (ws' := (cw_M_isNearLine cI a_this a_cornerAt a_froms a_sizes a_xs a_ys a_colours a_layersOf a_areas a_used a_counts a_costs a_firsts a_manys a_fs a_px a_py a_groups a_joinF n_cornerAt n_froms n_sizes n_xs n_ys c_code c_width c_height c_isTraced c_outlines c_points c_hasPolygon c_of c_corners c_costSum c_hasCurves c_curveCount c_sharp c_allowed f_cornerAt f_froms f_sizes f_xs f_ys)) [0, 3, 4, 5, 6, 7] rfl
      have hDc := hD.sub (ws' := (cw_M_isNearLine cI a_this a_cornerAt a_froms a_sizes a_xs a_ys a_colours a_layersOf a_areas a_used a_counts a_costs a_firsts a_manys a_fs a_px a_py a_groups a_joinF n_cornerAt n_froms n_sizes n_xs n_ys c_code c_width c_height c_isTraced c_outlines c_points c_hasPolygon c_of c_corners c_costSum c_hasCurves c_curveCount c_sharp c_allowed f_cornerAt f_froms f_sizes f_xs f_ys)) [0, 3, 4, 5, 6, 7] (by decide) rfl
      have hFc := va_free (wc := (cw_M_isNearLine cI a_this a_cornerAt a_froms a_sizes a_xs a_ys a_colours a_layersOf a_areas a_used a_counts a_costs a_firsts a_manys a_fs a_px a_py a_groups a_joinF n_cornerAt n_froms n_sizes n_xs n_ys c_code c_width c_height c_isTraced c_outlines c_points c_hasPolygon c_of c_corners c_costSum c_hasCurves c_curveCount c_sharp c_allowed f_cornerAt f_froms f_sizes f_xs f_ys)) hD hS hA [0, 3, 4, 5, 6, 7] rfl
      refine va_calli (va_runV (As := [.long x6_11, .long x8_24, .int ((x1 + c_corners) + x11_l32), .int x5]) (rest := []) ⟨hx, hb, hml, hown, hts⟩ (c_M_isNearLine l dC dI cI cB cJ cZ a_this a_cornerAt a_froms a_sizes a_xs a_ys a_colours a_layersOf a_areas a_used a_counts a_costs a_firsts a_manys a_fs a_px a_py a_groups a_joinF H.size n_cornerAt n_froms n_sizes n_xs n_ys c_code c_width c_height c_isTraced c_outlines c_points c_hasPolygon c_of c_corners c_costSum c_hasCurves c_curveCount c_sharp c_allowed f_cornerAt f_froms f_sizes f_xs f_ys x6_11 x8_24 ((x1 + c_corners) + x11_l32) x5 Q59 hq59) (cwV 4 hts (goodV q_921 q_923 q_p55 q_7 q_924) rfl rfl rfl (by decide +kernel) ⟨Nat.le_of_ble_eq_true rfl, Nat.le_of_ble_eq_true rfl⟩) ⟨fun a U g mk q => by obtain ⟨q0, q1, qP, qK, qD⟩ := q; exact ⟨q0, q1, qP, va_K.moved (u := U) (U := U.calling g mk a) (Vm.Alike.refl U.vm) qK, qD⟩, va_recv hK hPc (ci := 5) (q0 := 0) rfl rfl, fun U hU hW => ⟨rfl, by rw [hU], by rw [hU]; exact hPc, va_K.moved hW.alike hK, hDc.weaken (fun _ _ _ _ => trivial)⟩⟩ rfl rfl hl.1 rfl (lv_room (Nat.le_of_ble_eq_true rfl)) d_M_isNear_59 ⟨Nat.le_of_ble_eq_true rfl, Nat.le_of_ble_eq_true rfl⟩) hS (fun q _ h => hFc q h) hFc (fun r59 u59 t H1 locs ht hvm hw hB hz1 hk1 hS => ?_)
      cases u59
      obtain ⟨hP1, -, hD1⟩ := hB
      rw [ht] at hP1
      have h := h r59 hw
      obtain ⟨hP, hD⟩ := va_join (wr := [(a_px, .inl (cI, n_px, .inl f_px)), (a_py, .inl (cI, n_py, .inl f_py))]) (w1 := (cw_M_isNearLine cI a_this a_cornerAt a_froms a_sizes a_xs a_ys a_colours a_layersOf a_areas a_used a_counts a_costs a_firsts a_manys a_fs a_px a_py a_groups a_joinF n_cornerAt n_froms n_sizes n_xs n_ys c_code c_width c_height c_isTraced c_outlines c_points c_hasPolygon c_of c_corners c_costSum c_hasCurves c_curveCount c_sharp c_allowed f_cornerAt f_froms f_sizes f_xs f_ys)) hP hD [0, 3, 4, 5, 6, 7] [1, 2] rfl rfl (by decide) (by decide) hk1 hFc hP1 hD1
      clear hP1 hD1 hk1 hPc hDc hFc
      generalize H1 = H at hP hS ⊢
      have hP : va_P (dC, dI) vwCl (cw_M_isNear cI a_this a_px a_py a_cornerAt a_froms a_sizes a_xs a_ys a_colours a_layersOf a_areas a_used a_counts a_costs a_firsts a_manys a_fs a_groups a_joinF n_px n_py n_cornerAt n_froms n_sizes n_xs n_ys c_code c_width c_height c_isTraced c_outlines c_points c_hasPolygon c_of c_corners c_costSum c_hasCurves c_curveCount c_sharp c_allowed f_px f_py f_cornerAt f_froms f_sizes f_xs f_ys) H := hP.sub [2, 0, 1, 3, 4, 5, 6, 7] rfl
      have hD : va_D A (cw_M_isNear cI a_this a_px a_py a_cornerAt a_froms a_sizes a_xs a_ys a_colours a_layersOf a_areas a_used a_counts a_costs a_firsts a_manys a_fs a_groups a_joinF n_px n_py n_cornerAt n_froms n_sizes n_xs n_ys c_code c_width c_height c_isTraced c_outlines c_points c_hasPolygon c_of c_corners c_costSum c_hasCurves c_curveCount c_sharp c_allowed f_px f_py f_cornerAt f_froms f_sizes f_xs f_ys) := hD.sub [2, 0, 1, 3, 4, 5, 6, 7] (by decide) rfl
      refine lv_if_eq (tgt := 69) hx hb d_M_isNear_62 (by decide) (fun cc_ => ?_) (fun cc_ => ?_)
      · have h := h.1 cc_
        refine lv_iconst (v := 0) hx hb d_M_isNear_69 (by decide) ?_
        exact J70 x11_l32 (0 : Int32) _ _ _ h hP hD hS (lv_sub hl [0, 1, 2, 3, 4, 5, 7] rfl)
      · have h := h.2 cc_
        exact J65 x11_l32 _ _ _ h hP hD hS (lv_sub hl [0, 1, 2, 3, 4, 5, 7] rfl)
